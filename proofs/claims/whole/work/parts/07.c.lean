def fX6_behaviour (x1 : Int32) (x2 : Int32) (M : Mem) : Option (Int32 × Mem) := (fX2_has x1 M).bind (fun (r1 : Int32) => if r1 = 0 then (some ((-2 : Int32), M)) else (if x2 < 0 then (some ((-3 : Int32), M)) else (if x2 ≤ (3 : Int32) then (gd x1 6 (nm ((M 2 (Int32.toNatClampNeg x1))) fun (v7 : Int32) => gd x1 6 (nm (st M 2 (Int32.toNatClampNeg x1) x2) fun (M9 : Mem) => some (v7, M9)))) else (some ((-3 : Int32), M)))))
theorem iX6_behaviour_X2 : ∀ w ∈ wsX20, w ∈ wsX6_behaviour := by decide +kernel
theorem iX6_behaviour_X6 : ∀ w ∈ wsX60, w ∈ wsX6_behaviour := by decide +kernel
theorem kX6_behaviour_23 : Cond.fieldLink RX6 23 "PartitionPlay" "net" "LPartitionPlay$Net;" ∈ wsX6_behaviour := by decide +kernel
theorem kX6_behaviour_50 : Cond.fieldLink RX6 50 "PartitionPlay$Net" "behaviours" "[I" ∈ wsX6_behaviour := by decide +kernel
abbrev rmX6_behaviour : Room := { frames := 1, cells := 0, slots := 0, locals := 21 }
set_option maxRecDepth 100000 in
set_option maxHeartbeats 4000000 in
theorem c_X6_behaviour (l : Launch) (D : va_G) (cI cZ : ClassId) (ad : Nat → Nat) (x1 : Int32) (x2 : Int32) (M : Mem) (r : Int32) (M' : Mem) (hf : fX6_behaviour x1 x2 M = some (r, M')) : MetI l yX6_behaviour wsX6_behaviour rmX6_behaviour D cI cZ ad [.ref (ad 0), .int x1, .int x2] M r M' := by
  refine met_i (cc := cX6_behaviour) (nL := 4) (ret := (some .int)) (own := RX6) (by decide) rfl rfl (Nat.le_of_ble_eq_true rfl) ?_
  intro p e s m args below meth c A G hr hlocks
  unfold fX6_behaviour at hf
  show Wk p l e (headSpec wsX6_behaviour rmX6_behaviour).room s m args below meth c D cI cZ ad A 4 0 0 (QI below D cI cZ ad A args s r M') M 0 [(0, .ref (ad 0)), (1, .int x1), (2, .int x2)] []
  refine wk_aload_n G 0 dX6_behaviour_0 rfl rfl ?_
  refine wk_get (ci := 6) (v := .ref (ad 1)) G iX6_behaviour_X6 0 (by decide) (ck0 cI cZ ad (M 0)) rfl 0 (Nat.le_of_ble_eq_true rfl) kX6_behaviour_23 rfl dX6_behaviour_1 ?_
  refine wk_iload_n G 1 dX6_behaviour_4 rfl rfl ?_
  obtain ⟨r1, q2, hf⟩ := bd_of hf
  refine wk_callVi (As := [.int x1]) (rest := []) (ci := 2) G 1 (by decide) (c_X2_has l D cI cZ ad x1 M r1 q2) (cwV 1 G.2.2.2.2.1 gX6_behaviour_X2_has rfl rfl rfl (by decide +kernel) ⟨Nat.le_of_ble_eq_true rfl, Nat.le_of_ble_eq_true rfl⟩) (ck1 cI cZ ad (M 1)) rfl rfl rfl (Nat.le_of_ble_eq_true rfl) dX6_behaviour_5 ⟨Nat.le_of_ble_eq_true rfl, Nat.le_of_ble_eq_true rfl⟩ ?_
  refine wk_if_ne (tgt := 14) G dX6_behaviour_8 (by decide) (fun c3 => ?_) (fun c3 => ?_)
  · replace hf := it_f c3 hf
    refine wk_iload_n G 2 dX6_behaviour_14 rfl rfl ?_
    refine wk_if_lt (tgt := 23) G dX6_behaviour_15 (by decide) (fun c4 => ?_) (fun c4 => ?_)
    · replace hf := it_t c4 hf
      refine wk_bipush (v := (-3 : Int32)) G dX6_behaviour_23 (by decide) ?_
      exact wk_ri G hr hlocks dX6_behaviour_25 (Option.some.inj hf)
    · replace hf := it_f c4 hf
      refine wk_iload_n G 2 dX6_behaviour_18 rfl rfl ?_
      refine wk_iconst (v := (3 : Int32)) G dX6_behaviour_19 (by decide) ?_
      refine wk_icmp_le (tgt := 26) G dX6_behaviour_20 (by decide) (fun c5 => ?_) (fun c5 => ?_)
      · replace hf := it_t c5 hf
        refine wk_aload_n G 0 dX6_behaviour_26 rfl rfl ?_
        refine wk_get (ci := 6) (v := .ref (ad 1)) G iX6_behaviour_X6 0 (by decide) (ck0 cI cZ ad (M 0)) rfl 0 (Nat.le_of_ble_eq_true rfl) kX6_behaviour_23 rfl dX6_behaviour_27 ?_
        refine wk_get (ci := 2) (v := .ref (ad 2)) G iX6_behaviour_X2 1 (by decide) (ck1 cI cZ ad (M 1)) rfl 1 (Nat.le_of_ble_eq_true rfl) kX6_behaviour_50 rfl dX6_behaviour_30 ?_
        refine wk_iload_n G 1 dX6_behaviour_33 rfl rfl ?_
        obtain ⟨h6, hf⟩ := gd_of hf
        refine wk_iald G 2 (by decide) (ck2 cI cZ ad) h6 dX6_behaviour_34 ?_
        obtain ⟨v7, ev7, hf⟩ := nm_ex hf
        refine wk_nme ev7 ?_
        refine wk_istore_n (lv' := [(3, .int v7), (0, .ref (ad 0)), (1, .int x1), (2, .int x2)]) G dX6_behaviour_35 rfl (by decide) rfl ?_
        refine wk_aload_n G 1 dX6_behaviour_36 rfl rfl ?_
        refine wk_get (ci := 6) (v := .ref (ad 1)) G iX6_behaviour_X6 0 (by decide) (ck0 cI cZ ad (M 0)) rfl 0 (Nat.le_of_ble_eq_true rfl) kX6_behaviour_23 rfl dX6_behaviour_37 ?_
        refine wk_get (ci := 2) (v := .ref (ad 2)) G iX6_behaviour_X2 1 (by decide) (ck1 cI cZ ad (M 1)) rfl 1 (Nat.le_of_ble_eq_true rfl) kX6_behaviour_50 rfl dX6_behaviour_40 ?_
        refine wk_iload_n G 2 dX6_behaviour_43 rfl rfl ?_
        refine wk_iload_n G 3 dX6_behaviour_44 rfl rfl ?_
        obtain ⟨h8, hf⟩ := gd_of hf
        obtain ⟨M9, eM9, hf⟩ := nm_ex hf
        refine wk_iast G 2 (by decide) (ck2 cI cZ ad) h8 dX6_behaviour_45 eM9 ?_
        refine wk_iload_n G 0 dX6_behaviour_46 rfl rfl ?_
        exact wk_ri G hr hlocks dX6_behaviour_47 (Option.some.inj hf)
      · replace hf := it_f c5 hf
        refine wk_bipush (v := (-3 : Int32)) G dX6_behaviour_23 (by decide) ?_
        exact wk_ri G hr hlocks dX6_behaviour_25 (Option.some.inj hf)
  · replace hf := it_t c3 hf
    refine wk_bipush (v := (-2 : Int32)) G dX6_behaviour_11 (by decide) ?_
    exact wk_ri G hr hlocks dX6_behaviour_13 (Option.some.inj hf)
def fX6_isWait (x0 : Int32) : Option Int32 := if x0 < (1 : Int32) then (some (0 : Int32)) else (if (5 : Int32) < x0 then (some (0 : Int32)) else (some (1 : Int32)))
abbrev rmX6_isWait : Room := { frames := 0, cells := 0, slots := 0, locals := 0 }
set_option maxRecDepth 100000 in
set_option maxHeartbeats 4000000 in
theorem c_X6_isWait (l : Launch) (D : va_G) (cI cZ : ClassId) (ad : Nat → Nat) (x0 : Int32) (M : Mem) (r : Int32) (hf : fX6_isWait x0 = some r) : MetI l yX6_isWait wsX6_isWait rmX6_isWait D cI cZ ad [.int x0] M r M := by
  refine met_i (cc := cX6_isWait) (nL := 1) (ret := (some .boolean)) (own := RX6) (by decide) rfl rfl (Nat.le_of_ble_eq_true rfl) ?_
  intro p e s m args below meth c A G hr hlocks
  unfold fX6_isWait at hf
  show Wk p l e (headSpec wsX6_isWait rmX6_isWait).room s m args below meth c D cI cZ ad A 1 0 0 (QI below D cI cZ ad A args s r M) M 0 [(0, .int x0)] []
  refine wk_iload_n G 0 dX6_isWait_0 rfl rfl ?_
  refine wk_iconst (v := (1 : Int32)) G dX6_isWait_1 (by decide) ?_
  refine wk_icmp_lt (tgt := 14) G dX6_isWait_2 (by decide) (fun c1 => ?_) (fun c1 => ?_)
  · replace hf := it_t c1 hf
    refine wk_iconst (v := (0 : Int32)) G dX6_isWait_14 (by decide) ?_
    exact wk_rz G hr hlocks (Or.inl rfl) dX6_isWait_15 (congrArg (fun z => (z, M)) (Option.some.inj hf))
  · replace hf := it_f c1 hf
    refine wk_iload_n G 0 dX6_isWait_5 rfl rfl ?_
    refine wk_iconst (v := (5 : Int32)) G dX6_isWait_6 (by decide) ?_
    refine wk_icmp_gt (tgt := 14) G dX6_isWait_7 (by decide) (fun c2 => ?_) (fun c2 => ?_)
    · replace hf := it_t c2 hf
      refine wk_iconst (v := (0 : Int32)) G dX6_isWait_14 (by decide) ?_
      exact wk_rz G hr hlocks (Or.inl rfl) dX6_isWait_15 (congrArg (fun z => (z, M)) (Option.some.inj hf))
    · replace hf := it_f c2 hf
      refine wk_iconst (v := (1 : Int32)) G dX6_isWait_10 (by decide) ?_
      refine wk_goto (tgt := 15) G dX6_isWait_11 (by decide) ?_
      exact wk_rz G hr hlocks (Or.inr rfl) dX6_isWait_15 (congrArg (fun z => (z, M)) (Option.some.inj hf))
def fX6_delay (x1 : Int32) (x2 : Int32) (x3 : Int32) (M : Mem) : Option (Int32 × Mem) := (fX2_has x1 M).bind (fun (r1 : Int32) => if r1 = 0 then (some ((-2 : Int32), M)) else ((fX2_has x2 M).bind (fun (r4 : Int32) => if r4 = 0 then (some ((-2 : Int32), M)) else (if x1 = x2 then (some ((-2 : Int32), M)) else ((fX6_isWait x3).bind (fun (r8 : Int32) => if r8 = 0 then (some ((-3 : Int32), M)) else ((fX6_pair x1 x2).bind (fun (r11 : Int32) => gd r11 36 (nm ((M 3 (Int32.toNatClampNeg r11))) fun (v14 : Int32) => (fX6_pair x1 x2).bind (fun (r15 : Int32) => gd r15 36 (nm (st M 3 (Int32.toNatClampNeg r15) x3) fun (M18 : Mem) => some (v14, M18))))))))))))
theorem iX6_delay_X2 : ∀ w ∈ wsX20, w ∈ wsX6_delay := by decide +kernel
theorem iX6_delay_X6 : ∀ w ∈ wsX60, w ∈ wsX6_delay := by decide +kernel
theorem kX6_delay_23 : Cond.fieldLink RX6 23 "PartitionPlay" "net" "LPartitionPlay$Net;" ∈ wsX6_delay := by decide +kernel
theorem kX6_delay_57 : Cond.fieldLink RX6 57 "PartitionPlay$Net" "delays" "[I" ∈ wsX6_delay := by decide +kernel
abbrev rmX6_delay : Room := { frames := 1, cells := 0, slots := 0, locals := 21 }
set_option maxRecDepth 100000 in
set_option maxHeartbeats 4000000 in
theorem c_X6_delay (l : Launch) (D : va_G) (cI cZ : ClassId) (ad : Nat → Nat) (x1 : Int32) (x2 : Int32) (x3 : Int32) (M : Mem) (r : Int32) (M' : Mem) (hf : fX6_delay x1 x2 x3 M = some (r, M')) : MetI l yX6_delay wsX6_delay rmX6_delay D cI cZ ad [.ref (ad 0), .int x1, .int x2, .int x3] M r M' := by
  refine met_i (cc := cX6_delay) (nL := 5) (ret := (some .int)) (own := RX6) (by decide) rfl rfl (Nat.le_of_ble_eq_true rfl) ?_
  intro p e s m args below meth c A G hr hlocks
  unfold fX6_delay at hf
  show Wk p l e (headSpec wsX6_delay rmX6_delay).room s m args below meth c D cI cZ ad A 5 0 0 (QI below D cI cZ ad A args s r M') M 0 [(0, .ref (ad 0)), (1, .int x1), (2, .int x2), (3, .int x3)] []
  refine wk_aload_n G 0 dX6_delay_0 rfl rfl ?_
  refine wk_get (ci := 6) (v := .ref (ad 1)) G iX6_delay_X6 0 (by decide) (ck0 cI cZ ad (M 0)) rfl 0 (Nat.le_of_ble_eq_true rfl) kX6_delay_23 rfl dX6_delay_1 ?_
  refine wk_iload_n G 1 dX6_delay_4 rfl rfl ?_
  obtain ⟨r1, q2, hf⟩ := bd_of hf
  refine wk_callVi (As := [.int x1]) (rest := []) (ci := 2) G 1 (by decide) (c_X2_has l D cI cZ ad x1 M r1 q2) (cwV 1 G.2.2.2.2.1 gX6_delay_X2_has rfl rfl rfl (by decide +kernel) ⟨Nat.le_of_ble_eq_true rfl, Nat.le_of_ble_eq_true rfl⟩) (ck1 cI cZ ad (M 1)) rfl rfl rfl (Nat.le_of_ble_eq_true rfl) dX6_delay_5 ⟨Nat.le_of_ble_eq_true rfl, Nat.le_of_ble_eq_true rfl⟩ ?_
  refine wk_if_eq (tgt := 27) G dX6_delay_8 (by decide) (fun c3 => ?_) (fun c3 => ?_)
  · replace hf := it_t c3 hf
    refine wk_bipush (v := (-2 : Int32)) G dX6_delay_27 (by decide) ?_
    exact wk_ri G hr hlocks dX6_delay_29 (Option.some.inj hf)
  · replace hf := it_f c3 hf
    refine wk_aload_n G 0 dX6_delay_11 rfl rfl ?_
    refine wk_get (ci := 6) (v := .ref (ad 1)) G iX6_delay_X6 0 (by decide) (ck0 cI cZ ad (M 0)) rfl 0 (Nat.le_of_ble_eq_true rfl) kX6_delay_23 rfl dX6_delay_12 ?_
    refine wk_iload_n G 2 dX6_delay_15 rfl rfl ?_
    obtain ⟨r4, q5, hf⟩ := bd_of hf
    refine wk_callVi (As := [.int x2]) (rest := []) (ci := 2) G 1 (by decide) (c_X2_has l D cI cZ ad x2 M r4 q5) (cwV 1 G.2.2.2.2.1 gX6_delay_X2_has rfl rfl rfl (by decide +kernel) ⟨Nat.le_of_ble_eq_true rfl, Nat.le_of_ble_eq_true rfl⟩) (ck1 cI cZ ad (M 1)) rfl rfl rfl (Nat.le_of_ble_eq_true rfl) dX6_delay_16 ⟨Nat.le_of_ble_eq_true rfl, Nat.le_of_ble_eq_true rfl⟩ ?_
    refine wk_if_eq (tgt := 27) G dX6_delay_19 (by decide) (fun c6 => ?_) (fun c6 => ?_)
    · replace hf := it_t c6 hf
      refine wk_bipush (v := (-2 : Int32)) G dX6_delay_27 (by decide) ?_
      exact wk_ri G hr hlocks dX6_delay_29 (Option.some.inj hf)
    · replace hf := it_f c6 hf
      refine wk_iload_n G 1 dX6_delay_22 rfl rfl ?_
      refine wk_iload_n G 2 dX6_delay_23 rfl rfl ?_
      refine wk_icmp_ne (tgt := 30) G dX6_delay_24 (by decide) (fun c7 => ?_) (fun c7 => ?_)
      · replace hf := it_f c7 hf
        refine wk_iload_n G 3 dX6_delay_30 rfl rfl ?_
        obtain ⟨r8, q9, hf⟩ := bd_of hf
        refine wk_callSi (As := [.int x3]) (rest := []) G (c_X6_isWait l D cI cZ ad x3 M r8 q9) (va_cwS 1 G.2.2.2.2.1 gX6_delay_X6_isWait rfl rfl rfl (by decide +kernel) ⟨Nat.le_of_ble_eq_true rfl, Nat.le_of_ble_eq_true rfl⟩) rfl rfl (Nat.le_of_ble_eq_true rfl) dX6_delay_31 ⟨Nat.le_of_ble_eq_true rfl, Nat.le_of_ble_eq_true rfl⟩ ?_
        refine wk_if_ne (tgt := 40) G dX6_delay_34 (by decide) (fun c10 => ?_) (fun c10 => ?_)
        · replace hf := it_f c10 hf
          refine wk_aload_n G 0 dX6_delay_40 rfl rfl ?_
          refine wk_get (ci := 6) (v := .ref (ad 1)) G iX6_delay_X6 0 (by decide) (ck0 cI cZ ad (M 0)) rfl 0 (Nat.le_of_ble_eq_true rfl) kX6_delay_23 rfl dX6_delay_41 ?_
          refine wk_get (ci := 2) (v := .ref (ad 3)) G iX6_delay_X2 1 (by decide) (ck1 cI cZ ad (M 1)) rfl 2 (Nat.le_of_ble_eq_true rfl) kX6_delay_57 rfl dX6_delay_44 ?_
          refine wk_iload_n G 1 dX6_delay_47 rfl rfl ?_
          refine wk_iload_n G 2 dX6_delay_48 rfl rfl ?_
          obtain ⟨r11, q12, hf⟩ := bd_of hf
          refine wk_callSi (As := [.int x1, .int x2]) (rest := [.ref (ad 3)]) G (c_X6_pair l D cI cZ ad x1 x2 M r11 q12) (va_cwS 2 G.2.2.2.2.1 gX6_delay_X6_pair rfl rfl rfl (by decide +kernel) ⟨Nat.le_of_ble_eq_true rfl, Nat.le_of_ble_eq_true rfl⟩) rfl rfl (Nat.le_of_ble_eq_true rfl) dX6_delay_49 ⟨Nat.le_of_ble_eq_true rfl, Nat.le_of_ble_eq_true rfl⟩ ?_
          obtain ⟨h13, hf⟩ := gd_of hf
          refine wk_iald G 3 (by decide) (ck3 cI cZ ad) h13 dX6_delay_52 ?_
          obtain ⟨v14, ev14, hf⟩ := nm_ex hf
          refine wk_nme ev14 ?_
          refine wk_istore (lv' := [(4, .int v14), (0, .ref (ad 0)), (1, .int x1), (2, .int x2), (3, .int x3)]) G dX6_delay_53 (by decide) rfl ?_
          refine wk_aload_n G 1 dX6_delay_55 rfl rfl ?_
          refine wk_get (ci := 6) (v := .ref (ad 1)) G iX6_delay_X6 0 (by decide) (ck0 cI cZ ad (M 0)) rfl 0 (Nat.le_of_ble_eq_true rfl) kX6_delay_23 rfl dX6_delay_56 ?_
          refine wk_get (ci := 2) (v := .ref (ad 3)) G iX6_delay_X2 1 (by decide) (ck1 cI cZ ad (M 1)) rfl 2 (Nat.le_of_ble_eq_true rfl) kX6_delay_57 rfl dX6_delay_59 ?_
          refine wk_iload_n G 2 dX6_delay_62 rfl rfl ?_
          refine wk_iload_n G 3 dX6_delay_63 rfl rfl ?_
          obtain ⟨r15, q16, hf⟩ := bd_of hf
          refine wk_callSi (As := [.int x1, .int x2]) (rest := [.ref (ad 3)]) G (c_X6_pair l D cI cZ ad x1 x2 M r15 q16) (va_cwS 2 G.2.2.2.2.1 gX6_delay_X6_pair rfl rfl rfl (by decide +kernel) ⟨Nat.le_of_ble_eq_true rfl, Nat.le_of_ble_eq_true rfl⟩) rfl rfl (Nat.le_of_ble_eq_true rfl) dX6_delay_64 ⟨Nat.le_of_ble_eq_true rfl, Nat.le_of_ble_eq_true rfl⟩ ?_
          refine wk_iload_n G 4 dX6_delay_67 rfl rfl ?_
          obtain ⟨h17, hf⟩ := gd_of hf
          obtain ⟨M18, eM18, hf⟩ := nm_ex hf
          refine wk_iast G 3 (by decide) (ck3 cI cZ ad) h17 dX6_delay_68 eM18 ?_
          refine wk_iload G 0 dX6_delay_69 rfl ?_
          exact wk_ri G hr hlocks dX6_delay_71 (Option.some.inj hf)
        · replace hf := it_t c10 hf
          refine wk_bipush (v := (-3 : Int32)) G dX6_delay_37 (by decide) ?_
          exact wk_ri G hr hlocks dX6_delay_39 (Option.some.inj hf)
      · replace hf := it_t c7 hf
        refine wk_bipush (v := (-2 : Int32)) G dX6_delay_27 (by decide) ?_
        exact wk_ri G hr hlocks dX6_delay_29 (Option.some.inj hf)
def fX6_isRumour (x0 : Int32) : Option Int32 := if x0 < 0 then (some (0 : Int32)) else (if (8 : Int32) ≤ x0 then (some (0 : Int32)) else (some (1 : Int32)))
abbrev rmX6_isRumour : Room := { frames := 0, cells := 0, slots := 0, locals := 0 }
set_option maxRecDepth 100000 in
set_option maxHeartbeats 4000000 in
theorem c_X6_isRumour (l : Launch) (D : va_G) (cI cZ : ClassId) (ad : Nat → Nat) (x0 : Int32) (M : Mem) (r : Int32) (hf : fX6_isRumour x0 = some r) : MetI l yX6_isRumour wsX6_isRumour rmX6_isRumour D cI cZ ad [.int x0] M r M := by
  refine met_i (cc := cX6_isRumour) (nL := 1) (ret := (some .boolean)) (own := RX6) (by decide) rfl rfl (Nat.le_of_ble_eq_true rfl) ?_
  intro p e s m args below meth c A G hr hlocks
  unfold fX6_isRumour at hf
  show Wk p l e (headSpec wsX6_isRumour rmX6_isRumour).room s m args below meth c D cI cZ ad A 1 0 0 (QI below D cI cZ ad A args s r M) M 0 [(0, .int x0)] []
  refine wk_iload_n G 0 dX6_isRumour_0 rfl rfl ?_
  refine wk_if_lt (tgt := 14) G dX6_isRumour_1 (by decide) (fun c1 => ?_) (fun c1 => ?_)
  · replace hf := it_t c1 hf
    refine wk_iconst (v := (0 : Int32)) G dX6_isRumour_14 (by decide) ?_
    exact wk_rz G hr hlocks (Or.inl rfl) dX6_isRumour_15 (congrArg (fun z => (z, M)) (Option.some.inj hf))
  · replace hf := it_f c1 hf
    refine wk_iload_n G 0 dX6_isRumour_4 rfl rfl ?_
    refine wk_bipush (v := (8 : Int32)) G dX6_isRumour_5 (by decide) ?_
    refine wk_icmp_ge (tgt := 14) G dX6_isRumour_7 (by decide) (fun c2 => ?_) (fun c2 => ?_)
    · replace hf := it_t c2 hf
      refine wk_iconst (v := (0 : Int32)) G dX6_isRumour_14 (by decide) ?_
      exact wk_rz G hr hlocks (Or.inl rfl) dX6_isRumour_15 (congrArg (fun z => (z, M)) (Option.some.inj hf))
    · replace hf := it_f c2 hf
      refine wk_iconst (v := (1 : Int32)) G dX6_isRumour_10 (by decide) ?_
      refine wk_goto (tgt := 15) G dX6_isRumour_11 (by decide) ?_
      exact wk_rz G hr hlocks (Or.inr rfl) dX6_isRumour_15 (congrArg (fun z => (z, M)) (Option.some.inj hf))
def fX6_tell (x1 : Int32) (x2 : Int32) (M : Mem) : Option (Int32 × Mem) := (fX2_has x1 M).bind (fun (r1 : Int32) => if r1 = 0 then (some ((-2 : Int32), M)) else ((fX6_isRumour x2).bind (fun (r4 : Int32) => if r4 = 0 then (some ((-2 : Int32), M)) else (gd x1 6 (gd x1 6 (nm (st M 4 (Int32.toNatClampNeg x1) ((M 4 (Int32.toNatClampNeg x1)) ||| ((1 : Int32) <<< (x2 &&& 31)))) fun (M9 : Mem) => gd x1 6 ((fJ6_bitCount_0f7a4 (M9 4 (Int32.toNatClampNeg x1))).bind (fun (r11 : Int32) => some (r11, M9)))))))))
theorem iX6_tell_X2 : ∀ w ∈ wsX20, w ∈ wsX6_tell := by decide +kernel
theorem iX6_tell_X6 : ∀ w ∈ wsX60, w ∈ wsX6_tell := by decide +kernel
theorem kX6_tell_23 : Cond.fieldLink RX6 23 "PartitionPlay" "net" "LPartitionPlay$Net;" ∈ wsX6_tell := by decide +kernel
theorem kX6_tell_66 : Cond.fieldLink RX6 66 "PartitionPlay$Net" "rumours" "[I" ∈ wsX6_tell := by decide +kernel
abbrev rmX6_tell : Room := { frames := 1, cells := 0, slots := 0, locals := 21 }
set_option maxRecDepth 100000 in
set_option maxHeartbeats 4000000 in
theorem c_X6_tell (l : Launch) (D : va_G) (cI cZ : ClassId) (ad : Nat → Nat) (x1 : Int32) (x2 : Int32) (M : Mem) (r : Int32) (M' : Mem) (hf : fX6_tell x1 x2 M = some (r, M')) : MetI l yX6_tell wsX6_tell rmX6_tell D cI cZ ad [.ref (ad 0), .int x1, .int x2] M r M' := by
  refine met_i (cc := cX6_tell) (nL := 3) (ret := (some .int)) (own := RX6) (by decide) rfl rfl (Nat.le_of_ble_eq_true rfl) ?_
  intro p e s m args below meth c A G hr hlocks
  unfold fX6_tell at hf
  show Wk p l e (headSpec wsX6_tell rmX6_tell).room s m args below meth c D cI cZ ad A 3 0 0 (QI below D cI cZ ad A args s r M') M 0 [(0, .ref (ad 0)), (1, .int x1), (2, .int x2)] []
  refine wk_aload_n G 0 dX6_tell_0 rfl rfl ?_
  refine wk_get (ci := 6) (v := .ref (ad 1)) G iX6_tell_X6 0 (by decide) (ck0 cI cZ ad (M 0)) rfl 0 (Nat.le_of_ble_eq_true rfl) kX6_tell_23 rfl dX6_tell_1 ?_
  refine wk_iload_n G 1 dX6_tell_4 rfl rfl ?_
  obtain ⟨r1, q2, hf⟩ := bd_of hf
  refine wk_callVi (As := [.int x1]) (rest := []) (ci := 2) G 1 (by decide) (c_X2_has l D cI cZ ad x1 M r1 q2) (cwV 1 G.2.2.2.2.1 gX6_tell_X2_has rfl rfl rfl (by decide +kernel) ⟨Nat.le_of_ble_eq_true rfl, Nat.le_of_ble_eq_true rfl⟩) (ck1 cI cZ ad (M 1)) rfl rfl rfl (Nat.le_of_ble_eq_true rfl) dX6_tell_5 ⟨Nat.le_of_ble_eq_true rfl, Nat.le_of_ble_eq_true rfl⟩ ?_
  refine wk_if_eq (tgt := 18) G dX6_tell_8 (by decide) (fun c3 => ?_) (fun c3 => ?_)
  · replace hf := it_t c3 hf
    refine wk_bipush (v := (-2 : Int32)) G dX6_tell_18 (by decide) ?_
    exact wk_ri G hr hlocks dX6_tell_20 (Option.some.inj hf)
  · replace hf := it_f c3 hf
    refine wk_iload_n G 2 dX6_tell_11 rfl rfl ?_
    obtain ⟨r4, q5, hf⟩ := bd_of hf
    refine wk_callSi (As := [.int x2]) (rest := []) G (c_X6_isRumour l D cI cZ ad x2 M r4 q5) (va_cwS 1 G.2.2.2.2.1 gX6_tell_X6_isRumour rfl rfl rfl (by decide +kernel) ⟨Nat.le_of_ble_eq_true rfl, Nat.le_of_ble_eq_true rfl⟩) rfl rfl (Nat.le_of_ble_eq_true rfl) dX6_tell_12 ⟨Nat.le_of_ble_eq_true rfl, Nat.le_of_ble_eq_true rfl⟩ ?_
    refine wk_if_ne (tgt := 21) G dX6_tell_15 (by decide) (fun c6 => ?_) (fun c6 => ?_)
    · replace hf := it_f c6 hf
      refine wk_aload_n G 0 dX6_tell_21 rfl rfl ?_
      refine wk_get (ci := 6) (v := .ref (ad 1)) G iX6_tell_X6 0 (by decide) (ck0 cI cZ ad (M 0)) rfl 0 (Nat.le_of_ble_eq_true rfl) kX6_tell_23 rfl dX6_tell_22 ?_
      refine wk_get (ci := 2) (v := .ref (ad 4)) G iX6_tell_X2 1 (by decide) (ck1 cI cZ ad (M 1)) rfl 3 (Nat.le_of_ble_eq_true rfl) kX6_tell_66 rfl dX6_tell_25 ?_
      refine wk_iload_n G 1 dX6_tell_28 rfl rfl ?_
      refine wk_dup2 G dX6_tell_29 rfl rfl ?_
      obtain ⟨h7, hf⟩ := gd_of hf
      refine wk_iald G 4 (by decide) (ck4 cI cZ ad) h7 dX6_tell_30 ?_
      refine wk_iconst (v := (1 : Int32)) G dX6_tell_31 (by decide) ?_
      refine wk_iload_n G 2 dX6_tell_32 rfl rfl ?_
      refine wk_ishl G dX6_tell_33 ?_
      refine wk_ior G dX6_tell_34 ?_
      obtain ⟨h8, hf⟩ := gd_of hf
      obtain ⟨M9, eM9, hf⟩ := nm_ex hf
      refine wk_iast G 4 (by decide) (ck4 cI cZ ad) h8 dX6_tell_35 eM9 ?_
      refine wk_aload_n G 0 dX6_tell_36 rfl rfl ?_
      refine wk_get (ci := 6) (v := .ref (ad 1)) G iX6_tell_X6 0 (by decide) (ck0 cI cZ ad (M9 0)) rfl 0 (Nat.le_of_ble_eq_true rfl) kX6_tell_23 rfl dX6_tell_37 ?_
      refine wk_get (ci := 2) (v := .ref (ad 4)) G iX6_tell_X2 1 (by decide) (ck1 cI cZ ad (M9 1)) rfl 3 (Nat.le_of_ble_eq_true rfl) kX6_tell_66 rfl dX6_tell_40 ?_
      refine wk_iload_n G 1 dX6_tell_43 rfl rfl ?_
      obtain ⟨h10, hf⟩ := gd_of hf
      refine wk_iald G 4 (by decide) (ck4 cI cZ ad) h10 dX6_tell_44 ?_
      obtain ⟨r11, q12, hf⟩ := bd_of hf
      refine wk_callSi (As := [.int (M9 4 (Int32.toNatClampNeg x1))]) (rest := []) G (c_J6_bitCount_0f7a4 l D cI cZ ad (M9 4 (Int32.toNatClampNeg x1)) M9 r11 q12) (va_cwS 1 G.2.2.2.2.1 gX6_tell_J6_bitCount_0f7a4 rfl rfl rfl (by decide +kernel) ⟨Nat.le_of_ble_eq_true rfl, Nat.le_of_ble_eq_true rfl⟩) rfl rfl (Nat.le_of_ble_eq_true rfl) dX6_tell_45 ⟨Nat.le_of_ble_eq_true rfl, Nat.le_of_ble_eq_true rfl⟩ ?_
      exact wk_ri G hr hlocks dX6_tell_48 (Option.some.inj hf)
    · replace hf := it_t c6 hf
      refine wk_bipush (v := (-2 : Int32)) G dX6_tell_18 (by decide) ?_
      exact wk_ri G hr hlocks dX6_tell_20 (Option.some.inj hf)
def fX6_namesNode (x0 : Int32) : Option Int32 := nm (fun (u1 : Unit) => some (1 : Int32)) fun j10 => if x0 = (2 : Int32) then (j10 ()) else (if x0 = (3 : Int32) then (j10 ()) else (some (0 : Int32)))
abbrev rmX6_namesNode : Room := { frames := 0, cells := 0, slots := 0, locals := 0 }
set_option maxRecDepth 100000 in
set_option maxHeartbeats 4000000 in
theorem c_X6_namesNode (l : Launch) (D : va_G) (cI cZ : ClassId) (ad : Nat → Nat) (x0 : Int32) (M : Mem) (r : Int32) (hf : fX6_namesNode x0 = some r) : MetI l yX6_namesNode wsX6_namesNode rmX6_namesNode D cI cZ ad [.int x0] M r M := by
  refine met_i (cc := cX6_namesNode) (nL := 1) (ret := (some .boolean)) (own := RX6) (by decide) rfl rfl (Nat.le_of_ble_eq_true rfl) ?_
  intro p e s m args below meth c A G hr hlocks
  unfold fX6_namesNode at hf
  show Wk p l e (headSpec wsX6_namesNode rmX6_namesNode).room s m args below meth c D cI cZ ad A 1 0 0 (QI below D cI cZ ad A args s r M) M 0 [(0, .int x0)] []
  refine wk_iload_n G 0 dX6_namesNode_0 rfl rfl ?_
  refine wk_iconst (v := (2 : Int32)) G dX6_namesNode_1 (by decide) ?_
  obtain ⟨j10, ej10, hf⟩ := nm_ex hf
  have J10 : ∀ (u1 : Unit), j10 u1 = some r → Wk p l e (headSpec wsX6_namesNode rmX6_namesNode).room s m args below meth c D cI cZ ad A 1 0 0 (QI below D cI cZ ad A args s r M) M 10 [] [] := by
    intro u1 hf
    replace hf := jn1 ej10 hf
    refine wk_iconst (v := (1 : Int32)) G dX6_namesNode_10 (by decide) ?_
    refine wk_goto (tgt := 15) G dX6_namesNode_11 (by decide) ?_
    exact wk_rz G hr hlocks (Or.inr rfl) dX6_namesNode_15 (congrArg (fun z => (z, M)) (Option.some.inj hf))
  refine wk_icmp_eq (tgt := 10) G dX6_namesNode_2 (by decide) (fun c2 => ?_) (fun c2 => ?_)
  · replace hf := it_t c2 hf
    refine wk_sub [] rfl ?_
    exact J10 () hf
  · replace hf := it_f c2 hf
    refine wk_iload_n G 0 dX6_namesNode_5 rfl rfl ?_
    refine wk_iconst (v := (3 : Int32)) G dX6_namesNode_6 (by decide) ?_
    refine wk_icmp_ne (tgt := 14) G dX6_namesNode_7 (by decide) (fun c3 => ?_) (fun c3 => ?_)
    · replace hf := it_f c3 hf
      refine wk_iconst (v := (0 : Int32)) G dX6_namesNode_14 (by decide) ?_
      exact wk_rz G hr hlocks (Or.inl rfl) dX6_namesNode_15 (congrArg (fun z => (z, M)) (Option.some.inj hf))
    · replace hf := it_t c3 hf
      refine wk_sub [] rfl ?_
      exact J10 () hf
def fX6_hasWait (x0 : Int32) : Option Int32 := nm (fun (u1 : Unit) => some (1 : Int32)) fun j11 => if x0 = (5 : Int32) then (j11 ()) else (if x0 = (6 : Int32) then (j11 ()) else (some (0 : Int32)))
abbrev rmX6_hasWait : Room := { frames := 0, cells := 0, slots := 0, locals := 0 }
set_option maxRecDepth 100000 in
set_option maxHeartbeats 4000000 in
theorem c_X6_hasWait (l : Launch) (D : va_G) (cI cZ : ClassId) (ad : Nat → Nat) (x0 : Int32) (M : Mem) (r : Int32) (hf : fX6_hasWait x0 = some r) : MetI l yX6_hasWait wsX6_hasWait rmX6_hasWait D cI cZ ad [.int x0] M r M := by
  refine met_i (cc := cX6_hasWait) (nL := 1) (ret := (some .boolean)) (own := RX6) (by decide) rfl rfl (Nat.le_of_ble_eq_true rfl) ?_
  intro p e s m args below meth c A G hr hlocks
  unfold fX6_hasWait at hf
  show Wk p l e (headSpec wsX6_hasWait rmX6_hasWait).room s m args below meth c D cI cZ ad A 1 0 0 (QI below D cI cZ ad A args s r M) M 0 [(0, .int x0)] []
  refine wk_iload_n G 0 dX6_hasWait_0 rfl rfl ?_
  refine wk_iconst (v := (5 : Int32)) G dX6_hasWait_1 (by decide) ?_
  obtain ⟨j11, ej11, hf⟩ := nm_ex hf
  have J11 : ∀ (u1 : Unit), j11 u1 = some r → Wk p l e (headSpec wsX6_hasWait rmX6_hasWait).room s m args below meth c D cI cZ ad A 1 0 0 (QI below D cI cZ ad A args s r M) M 11 [] [] := by
    intro u1 hf
    replace hf := jn1 ej11 hf
    refine wk_iconst (v := (1 : Int32)) G dX6_hasWait_11 (by decide) ?_
    refine wk_goto (tgt := 16) G dX6_hasWait_12 (by decide) ?_
    exact wk_rz G hr hlocks (Or.inr rfl) dX6_hasWait_16 (congrArg (fun z => (z, M)) (Option.some.inj hf))
  refine wk_icmp_eq (tgt := 11) G dX6_hasWait_2 (by decide) (fun c2 => ?_) (fun c2 => ?_)
  · replace hf := it_t c2 hf
    refine wk_sub [] rfl ?_
    exact J11 () hf
  · replace hf := it_f c2 hf
    refine wk_iload_n G 0 dX6_hasWait_5 rfl rfl ?_
    refine wk_bipush (v := (6 : Int32)) G dX6_hasWait_6 (by decide) ?_
    refine wk_icmp_ne (tgt := 15) G dX6_hasWait_8 (by decide) (fun c3 => ?_) (fun c3 => ?_)
    · replace hf := it_f c3 hf
      refine wk_iconst (v := (0 : Int32)) G dX6_hasWait_15 (by decide) ?_
      exact wk_rz G hr hlocks (Or.inl rfl) dX6_hasWait_16 (congrArg (fun z => (z, M)) (Option.some.inj hf))
    · replace hf := it_t c3 hf
      refine wk_sub [] rfl ?_
      exact J11 () hf
def fX6_event (x1 : Int32) (x2 : Int32) (x3 : Int32) (x4 : Int32) (M : Mem) : Option (Int32 × Mem) := if x1 < 0 then (some ((-2 : Int32), M)) else (if (6 : Int32) < x1 then (some ((-2 : Int32), M)) else ((fX6_namesNode x1).bind (fun (r3 : Int32) => nm (fun (u5 : Unit) => (fX6_isTimed x1).bind (fun (r6 : Int32) => nm (fun (u8 : Unit) => nm (fun (u9 : Unit) => (fX6_namesLetter x1).bind (fun (r10 : Int32) => nm (fun (u12 : Unit) => (fX6_hasWait x1).bind (fun (r13 : Int32) => nm (fun (u15 : Unit) => (fX6_isTimed x1).bind (fun (r16 : Int32) => nm (fun (v18 : Int32) => nm (fun (v19 : Int32) => (fX6_hasWait x1).bind (fun (r20 : Int32) => nm (fun (v22 : Int32) => (fX5_add x1 v18 v19 v22 M).bind (un2 fun (r23 : Int32) (M24 : Mem) => some (r23, M24))) fun j135 => if r20 = 0 then (j135 (0 : Int32)) else (j135 x4))) fun j122 => if x1 = (1 : Int32) then (j122 (0 : Int32)) else (j122 x3)) fun j112 => if r16 = 0 then (j112 (0 : Int32)) else (j112 x2))) fun j95 => if r13 = 0 then (j95 ()) else ((fX6_isWait x4).bind (fun (r30 : Int32) => if r30 = 0 then (some ((-3 : Int32), M)) else (j95 ()))))) fun j77 => if r10 = 0 then (j77 ()) else ((fX6_isLetter x3).bind (fun (r34 : Int32) => if r34 = 0 then (some ((-3 : Int32), M)) else (j77 ()))))) fun j63 => if x1 = 0 then ((fX2_hasAllOf x3 M).bind (fun (r38 : Int32) => if r38 = 0 then (some ((-3 : Int32), M)) else (j63 ()))) else (j63 ())) fun j45 => if r6 = 0 then (j45 ()) else ((fX6_isTurn x2).bind (fun (r42 : Int32) => if r42 = 0 then (some ((-3 : Int32), M)) else (j45 ()))))) fun j31 => if r3 = 0 then (j31 ()) else ((fX2_has x3 M).bind (fun (r46 : Int32) => if r46 = 0 then (some ((-2 : Int32), M)) else (j31 ()))))))
theorem iX6_event_X6 : ∀ w ∈ wsX60, w ∈ wsX6_event := by decide +kernel
theorem kX6_event_23 : Cond.fieldLink RX6 23 "PartitionPlay" "net" "LPartitionPlay$Net;" ∈ wsX6_event := by decide +kernel
theorem kX6_event_30 : Cond.fieldLink RX6 30 "PartitionPlay" "schedule" "LPartitionPlay$Schedule;" ∈ wsX6_event := by decide +kernel
abbrev rmX6_event : Room := { frames := 3, cells := 0, slots := 0, locals := 66 }
set_option maxRecDepth 100000 in
set_option maxHeartbeats 4000000 in
theorem c_X6_event (l : Launch) (D : va_G) (cI cZ : ClassId) (ad : Nat → Nat) (x1 : Int32) (x2 : Int32) (x3 : Int32) (x4 : Int32) (M : Mem) (r : Int32) (M' : Mem) (hf : fX6_event x1 x2 x3 x4 M = some (r, M')) : MetI l yX6_event wsX6_event rmX6_event D cI cZ ad [.ref (ad 0), .int x1, .int x2, .int x3, .int x4] M r M' := by
  refine met_i (cc := cX6_event) (nL := 5) (ret := (some .int)) (own := RX6) (by decide) rfl rfl (Nat.le_of_ble_eq_true rfl) ?_
  intro p e s m args below meth c A G hr hlocks
  unfold fX6_event at hf
  show Wk p l e (headSpec wsX6_event rmX6_event).room s m args below meth c D cI cZ ad A 5 0 0 (QI below D cI cZ ad A args s r M') M 0 [(0, .ref (ad 0)), (1, .int x1), (2, .int x2), (3, .int x3), (4, .int x4)] []
  refine wk_iload_n G 1 dX6_event_0 rfl rfl ?_
  refine wk_if_lt (tgt := 28) G dX6_event_1 (by decide) (fun c1 => ?_) (fun c1 => ?_)
  · replace hf := it_t c1 hf
    refine wk_bipush (v := (-2 : Int32)) G dX6_event_28 (by decide) ?_
    exact wk_ri G hr hlocks dX6_event_30 (Option.some.inj hf)
  · replace hf := it_f c1 hf
    refine wk_iload_n G 1 dX6_event_4 rfl rfl ?_
    refine wk_bipush (v := (6 : Int32)) G dX6_event_5 (by decide) ?_
    refine wk_icmp_gt (tgt := 28) G dX6_event_7 (by decide) (fun c2 => ?_) (fun c2 => ?_)
    · replace hf := it_t c2 hf
      refine wk_bipush (v := (-2 : Int32)) G dX6_event_28 (by decide) ?_
      exact wk_ri G hr hlocks dX6_event_30 (Option.some.inj hf)
    · replace hf := it_f c2 hf
      refine wk_iload_n G 1 dX6_event_10 rfl rfl ?_
      obtain ⟨r3, q4, hf⟩ := bd_of hf
      refine wk_callSi (As := [.int x1]) (rest := []) G (c_X6_namesNode l D cI cZ ad x1 M r3 q4) (va_cwS 1 G.2.2.2.2.1 gX6_event_X6_namesNode rfl rfl rfl (by decide +kernel) ⟨Nat.le_of_ble_eq_true rfl, Nat.le_of_ble_eq_true rfl⟩) rfl rfl (Nat.le_of_ble_eq_true rfl) dX6_event_11 ⟨Nat.le_of_ble_eq_true rfl, Nat.le_of_ble_eq_true rfl⟩ ?_
      obtain ⟨j31, ej31, hf⟩ := nm_ex hf
      have J31 : ∀ (u5 : Unit), j31 u5 = some (r, M') → Wk p l e (headSpec wsX6_event rmX6_event).room s m args below meth c D cI cZ ad A 5 0 0 (QI below D cI cZ ad A args s r M') M 31 [(0, .ref (ad 0)), (1, .int x1), (2, .int x2), (3, .int x3), (4, .int x4)] [] := by
        intro u5 hf
        replace hf := jn1 ej31 hf
        refine wk_iload_n G 1 dX6_event_31 rfl rfl ?_
        obtain ⟨r6, q7, hf⟩ := bd_of hf
        refine wk_callSi (As := [.int x1]) (rest := []) G (c_X6_isTimed l D cI cZ ad x1 M r6 q7) (va_cwS 1 G.2.2.2.2.1 gX6_event_X6_isTimed rfl rfl rfl (by decide +kernel) ⟨Nat.le_of_ble_eq_true rfl, Nat.le_of_ble_eq_true rfl⟩) rfl rfl (Nat.le_of_ble_eq_true rfl) dX6_event_32 ⟨Nat.le_of_ble_eq_true rfl, Nat.le_of_ble_eq_true rfl⟩ ?_
        obtain ⟨j45, ej45, hf⟩ := nm_ex hf
        have J45 : ∀ (u8 : Unit), j45 u8 = some (r, M') → Wk p l e (headSpec wsX6_event rmX6_event).room s m args below meth c D cI cZ ad A 5 0 0 (QI below D cI cZ ad A args s r M') M 45 [(0, .ref (ad 0)), (1, .int x1), (2, .int x2), (3, .int x3), (4, .int x4)] [] := by
          intro u8 hf
          replace hf := jn1 ej45 hf
          refine wk_iload_n G 1 dX6_event_45 rfl rfl ?_
          obtain ⟨j63, ej63, hf⟩ := nm_ex hf
          have J63 : ∀ (u9 : Unit), j63 u9 = some (r, M') → Wk p l e (headSpec wsX6_event rmX6_event).room s m args below meth c D cI cZ ad A 5 0 0 (QI below D cI cZ ad A args s r M') M 63 [(0, .ref (ad 0)), (1, .int x1), (2, .int x2), (3, .int x3), (4, .int x4)] [] := by
            intro u9 hf
            replace hf := jn1 ej63 hf
            refine wk_iload_n G 1 dX6_event_63 rfl rfl ?_
            obtain ⟨r10, q11, hf⟩ := bd_of hf
            refine wk_callSi (As := [.int x1]) (rest := []) G (c_X6_namesLetter l D cI cZ ad x1 M r10 q11) (va_cwS 1 G.2.2.2.2.1 gX6_event_X6_namesLetter rfl rfl rfl (by decide +kernel) ⟨Nat.le_of_ble_eq_true rfl, Nat.le_of_ble_eq_true rfl⟩) rfl rfl (Nat.le_of_ble_eq_true rfl) dX6_event_64 ⟨Nat.le_of_ble_eq_true rfl, Nat.le_of_ble_eq_true rfl⟩ ?_
            obtain ⟨j77, ej77, hf⟩ := nm_ex hf
            have J77 : ∀ (u12 : Unit), j77 u12 = some (r, M') → Wk p l e (headSpec wsX6_event rmX6_event).room s m args below meth c D cI cZ ad A 5 0 0 (QI below D cI cZ ad A args s r M') M 77 [(0, .ref (ad 0)), (1, .int x1), (2, .int x2), (3, .int x3), (4, .int x4)] [] := by
              intro u12 hf
              replace hf := jn1 ej77 hf
              refine wk_iload_n G 1 dX6_event_77 rfl rfl ?_
              obtain ⟨r13, q14, hf⟩ := bd_of hf
              refine wk_callSi (As := [.int x1]) (rest := []) G (c_X6_hasWait l D cI cZ ad x1 M r13 q14) (va_cwS 1 G.2.2.2.2.1 gX6_event_X6_hasWait rfl rfl rfl (by decide +kernel) ⟨Nat.le_of_ble_eq_true rfl, Nat.le_of_ble_eq_true rfl⟩) rfl rfl (Nat.le_of_ble_eq_true rfl) dX6_event_78 ⟨Nat.le_of_ble_eq_true rfl, Nat.le_of_ble_eq_true rfl⟩ ?_
              obtain ⟨j95, ej95, hf⟩ := nm_ex hf
              have J95 : ∀ (u15 : Unit), j95 u15 = some (r, M') → Wk p l e (headSpec wsX6_event rmX6_event).room s m args below meth c D cI cZ ad A 5 0 0 (QI below D cI cZ ad A args s r M') M 95 [(0, .ref (ad 0)), (1, .int x1), (2, .int x2), (3, .int x3), (4, .int x4)] [] := by
                intro u15 hf
                replace hf := jn1 ej95 hf
                refine wk_aload_n G 0 dX6_event_95 rfl rfl ?_
                refine wk_get (ci := 6) (v := .ref (ad 5)) G iX6_event_X6 0 (by decide) (ck0 cI cZ ad (M 0)) rfl 1 (Nat.le_of_ble_eq_true rfl) kX6_event_30 rfl dX6_event_96 ?_
                refine wk_iload_n G 1 dX6_event_99 rfl rfl ?_
                refine wk_iload_n G 1 dX6_event_100 rfl rfl ?_
                obtain ⟨r16, q17, hf⟩ := bd_of hf
                refine wk_callSi (As := [.int x1]) (rest := [.int x1, .ref (ad 5)]) G (c_X6_isTimed l D cI cZ ad x1 M r16 q17) (va_cwS 1 G.2.2.2.2.1 gX6_event_X6_isTimed rfl rfl rfl (by decide +kernel) ⟨Nat.le_of_ble_eq_true rfl, Nat.le_of_ble_eq_true rfl⟩) rfl rfl (Nat.le_of_ble_eq_true rfl) dX6_event_101 ⟨Nat.le_of_ble_eq_true rfl, Nat.le_of_ble_eq_true rfl⟩ ?_
                obtain ⟨j112, ej112, hf⟩ := nm_ex hf
                have J112 : ∀ (v18 : Int32), j112 v18 = some (r, M') → Wk p l e (headSpec wsX6_event rmX6_event).room s m args below meth c D cI cZ ad A 5 0 0 (QI below D cI cZ ad A args s r M') M 112 [(1, .int x1), (3, .int x3), (4, .int x4)] [.int v18, .int x1, .ref (ad 5)] := by
                  intro v18 hf
                  replace hf := jn1 ej112 hf
                  refine wk_iload_n G 0 dX6_event_112 rfl rfl ?_
                  refine wk_iconst (v := (1 : Int32)) G dX6_event_113 (by decide) ?_
                  obtain ⟨j122, ej122, hf⟩ := nm_ex hf
                  have J122 : ∀ (v19 : Int32), j122 v19 = some (r, M') → Wk p l e (headSpec wsX6_event rmX6_event).room s m args below meth c D cI cZ ad A 5 0 0 (QI below D cI cZ ad A args s r M') M 122 [(1, .int x1), (4, .int x4)] [.int v19, .int v18, .int x1, .ref (ad 5)] := by
                    intro v19 hf
                    replace hf := jn1 ej122 hf
                    refine wk_iload_n G 0 dX6_event_122 rfl rfl ?_
                    obtain ⟨r20, q21, hf⟩ := bd_of hf
                    refine wk_callSi (As := [.int x1]) (rest := [.int v19, .int v18, .int x1, .ref (ad 5)]) G (c_X6_hasWait l D cI cZ ad x1 M r20 q21) (va_cwS 1 G.2.2.2.2.1 gX6_event_X6_hasWait rfl rfl rfl (by decide +kernel) ⟨Nat.le_of_ble_eq_true rfl, Nat.le_of_ble_eq_true rfl⟩) rfl rfl (Nat.le_of_ble_eq_true rfl) dX6_event_123 ⟨Nat.le_of_ble_eq_true rfl, Nat.le_of_ble_eq_true rfl⟩ ?_
                    obtain ⟨j135, ej135, hf⟩ := nm_ex hf
                    have J135 : ∀ (v22 : Int32), j135 v22 = some (r, M') → Wk p l e (headSpec wsX6_event rmX6_event).room s m args below meth c D cI cZ ad A 5 0 0 (QI below D cI cZ ad A args s r M') M 135 [] [.int v22, .int v19, .int v18, .int x1, .ref (ad 5)] := by
                      intro v22 hf
                      replace hf := jn1 ej135 hf
                      obtain ⟨⟨r23, M24⟩, q25, hf⟩ := bd_of hf
                      replace hf := un2_of hf
                      refine wk_callVi (As := [.int x1, .int v18, .int v19, .int v22]) (rest := []) (ci := 5) G 5 (by decide) (c_X5_add l D cI cZ ad x1 v18 v19 v22 M r23 M24 q25) (cwV 4 G.2.2.2.2.1 gX6_event_X5_add rfl rfl rfl (by decide +kernel) ⟨Nat.le_of_ble_eq_true rfl, Nat.le_of_ble_eq_true rfl⟩) (ck5 cI cZ ad (M 5)) rfl rfl rfl (Nat.le_of_ble_eq_true rfl) dX6_event_135 ⟨Nat.le_of_ble_eq_true rfl, Nat.le_of_ble_eq_true rfl⟩ ?_
                      exact wk_ri G hr hlocks dX6_event_138 (Option.some.inj hf)
                    refine wk_if_eq (tgt := 134) G dX6_event_126 (by decide) (fun c26 => ?_) (fun c26 => ?_)
                    · replace hf := it_t c26 hf
                      refine wk_iconst (v := (0 : Int32)) G dX6_event_134 (by decide) ?_
                      refine wk_sub [] rfl ?_
                      exact J135 (0 : Int32) hf
                    · replace hf := it_f c26 hf
                      refine wk_iload G 1 dX6_event_129 rfl ?_
                      refine wk_goto (tgt := 135) G dX6_event_131 (by decide) ?_
                      refine wk_sub [] rfl ?_
                      exact J135 x4 hf
                  refine wk_icmp_ne (tgt := 121) G dX6_event_114 (by decide) (fun c27 => ?_) (fun c27 => ?_)
                  · replace hf := it_f c27 hf
                    refine wk_iload_n G 1 dX6_event_121 rfl rfl ?_
                    refine wk_sub [0, 2] rfl ?_
                    exact J122 x3 hf
                  · replace hf := it_t c27 hf
                    refine wk_iconst (v := (0 : Int32)) G dX6_event_117 (by decide) ?_
                    refine wk_goto (tgt := 122) G dX6_event_118 (by decide) ?_
                    refine wk_sub [0, 2] rfl ?_
                    exact J122 (0 : Int32) hf
                refine wk_if_eq (tgt := 111) G dX6_event_104 (by decide) (fun c28 => ?_) (fun c28 => ?_)
                · replace hf := it_t c28 hf
                  refine wk_iconst (v := (0 : Int32)) G dX6_event_111 (by decide) ?_
                  refine wk_sub [1, 3, 4] rfl ?_
                  exact J112 (0 : Int32) hf
                · replace hf := it_f c28 hf
                  refine wk_iload_n G 2 dX6_event_107 rfl rfl ?_
                  refine wk_goto (tgt := 112) G dX6_event_108 (by decide) ?_
                  refine wk_sub [1, 3, 4] rfl ?_
                  exact J112 x2 hf
              refine wk_if_eq (tgt := 95) G dX6_event_81 (by decide) (fun c29 => ?_) (fun c29 => ?_)
              · replace hf := it_t c29 hf
                exact J95 () hf
              · replace hf := it_f c29 hf
                refine wk_iload G 4 dX6_event_84 rfl ?_
                obtain ⟨r30, q31, hf⟩ := bd_of hf
                refine wk_callSi (As := [.int x4]) (rest := []) G (c_X6_isWait l D cI cZ ad x4 M r30 q31) (va_cwS 1 G.2.2.2.2.1 gX6_event_X6_isWait rfl rfl rfl (by decide +kernel) ⟨Nat.le_of_ble_eq_true rfl, Nat.le_of_ble_eq_true rfl⟩) rfl rfl (Nat.le_of_ble_eq_true rfl) dX6_event_86 ⟨Nat.le_of_ble_eq_true rfl, Nat.le_of_ble_eq_true rfl⟩ ?_
                refine wk_if_ne (tgt := 95) G dX6_event_89 (by decide) (fun c32 => ?_) (fun c32 => ?_)
                · replace hf := it_f c32 hf
                  exact J95 () hf
                · replace hf := it_t c32 hf
                  refine wk_bipush (v := (-3 : Int32)) G dX6_event_92 (by decide) ?_
                  exact wk_ri G hr hlocks dX6_event_94 (Option.some.inj hf)
            refine wk_if_eq (tgt := 77) G dX6_event_67 (by decide) (fun c33 => ?_) (fun c33 => ?_)
            · replace hf := it_t c33 hf
              exact J77 () hf
            · replace hf := it_f c33 hf
              refine wk_iload_n G 3 dX6_event_70 rfl rfl ?_
              obtain ⟨r34, q35, hf⟩ := bd_of hf
              refine wk_callSi (As := [.int x3]) (rest := []) G (c_X6_isLetter l D cI cZ ad x3 M r34 q35) (va_cwS 1 G.2.2.2.2.1 gX6_event_X6_isLetter rfl rfl rfl (by decide +kernel) ⟨Nat.le_of_ble_eq_true rfl, Nat.le_of_ble_eq_true rfl⟩) rfl rfl (Nat.le_of_ble_eq_true rfl) dX6_event_71 ⟨Nat.le_of_ble_eq_true rfl, Nat.le_of_ble_eq_true rfl⟩ ?_
              refine wk_if_eq (tgt := 92) G dX6_event_74 (by decide) (fun c36 => ?_) (fun c36 => ?_)
              · replace hf := it_t c36 hf
                refine wk_bipush (v := (-3 : Int32)) G dX6_event_92 (by decide) ?_
                exact wk_ri G hr hlocks dX6_event_94 (Option.some.inj hf)
              · replace hf := it_f c36 hf
                exact J77 () hf
          refine wk_if_ne (tgt := 63) G dX6_event_46 (by decide) (fun c37 => ?_) (fun c37 => ?_)
          · replace hf := it_f c37 hf
            exact J63 () hf
          · replace hf := it_t c37 hf
            refine wk_aload_n G 0 dX6_event_49 rfl rfl ?_
            refine wk_get (ci := 6) (v := .ref (ad 1)) G iX6_event_X6 0 (by decide) (ck0 cI cZ ad (M 0)) rfl 0 (Nat.le_of_ble_eq_true rfl) kX6_event_23 rfl dX6_event_50 ?_
            refine wk_iload_n G 3 dX6_event_53 rfl rfl ?_
            obtain ⟨r38, q39, hf⟩ := bd_of hf
            refine wk_callVi (As := [.int x3]) (rest := []) (ci := 2) G 1 (by decide) (c_X2_hasAllOf l D cI cZ ad x3 M r38 q39) (cwV 1 G.2.2.2.2.1 gX6_event_X2_hasAllOf rfl rfl rfl (by decide +kernel) ⟨Nat.le_of_ble_eq_true rfl, Nat.le_of_ble_eq_true rfl⟩) (ck1 cI cZ ad (M 1)) rfl rfl rfl (Nat.le_of_ble_eq_true rfl) dX6_event_54 ⟨Nat.le_of_ble_eq_true rfl, Nat.le_of_ble_eq_true rfl⟩ ?_
            refine wk_if_ne (tgt := 63) G dX6_event_57 (by decide) (fun c40 => ?_) (fun c40 => ?_)
            · replace hf := it_f c40 hf
              exact J63 () hf
            · replace hf := it_t c40 hf
              refine wk_bipush (v := (-3 : Int32)) G dX6_event_60 (by decide) ?_
              exact wk_ri G hr hlocks dX6_event_62 (Option.some.inj hf)
        refine wk_if_eq (tgt := 45) G dX6_event_35 (by decide) (fun c41 => ?_) (fun c41 => ?_)
        · replace hf := it_t c41 hf
          exact J45 () hf
        · replace hf := it_f c41 hf
          refine wk_iload_n G 2 dX6_event_38 rfl rfl ?_
          obtain ⟨r42, q43, hf⟩ := bd_of hf
          refine wk_callSi (As := [.int x2]) (rest := []) G (c_X6_isTurn l D cI cZ ad x2 M r42 q43) (va_cwS 1 G.2.2.2.2.1 gX6_event_X6_isTurn rfl rfl rfl (by decide +kernel) ⟨Nat.le_of_ble_eq_true rfl, Nat.le_of_ble_eq_true rfl⟩) rfl rfl (Nat.le_of_ble_eq_true rfl) dX6_event_39 ⟨Nat.le_of_ble_eq_true rfl, Nat.le_of_ble_eq_true rfl⟩ ?_
          refine wk_if_eq (tgt := 60) G dX6_event_42 (by decide) (fun c44 => ?_) (fun c44 => ?_)
          · replace hf := it_t c44 hf
            refine wk_bipush (v := (-3 : Int32)) G dX6_event_60 (by decide) ?_
            exact wk_ri G hr hlocks dX6_event_62 (Option.some.inj hf)
          · replace hf := it_f c44 hf
            exact J45 () hf
      refine wk_if_eq (tgt := 31) G dX6_event_14 (by decide) (fun c45 => ?_) (fun c45 => ?_)
      · replace hf := it_t c45 hf
        exact J31 () hf
      · replace hf := it_f c45 hf
        refine wk_aload_n G 0 dX6_event_17 rfl rfl ?_
        refine wk_get (ci := 6) (v := .ref (ad 1)) G iX6_event_X6 0 (by decide) (ck0 cI cZ ad (M 0)) rfl 0 (Nat.le_of_ble_eq_true rfl) kX6_event_23 rfl dX6_event_18 ?_
        refine wk_iload_n G 3 dX6_event_21 rfl rfl ?_
        obtain ⟨r46, q47, hf⟩ := bd_of hf
        refine wk_callVi (As := [.int x3]) (rest := []) (ci := 2) G 1 (by decide) (c_X2_has l D cI cZ ad x3 M r46 q47) (cwV 1 G.2.2.2.2.1 gX6_event_X2_has rfl rfl rfl (by decide +kernel) ⟨Nat.le_of_ble_eq_true rfl, Nat.le_of_ble_eq_true rfl⟩) (ck1 cI cZ ad (M 1)) rfl rfl rfl (Nat.le_of_ble_eq_true rfl) dX6_event_22 ⟨Nat.le_of_ble_eq_true rfl, Nat.le_of_ble_eq_true rfl⟩ ?_
        refine wk_if_ne (tgt := 31) G dX6_event_25 (by decide) (fun c48 => ?_) (fun c48 => ?_)
        · replace hf := it_f c48 hf
          exact J31 () hf
        · replace hf := it_t c48 hf
          refine wk_bipush (v := (-2 : Int32)) G dX6_event_28 (by decide) ?_
          exact wk_ri G hr hlocks dX6_event_30 (Option.some.inj hf)
def fX6_drop (x1 : Int32) (M : Mem) : Option (Int32 × Mem) := (fX5_has x1 M).bind (fun (r1 : Int32) => if r1 = 0 then (some ((-2 : Int32), M)) else ((fX5_remove x1 M).bind (fun (M4 : Mem) => some ((M4 5 0), M4))))
theorem iX6_drop_X5 : ∀ w ∈ wsX50, w ∈ wsX6_drop := by decide +kernel
theorem iX6_drop_X6 : ∀ w ∈ wsX60, w ∈ wsX6_drop := by decide +kernel
theorem kX6_drop_30 : Cond.fieldLink RX6 30 "PartitionPlay" "schedule" "LPartitionPlay$Schedule;" ∈ wsX6_drop := by decide +kernel
theorem kX6_drop_104 : Cond.fieldLink RX6 104 "PartitionPlay$Schedule" "size" "I" ∈ wsX6_drop := by decide +kernel
abbrev rmX6_drop : Room := { frames := 3, cells := 0, slots := 0, locals := 64 }
set_option maxRecDepth 100000 in
set_option maxHeartbeats 4000000 in
theorem c_X6_drop (l : Launch) (D : va_G) (cI cZ : ClassId) (ad : Nat → Nat) (x1 : Int32) (M : Mem) (r : Int32) (M' : Mem) (hf : fX6_drop x1 M = some (r, M')) : MetI l yX6_drop wsX6_drop rmX6_drop D cI cZ ad [.ref (ad 0), .int x1] M r M' := by
  refine met_i (cc := cX6_drop) (nL := 2) (ret := (some .int)) (own := RX6) (by decide) rfl rfl (Nat.le_of_ble_eq_true rfl) ?_
  intro p e s m args below meth c A G hr hlocks
  unfold fX6_drop at hf
  show Wk p l e (headSpec wsX6_drop rmX6_drop).room s m args below meth c D cI cZ ad A 2 0 0 (QI below D cI cZ ad A args s r M') M 0 [(0, .ref (ad 0)), (1, .int x1)] []
  refine wk_aload_n G 0 dX6_drop_0 rfl rfl ?_
  refine wk_get (ci := 6) (v := .ref (ad 5)) G iX6_drop_X6 0 (by decide) (ck0 cI cZ ad (M 0)) rfl 1 (Nat.le_of_ble_eq_true rfl) kX6_drop_30 rfl dX6_drop_1 ?_
  refine wk_iload_n G 1 dX6_drop_4 rfl rfl ?_
  obtain ⟨r1, q2, hf⟩ := bd_of hf
  refine wk_callVi (As := [.int x1]) (rest := []) (ci := 5) G 5 (by decide) (c_X5_has l D cI cZ ad x1 M r1 q2) (cwV 1 G.2.2.2.2.1 gX6_drop_X5_has rfl rfl rfl (by decide +kernel) ⟨Nat.le_of_ble_eq_true rfl, Nat.le_of_ble_eq_true rfl⟩) (ck5 cI cZ ad (M 5)) rfl rfl rfl (Nat.le_of_ble_eq_true rfl) dX6_drop_5 ⟨Nat.le_of_ble_eq_true rfl, Nat.le_of_ble_eq_true rfl⟩ ?_
  refine wk_if_ne (tgt := 14) G dX6_drop_8 (by decide) (fun c3 => ?_) (fun c3 => ?_)
  · replace hf := it_f c3 hf
    refine wk_aload_n G 0 dX6_drop_14 rfl rfl ?_
    refine wk_get (ci := 6) (v := .ref (ad 5)) G iX6_drop_X6 0 (by decide) (ck0 cI cZ ad (M 0)) rfl 1 (Nat.le_of_ble_eq_true rfl) kX6_drop_30 rfl dX6_drop_15 ?_
    refine wk_iload_n G 1 dX6_drop_18 rfl rfl ?_
    obtain ⟨M4, q5, hf⟩ := bd_of hf
    refine wk_callVv (As := [.int x1]) (rest := []) (ci := 5) G 5 (by decide) (c_X5_remove l D cI cZ ad x1 M M4 q5) (cwV 1 G.2.2.2.2.1 gX6_drop_X5_remove rfl rfl rfl (by decide +kernel) ⟨Nat.le_of_ble_eq_true rfl, Nat.le_of_ble_eq_true rfl⟩) (ck5 cI cZ ad (M 5)) rfl rfl rfl (Nat.le_of_ble_eq_true rfl) dX6_drop_19 ⟨Nat.le_of_ble_eq_true rfl, Nat.le_of_ble_eq_true rfl⟩ ?_
    refine wk_aload_n G 0 dX6_drop_22 rfl rfl ?_
    refine wk_get (ci := 6) (v := .ref (ad 5)) G iX6_drop_X6 0 (by decide) (ck0 cI cZ ad (M4 0)) rfl 1 (Nat.le_of_ble_eq_true rfl) kX6_drop_30 rfl dX6_drop_23 ?_
    refine wk_get (ci := 5) (v := .int (M4 5 0)) G iX6_drop_X5 5 (by decide) (ck5 cI cZ ad (M4 5)) rfl 0 (Nat.le_of_ble_eq_true rfl) kX6_drop_104 rfl dX6_drop_26 ?_
    exact wk_ri G hr hlocks dX6_drop_29 (Option.some.inj hf)
  · replace hf := it_t c3 hf
    refine wk_bipush (v := (-2 : Int32)) G dX6_drop_11 (by decide) ?_
    exact wk_ri G hr hlocks dX6_drop_13 (Option.some.inj hf)
def fX6_told (x1 : Int32) (x2 : Int32) (M : Mem) : Option Int32 := (fX5_has x1 M).bind (fun (r1 : Int32) => if r1 = 0 then (some (-2 : Int32)) else (if x2 = (0 : Int32) then (gd x1 20 (some (M 6 (Int32.toNatClampNeg x1)))) else if x2 = (1 : Int32) then (gd x1 20 (some (M 7 (Int32.toNatClampNeg x1)))) else if x2 = (2 : Int32) then (gd x1 20 (some (M 8 (Int32.toNatClampNeg x1)))) else if x2 = (3 : Int32) then (gd x1 20 (some (M 9 (Int32.toNatClampNeg x1)))) else (some (-2 : Int32))))
theorem iX6_told_X5 : ∀ w ∈ wsX50, w ∈ wsX6_told := by decide +kernel
theorem iX6_told_X6 : ∀ w ∈ wsX60, w ∈ wsX6_told := by decide +kernel
theorem kX6_told_30 : Cond.fieldLink RX6 30 "PartitionPlay" "schedule" "LPartitionPlay$Schedule;" ∈ wsX6_told := by decide +kernel
theorem kX6_told_108 : Cond.fieldLink RX6 108 "PartitionPlay$Schedule" "kinds" "[I" ∈ wsX6_told := by decide +kernel
theorem kX6_told_111 : Cond.fieldLink RX6 111 "PartitionPlay$Schedule" "turns" "[I" ∈ wsX6_told := by decide +kernel
theorem kX6_told_114 : Cond.fieldLink RX6 114 "PartitionPlay$Schedule" "as" "[I" ∈ wsX6_told := by decide +kernel
theorem kX6_told_117 : Cond.fieldLink RX6 117 "PartitionPlay$Schedule" "bs" "[I" ∈ wsX6_told := by decide +kernel
abbrev rmX6_told : Room := { frames := 1, cells := 0, slots := 0, locals := 21 }
set_option maxRecDepth 100000 in
set_option maxHeartbeats 4000000 in
theorem c_X6_told (l : Launch) (D : va_G) (cI cZ : ClassId) (ad : Nat → Nat) (x1 : Int32) (x2 : Int32) (M : Mem) (r : Int32) (hf : fX6_told x1 x2 M = some r) : MetI l yX6_told wsX6_told rmX6_told D cI cZ ad [.ref (ad 0), .int x1, .int x2] M r M := by
  refine met_i (cc := cX6_told) (nL := 3) (ret := (some .int)) (own := RX6) (by decide) rfl rfl (Nat.le_of_ble_eq_true rfl) ?_
  intro p e s m args below meth c A G hr hlocks
  unfold fX6_told at hf
  show Wk p l e (headSpec wsX6_told rmX6_told).room s m args below meth c D cI cZ ad A 3 0 0 (QI below D cI cZ ad A args s r M) M 0 [(0, .ref (ad 0)), (1, .int x1), (2, .int x2)] []
  refine wk_aload_n G 0 dX6_told_0 rfl rfl ?_
  refine wk_get (ci := 6) (v := .ref (ad 5)) G iX6_told_X6 0 (by decide) (ck0 cI cZ ad (M 0)) rfl 1 (Nat.le_of_ble_eq_true rfl) kX6_told_30 rfl dX6_told_1 ?_
  refine wk_iload_n G 1 dX6_told_4 rfl rfl ?_
  obtain ⟨r1, q2, hf⟩ := bd_of hf
  refine wk_callVi (As := [.int x1]) (rest := []) (ci := 5) G 5 (by decide) (c_X5_has l D cI cZ ad x1 M r1 q2) (cwV 1 G.2.2.2.2.1 gX6_told_X5_has rfl rfl rfl (by decide +kernel) ⟨Nat.le_of_ble_eq_true rfl, Nat.le_of_ble_eq_true rfl⟩) (ck5 cI cZ ad (M 5)) rfl rfl rfl (Nat.le_of_ble_eq_true rfl) dX6_told_5 ⟨Nat.le_of_ble_eq_true rfl, Nat.le_of_ble_eq_true rfl⟩ ?_
  refine wk_if_ne (tgt := 14) G dX6_told_8 (by decide) (fun c3 => ?_) (fun c3 => ?_)
  · replace hf := it_f c3 hf
    refine wk_iload_n G 2 dX6_told_14 rfl rfl ?_
    by_cases c4_0 : x2 = (0 : Int32)
    · replace hf := it_t c4_0 hf
      refine wk_tableIn (off := 29) (tgt := 44) G dX6_told_15 (by rw [c4_0]; decide) (by rw [c4_0]; decide) (by rw [c4_0]; rfl) (by decide) ?_
      refine wk_aload_n G 0 dX6_told_44 rfl rfl ?_
      refine wk_get (ci := 6) (v := .ref (ad 5)) G iX6_told_X6 0 (by decide) (ck0 cI cZ ad (M 0)) rfl 1 (Nat.le_of_ble_eq_true rfl) kX6_told_30 rfl dX6_told_45 ?_
      refine wk_get (ci := 5) (v := .ref (ad 6)) G iX6_told_X5 5 (by decide) (ck5 cI cZ ad (M 5)) rfl 1 (Nat.le_of_ble_eq_true rfl) kX6_told_108 rfl dX6_told_48 ?_
      refine wk_iload_n G 1 dX6_told_51 rfl rfl ?_
      obtain ⟨h5, hf⟩ := gd_of hf
      refine wk_iald G 6 (by decide) (ck6 cI cZ ad) h5 dX6_told_52 ?_
      exact wk_ri G hr hlocks dX6_told_53 (congrArg (fun z => (z, M)) (Option.some.inj hf))
    · replace hf := it_f c4_0 hf
      by_cases c4_1 : x2 = (1 : Int32)
      · replace hf := it_t c4_1 hf
        refine wk_tableIn (off := 39) (tgt := 54) G dX6_told_15 (by rw [c4_1]; decide) (by rw [c4_1]; decide) (by rw [c4_1]; rfl) (by decide) ?_
        refine wk_aload_n G 0 dX6_told_54 rfl rfl ?_
        refine wk_get (ci := 6) (v := .ref (ad 5)) G iX6_told_X6 0 (by decide) (ck0 cI cZ ad (M 0)) rfl 1 (Nat.le_of_ble_eq_true rfl) kX6_told_30 rfl dX6_told_55 ?_
        refine wk_get (ci := 5) (v := .ref (ad 7)) G iX6_told_X5 5 (by decide) (ck5 cI cZ ad (M 5)) rfl 2 (Nat.le_of_ble_eq_true rfl) kX6_told_111 rfl dX6_told_58 ?_
        refine wk_iload_n G 1 dX6_told_61 rfl rfl ?_
        obtain ⟨h6, hf⟩ := gd_of hf
        refine wk_iald G 7 (by decide) (ck7 cI cZ ad) h6 dX6_told_62 ?_
        exact wk_ri G hr hlocks dX6_told_63 (congrArg (fun z => (z, M)) (Option.some.inj hf))
      · replace hf := it_f c4_1 hf
        by_cases c4_2 : x2 = (2 : Int32)
        · replace hf := it_t c4_2 hf
          refine wk_tableIn (off := 49) (tgt := 64) G dX6_told_15 (by rw [c4_2]; decide) (by rw [c4_2]; decide) (by rw [c4_2]; rfl) (by decide) ?_
          refine wk_aload_n G 0 dX6_told_64 rfl rfl ?_
          refine wk_get (ci := 6) (v := .ref (ad 5)) G iX6_told_X6 0 (by decide) (ck0 cI cZ ad (M 0)) rfl 1 (Nat.le_of_ble_eq_true rfl) kX6_told_30 rfl dX6_told_65 ?_
          refine wk_get (ci := 5) (v := .ref (ad 8)) G iX6_told_X5 5 (by decide) (ck5 cI cZ ad (M 5)) rfl 3 (Nat.le_of_ble_eq_true rfl) kX6_told_114 rfl dX6_told_68 ?_
          refine wk_iload_n G 1 dX6_told_71 rfl rfl ?_
          obtain ⟨h7, hf⟩ := gd_of hf
          refine wk_iald G 8 (by decide) (ck8 cI cZ ad) h7 dX6_told_72 ?_
          exact wk_ri G hr hlocks dX6_told_73 (congrArg (fun z => (z, M)) (Option.some.inj hf))
        · replace hf := it_f c4_2 hf
          by_cases c4_3 : x2 = (3 : Int32)
          · replace hf := it_t c4_3 hf
            refine wk_tableIn (off := 59) (tgt := 74) G dX6_told_15 (by rw [c4_3]; decide) (by rw [c4_3]; decide) (by rw [c4_3]; rfl) (by decide) ?_
            refine wk_aload_n G 0 dX6_told_74 rfl rfl ?_
            refine wk_get (ci := 6) (v := .ref (ad 5)) G iX6_told_X6 0 (by decide) (ck0 cI cZ ad (M 0)) rfl 1 (Nat.le_of_ble_eq_true rfl) kX6_told_30 rfl dX6_told_75 ?_
            refine wk_get (ci := 5) (v := .ref (ad 9)) G iX6_told_X5 5 (by decide) (ck5 cI cZ ad (M 5)) rfl 4 (Nat.le_of_ble_eq_true rfl) kX6_told_117 rfl dX6_told_78 ?_
            refine wk_iload_n G 1 dX6_told_81 rfl rfl ?_
            obtain ⟨h8, hf⟩ := gd_of hf
            refine wk_iald G 9 (by decide) (ck9 cI cZ ad) h8 dX6_told_82 ?_
            exact wk_ri G hr hlocks dX6_told_83 (congrArg (fun z => (z, M)) (Option.some.inj hf))
          · replace hf := it_f c4_3 hf
            have nc4_0 : ¬ x2.toInt = 0 := sw_ne c4_0
            have nc4_1 : ¬ x2.toInt = 1 := sw_ne c4_1
            have nc4_2 : ¬ x2.toInt = 2 := sw_ne c4_2
            have nc4_3 : ¬ x2.toInt = 3 := sw_ne c4_3
            refine wk_tableOut (tgt := 84) G dX6_told_15 (by omega) (by decide) ?_
            refine wk_bipush (v := (-2 : Int32)) G dX6_told_84 (by decide) ?_
            exact wk_ri G hr hlocks dX6_told_86 (congrArg (fun z => (z, M)) (Option.some.inj hf))
  · replace hf := it_t c3 hf
    refine wk_bipush (v := (-2 : Int32)) G dX6_told_11 (by decide) ?_
    exact wk_ri G hr hlocks dX6_told_13 (congrArg (fun z => (z, M)) (Option.some.inj hf))
def fX6_play (x1 : Int32) (M : Mem) : Option (Int32 × Mem) := if x1 < (1 : Int32) then (some ((-3 : Int32), M)) else (if x1 ≤ (40 : Int32) then ((fX4_run 12 x1 (0 : Int32) M).bind (un2 fun (r3 : Int32) (M4 : Mem) => (fX3_greatestHeight 12 M4).bind (fun (r6 : Int32) => some (r6, M4)))) else (some ((-3 : Int32), M)))
theorem iX6_play_X4 : ∀ w ∈ wsX40, w ∈ wsX6_play := by decide +kernel
theorem iX6_play_X6 : ∀ w ∈ wsX60, w ∈ wsX6_play := by decide +kernel
theorem kX6_play_39 : Cond.fieldLink RX6 39 "PartitionPlay" "shownPlay" "LPartitionPlay$Play;" ∈ wsX6_play := by decide +kernel
theorem kX6_play_124 : Cond.fieldLink RX6 124 "PartitionPlay$Play" "nodes" "LPartitionPlay$Nodes;" ∈ wsX6_play := by decide +kernel
abbrev rmX6_play : Room := { frames := 6, cells := 0, slots := 0, locals := 142 }
set_option maxRecDepth 100000 in
set_option maxHeartbeats 4000000 in
theorem c_X6_play (l : Launch) (D : va_G) (cI cZ : ClassId) (ad : Nat → Nat) (x1 : Int32) (M : Mem) (r : Int32) (M' : Mem) (hf : fX6_play x1 M = some (r, M')) : MetI l yX6_play wsX6_play rmX6_play D cI cZ ad [.ref (ad 0), .int x1] M r M' := by
  refine met_i (cc := cX6_play) (nL := 2) (ret := (some .int)) (own := RX6) (by decide) rfl rfl (Nat.le_of_ble_eq_true rfl) ?_
  intro p e s m args below meth c A G hr hlocks
  unfold fX6_play at hf
  show Wk p l e (headSpec wsX6_play rmX6_play).room s m args below meth c D cI cZ ad A 2 0 0 (QI below D cI cZ ad A args s r M') M 0 [(0, .ref (ad 0)), (1, .int x1)] []
  refine wk_iload_n G 1 dX6_play_0 rfl rfl ?_
  refine wk_iconst (v := (1 : Int32)) G dX6_play_1 (by decide) ?_
  refine wk_icmp_lt (tgt := 11) G dX6_play_2 (by decide) (fun c1 => ?_) (fun c1 => ?_)
  · replace hf := it_t c1 hf
    refine wk_bipush (v := (-3 : Int32)) G dX6_play_11 (by decide) ?_
    exact wk_ri G hr hlocks dX6_play_13 (Option.some.inj hf)
  · replace hf := it_f c1 hf
    refine wk_iload_n G 1 dX6_play_5 rfl rfl ?_
    refine wk_bipush (v := (40 : Int32)) G dX6_play_6 (by decide) ?_
    refine wk_icmp_le (tgt := 14) G dX6_play_8 (by decide) (fun c2 => ?_) (fun c2 => ?_)
    · replace hf := it_t c2 hf
      refine wk_aload_n G 0 dX6_play_14 rfl rfl ?_
      refine wk_get (ci := 6) (v := .ref (ad 12)) G iX6_play_X6 0 (by decide) (ck0 cI cZ ad (M 0)) rfl 2 (Nat.le_of_ble_eq_true rfl) kX6_play_39 rfl dX6_play_15 ?_
      refine wk_iload_n G 1 dX6_play_18 rfl rfl ?_
      refine wk_iconst (v := (0 : Int32)) G dX6_play_19 (by decide) ?_
      obtain ⟨⟨r3, M4⟩, q5, hf⟩ := bd_of hf
      replace hf := un2_of hf
      refine wk_callVi (As := [.int x1, .int (0 : Int32)]) (rest := []) (ci := 4) G 12 (by decide) (c_X4_run l D cI cZ ad 12 (Or.inl rfl) x1 (0 : Int32) M r3 M4 q5) (cwV 2 G.2.2.2.2.1 gX6_play_X4_run rfl rfl rfl (by decide +kernel) ⟨Nat.le_of_ble_eq_true rfl, Nat.le_of_ble_eq_true rfl⟩) (ck12 cI cZ ad (M 12)) rfl rfl rfl (Nat.le_of_ble_eq_true rfl) dX6_play_20 ⟨Nat.le_of_ble_eq_true rfl, Nat.le_of_ble_eq_true rfl⟩ ?_
      refine wk_pop G dX6_play_23 rfl ?_
      refine wk_aload_n G 0 dX6_play_24 rfl rfl ?_
      refine wk_get (ci := 6) (v := .ref (ad 12)) G iX6_play_X6 0 (by decide) (ck0 cI cZ ad (M4 0)) rfl 2 (Nat.le_of_ble_eq_true rfl) kX6_play_39 rfl dX6_play_25 ?_
      refine wk_get (ci := 4) (v := .ref (ad 18)) G iX6_play_X4 12 (by decide) (ck12 cI cZ ad (M4 12)) rfl 4 (Nat.le_of_ble_eq_true rfl) kX6_play_124 rfl dX6_play_28 ?_
      obtain ⟨r6, q7, hf⟩ := bd_of hf
      refine wk_callVi (As := []) (rest := []) (ci := 3) G 18 (by decide) (c_X3_greatestHeight l D cI cZ ad 12 (Or.inl rfl) M4 r6 q7) (cwV 0 G.2.2.2.2.1 gX6_play_X3_greatestHeight rfl rfl rfl (by decide +kernel) ⟨Nat.le_of_ble_eq_true rfl, Nat.le_of_ble_eq_true rfl⟩) (ck18 cI cZ ad (M4 18)) rfl rfl rfl (Nat.le_of_ble_eq_true rfl) dX6_play_31 ⟨Nat.le_of_ble_eq_true rfl, Nat.le_of_ble_eq_true rfl⟩ ?_
      exact wk_ri G hr hlocks dX6_play_34 (Option.some.inj hf)
    · replace hf := it_f c2 hf
      refine wk_bipush (v := (-3 : Int32)) G dX6_play_11 (by decide) ?_
      exact wk_ri G hr hlocks dX6_play_13 (Option.some.inj hf)
def fX6_height (x1 : Int32) (x2 : Int32) (M : Mem) : Option Int32 := (fX4_hasTurn 12 x1 M).bind (fun (r1 : Int32) => if r1 = 0 then (some (-2 : Int32)) else ((fX2_has x2 M).bind (fun (r4 : Int32) => if r4 = 0 then (some (-2 : Int32)) else ((fX6_place x1 x2).bind (fun (r7 : Int32) => gd r7 240 (some (M 32 (Int32.toNatClampNeg r7))))))))
theorem iX6_height_X4 : ∀ w ∈ wsX40, w ∈ wsX6_height := by decide +kernel
theorem iX6_height_X6 : ∀ w ∈ wsX60, w ∈ wsX6_height := by decide +kernel
theorem kX6_height_23 : Cond.fieldLink RX6 23 "PartitionPlay" "net" "LPartitionPlay$Net;" ∈ wsX6_height := by decide +kernel
theorem kX6_height_39 : Cond.fieldLink RX6 39 "PartitionPlay" "shownPlay" "LPartitionPlay$Play;" ∈ wsX6_height := by decide +kernel
theorem kX6_height_137 : Cond.fieldLink RX6 137 "PartitionPlay$Play" "heights" "[I" ∈ wsX6_height := by decide +kernel
abbrev rmX6_height : Room := { frames := 1, cells := 0, slots := 0, locals := 21 }
set_option maxRecDepth 100000 in
set_option maxHeartbeats 4000000 in
theorem c_X6_height (l : Launch) (D : va_G) (cI cZ : ClassId) (ad : Nat → Nat) (x1 : Int32) (x2 : Int32) (M : Mem) (r : Int32) (hf : fX6_height x1 x2 M = some r) : MetI l yX6_height wsX6_height rmX6_height D cI cZ ad [.ref (ad 0), .int x1, .int x2] M r M := by
  refine met_i (cc := cX6_height) (nL := 3) (ret := (some .int)) (own := RX6) (by decide) rfl rfl (Nat.le_of_ble_eq_true rfl) ?_
  intro p e s m args below meth c A G hr hlocks
  unfold fX6_height at hf
  show Wk p l e (headSpec wsX6_height rmX6_height).room s m args below meth c D cI cZ ad A 3 0 0 (QI below D cI cZ ad A args s r M) M 0 [(0, .ref (ad 0)), (1, .int x1), (2, .int x2)] []
  refine wk_aload_n G 0 dX6_height_0 rfl rfl ?_
  refine wk_get (ci := 6) (v := .ref (ad 12)) G iX6_height_X6 0 (by decide) (ck0 cI cZ ad (M 0)) rfl 2 (Nat.le_of_ble_eq_true rfl) kX6_height_39 rfl dX6_height_1 ?_
  refine wk_iload_n G 1 dX6_height_4 rfl rfl ?_
  obtain ⟨r1, q2, hf⟩ := bd_of hf
  refine wk_callVi (As := [.int x1]) (rest := []) (ci := 4) G 12 (by decide) (c_X4_hasTurn l D cI cZ ad 12 (Or.inl rfl) x1 M r1 q2) (cwV 1 G.2.2.2.2.1 gX6_height_X4_hasTurn rfl rfl rfl (by decide +kernel) ⟨Nat.le_of_ble_eq_true rfl, Nat.le_of_ble_eq_true rfl⟩) (ck12 cI cZ ad (M 12)) rfl rfl rfl (Nat.le_of_ble_eq_true rfl) dX6_height_5 ⟨Nat.le_of_ble_eq_true rfl, Nat.le_of_ble_eq_true rfl⟩ ?_
  refine wk_if_eq (tgt := 22) G dX6_height_8 (by decide) (fun c3 => ?_) (fun c3 => ?_)
  · replace hf := it_t c3 hf
    refine wk_bipush (v := (-2 : Int32)) G dX6_height_22 (by decide) ?_
    exact wk_ri G hr hlocks dX6_height_24 (congrArg (fun z => (z, M)) (Option.some.inj hf))
  · replace hf := it_f c3 hf
    refine wk_aload_n G 0 dX6_height_11 rfl rfl ?_
    refine wk_get (ci := 6) (v := .ref (ad 1)) G iX6_height_X6 0 (by decide) (ck0 cI cZ ad (M 0)) rfl 0 (Nat.le_of_ble_eq_true rfl) kX6_height_23 rfl dX6_height_12 ?_
    refine wk_iload_n G 2 dX6_height_15 rfl rfl ?_
    obtain ⟨r4, q5, hf⟩ := bd_of hf
    refine wk_callVi (As := [.int x2]) (rest := []) (ci := 2) G 1 (by decide) (c_X2_has l D cI cZ ad x2 M r4 q5) (cwV 1 G.2.2.2.2.1 gX6_height_X2_has rfl rfl rfl (by decide +kernel) ⟨Nat.le_of_ble_eq_true rfl, Nat.le_of_ble_eq_true rfl⟩) (ck1 cI cZ ad (M 1)) rfl rfl rfl (Nat.le_of_ble_eq_true rfl) dX6_height_16 ⟨Nat.le_of_ble_eq_true rfl, Nat.le_of_ble_eq_true rfl⟩ ?_
    refine wk_if_ne (tgt := 25) G dX6_height_19 (by decide) (fun c6 => ?_) (fun c6 => ?_)
    · replace hf := it_f c6 hf
      refine wk_aload_n G 0 dX6_height_25 rfl rfl ?_
      refine wk_get (ci := 6) (v := .ref (ad 12)) G iX6_height_X6 0 (by decide) (ck0 cI cZ ad (M 0)) rfl 2 (Nat.le_of_ble_eq_true rfl) kX6_height_39 rfl dX6_height_26 ?_
      refine wk_get (ci := 4) (v := .ref (ad 32)) G iX6_height_X4 12 (by decide) (ck12 cI cZ ad (M 12)) rfl 6 (Nat.le_of_ble_eq_true rfl) kX6_height_137 rfl dX6_height_29 ?_
      refine wk_iload_n G 1 dX6_height_32 rfl rfl ?_
      refine wk_iload_n G 2 dX6_height_33 rfl rfl ?_
      obtain ⟨r7, q8, hf⟩ := bd_of hf
      refine wk_callSi (As := [.int x1, .int x2]) (rest := [.ref (ad 32)]) G (c_X6_place l D cI cZ ad x1 x2 M r7 q8) (va_cwS 2 G.2.2.2.2.1 gX6_height_X6_place rfl rfl rfl (by decide +kernel) ⟨Nat.le_of_ble_eq_true rfl, Nat.le_of_ble_eq_true rfl⟩) rfl rfl (Nat.le_of_ble_eq_true rfl) dX6_height_34 ⟨Nat.le_of_ble_eq_true rfl, Nat.le_of_ble_eq_true rfl⟩ ?_
      obtain ⟨h9, hf⟩ := gd_of hf
      refine wk_iald G 32 (by decide) (ck32 cI cZ ad) h9 dX6_height_37 ?_
      exact wk_ri G hr hlocks dX6_height_38 (congrArg (fun z => (z, M)) (Option.some.inj hf))
    · replace hf := it_t c6 hf
      refine wk_bipush (v := (-2 : Int32)) G dX6_height_22 (by decide) ?_
      exact wk_ri G hr hlocks dX6_height_24 (congrArg (fun z => (z, M)) (Option.some.inj hf))
def fX6_holds (x1 : Int32) (M : Mem) : Option Int32 := (fX4_hasTurn 12 x1 M).bind (fun (r1 : Int32) => if r1 = 0 then (some (-2 : Int32)) else (gd x1 40 (if (M 33 (Int32.toNatClampNeg x1)) = 0 then (some (0 : Int32)) else (some (1 : Int32)))))
theorem iX6_holds_X4 : ∀ w ∈ wsX40, w ∈ wsX6_holds := by decide +kernel
theorem iX6_holds_X6 : ∀ w ∈ wsX60, w ∈ wsX6_holds := by decide +kernel
theorem kX6_holds_39 : Cond.fieldLink RX6 39 "PartitionPlay" "shownPlay" "LPartitionPlay$Play;" ∈ wsX6_holds := by decide +kernel
theorem kX6_holds_143 : Cond.fieldLink RX6 143 "PartitionPlay$Play" "held" "[Z" ∈ wsX6_holds := by decide +kernel
abbrev rmX6_holds : Room := { frames := 1, cells := 0, slots := 0, locals := 21 }
set_option maxRecDepth 100000 in
set_option maxHeartbeats 4000000 in
theorem c_X6_holds (l : Launch) (D : va_G) (cI cZ : ClassId) (ad : Nat → Nat) (x1 : Int32) (M : Mem) (r : Int32) (hf : fX6_holds x1 M = some r) : MetI l yX6_holds wsX6_holds rmX6_holds D cI cZ ad [.ref (ad 0), .int x1] M r M := by
  refine met_i (cc := cX6_holds) (nL := 2) (ret := (some .int)) (own := RX6) (by decide) rfl rfl (Nat.le_of_ble_eq_true rfl) ?_
  intro p e s m args below meth c A G hr hlocks
  unfold fX6_holds at hf
  show Wk p l e (headSpec wsX6_holds rmX6_holds).room s m args below meth c D cI cZ ad A 2 0 0 (QI below D cI cZ ad A args s r M) M 0 [(0, .ref (ad 0)), (1, .int x1)] []
  refine wk_aload_n G 0 dX6_holds_0 rfl rfl ?_
  refine wk_get (ci := 6) (v := .ref (ad 12)) G iX6_holds_X6 0 (by decide) (ck0 cI cZ ad (M 0)) rfl 2 (Nat.le_of_ble_eq_true rfl) kX6_holds_39 rfl dX6_holds_1 ?_
  refine wk_iload_n G 1 dX6_holds_4 rfl rfl ?_
  obtain ⟨r1, q2, hf⟩ := bd_of hf
  refine wk_callVi (As := [.int x1]) (rest := []) (ci := 4) G 12 (by decide) (c_X4_hasTurn l D cI cZ ad 12 (Or.inl rfl) x1 M r1 q2) (cwV 1 G.2.2.2.2.1 gX6_holds_X4_hasTurn rfl rfl rfl (by decide +kernel) ⟨Nat.le_of_ble_eq_true rfl, Nat.le_of_ble_eq_true rfl⟩) (ck12 cI cZ ad (M 12)) rfl rfl rfl (Nat.le_of_ble_eq_true rfl) dX6_holds_5 ⟨Nat.le_of_ble_eq_true rfl, Nat.le_of_ble_eq_true rfl⟩ ?_
  refine wk_if_ne (tgt := 14) G dX6_holds_8 (by decide) (fun c3 => ?_) (fun c3 => ?_)
  · replace hf := it_f c3 hf
    refine wk_aload_n G 0 dX6_holds_14 rfl rfl ?_
    refine wk_get (ci := 6) (v := .ref (ad 12)) G iX6_holds_X6 0 (by decide) (ck0 cI cZ ad (M 0)) rfl 2 (Nat.le_of_ble_eq_true rfl) kX6_holds_39 rfl dX6_holds_15 ?_
    refine wk_get (ci := 4) (v := .ref (ad 33)) G iX6_holds_X4 12 (by decide) (ck12 cI cZ ad (M 12)) rfl 7 (Nat.le_of_ble_eq_true rfl) kX6_holds_143 rfl dX6_holds_18 ?_
    refine wk_iload_n G 1 dX6_holds_21 rfl rfl ?_
    obtain ⟨h4, hf⟩ := gd_of hf
    refine wk_zald G 33 (by decide) (ck33 cI cZ ad) h4 dX6_holds_22 ?_
    refine wk_if_eq (tgt := 30) G dX6_holds_23 (by decide) (fun c5 => ?_) (fun c5 => ?_)
    · replace hf := it_t c5 hf
      refine wk_iconst (v := (0 : Int32)) G dX6_holds_30 (by decide) ?_
      exact wk_ri G hr hlocks dX6_holds_31 (congrArg (fun z => (z, M)) (Option.some.inj hf))
    · replace hf := it_f c5 hf
      refine wk_iconst (v := (1 : Int32)) G dX6_holds_26 (by decide) ?_
      refine wk_goto (tgt := 31) G dX6_holds_27 (by decide) ?_
      exact wk_ri G hr hlocks dX6_holds_31 (congrArg (fun z => (z, M)) (Option.some.inj hf))
  · replace hf := it_t c3 hf
    refine wk_bipush (v := (-2 : Int32)) G dX6_holds_11 (by decide) ?_
    exact wk_ri G hr hlocks dX6_holds_13 (congrArg (fun z => (z, M)) (Option.some.inj hf))
def fX6_fails (M : Mem) : Option Int32 := if (M 12 8) = 0 then (some (-4 : Int32)) else (some (M 12 9))
theorem iX6_fails_X4 : ∀ w ∈ wsX40, w ∈ wsX6_fails := by decide +kernel
theorem iX6_fails_X6 : ∀ w ∈ wsX60, w ∈ wsX6_fails := by decide +kernel
theorem kX6_fails_39 : Cond.fieldLink RX6 39 "PartitionPlay" "shownPlay" "LPartitionPlay$Play;" ∈ wsX6_fails := by decide +kernel
theorem kX6_fails_147 : Cond.fieldLink RX6 147 "PartitionPlay$Play" "turns" "I" ∈ wsX6_fails := by decide +kernel
theorem kX6_fails_149 : Cond.fieldLink RX6 149 "PartitionPlay$Play" "failedAt" "I" ∈ wsX6_fails := by decide +kernel
abbrev rmX6_fails : Room := { frames := 0, cells := 0, slots := 0, locals := 0 }
set_option maxRecDepth 100000 in
set_option maxHeartbeats 4000000 in
theorem c_X6_fails (l : Launch) (D : va_G) (cI cZ : ClassId) (ad : Nat → Nat) (M : Mem) (r : Int32) (hf : fX6_fails M = some r) : MetI l yX6_fails wsX6_fails rmX6_fails D cI cZ ad [.ref (ad 0)] M r M := by
  refine met_i (cc := cX6_fails) (nL := 1) (ret := (some .int)) (own := RX6) (by decide) rfl rfl (Nat.le_of_ble_eq_true rfl) ?_
  intro p e s m args below meth c A G hr hlocks
  unfold fX6_fails at hf
  show Wk p l e (headSpec wsX6_fails rmX6_fails).room s m args below meth c D cI cZ ad A 1 0 0 (QI below D cI cZ ad A args s r M) M 0 [(0, .ref (ad 0))] []
  refine wk_aload_n G 0 dX6_fails_0 rfl rfl ?_
  refine wk_get (ci := 6) (v := .ref (ad 12)) G iX6_fails_X6 0 (by decide) (ck0 cI cZ ad (M 0)) rfl 2 (Nat.le_of_ble_eq_true rfl) kX6_fails_39 rfl dX6_fails_1 ?_
  refine wk_get (ci := 4) (v := .int (M 12 8)) G iX6_fails_X4 12 (by decide) (ck12 cI cZ ad (M 12)) rfl 8 (Nat.le_of_ble_eq_true rfl) kX6_fails_147 rfl dX6_fails_4 ?_
  refine wk_if_ne (tgt := 15) G dX6_fails_7 (by decide) (fun c1 => ?_) (fun c1 => ?_)
  · replace hf := it_f c1 hf
    refine wk_aload_n G 0 dX6_fails_15 rfl rfl ?_
    refine wk_get (ci := 6) (v := .ref (ad 12)) G iX6_fails_X6 0 (by decide) (ck0 cI cZ ad (M 0)) rfl 2 (Nat.le_of_ble_eq_true rfl) kX6_fails_39 rfl dX6_fails_16 ?_
    refine wk_get (ci := 4) (v := .int (M 12 9)) G iX6_fails_X4 12 (by decide) (ck12 cI cZ ad (M 12)) rfl 9 (Nat.le_of_ble_eq_true rfl) kX6_fails_149 rfl dX6_fails_19 ?_
    exact wk_ri G hr hlocks dX6_fails_22 (congrArg (fun z => (z, M)) (Option.some.inj hf))
  · replace hf := it_t c1 hf
    refine wk_bipush (v := (-4 : Int32)) G dX6_fails_10 (by decide) ?_
    refine wk_goto (tgt := 22) G dX6_fails_12 (by decide) ?_
    exact wk_ri G hr hlocks dX6_fails_22 (congrArg (fun z => (z, M)) (Option.some.inj hf))
def fX6_letter (x1 : Int32) (x2 : Int32) (M : Mem) : Option Int32 := (fX1_has 12 x1 M).bind (fun (r1 : Int32) => if r1 = 0 then (some (-2 : Int32)) else (if x2 = (0 : Int32) then (gd x1 1200 (some (M 25 (Int32.toNatClampNeg x1)))) else if x2 = (1 : Int32) then (gd x1 1200 (some (M 26 (Int32.toNatClampNeg x1)))) else if x2 = (2 : Int32) then (gd x1 1200 (some (M 27 (Int32.toNatClampNeg x1)))) else if x2 = (3 : Int32) then (gd x1 1200 (some (M 28 (Int32.toNatClampNeg x1)))) else if x2 = (4 : Int32) then (gd x1 1200 (some (M 29 (Int32.toNatClampNeg x1)))) else if x2 = (5 : Int32) then (gd x1 1200 (some (M 30 (Int32.toNatClampNeg x1)))) else if x2 = (6 : Int32) then (gd x1 1200 (some (M 31 (Int32.toNatClampNeg x1)))) else (some (-2 : Int32))))
theorem iX6_letter_X1 : ∀ w ∈ wsX10, w ∈ wsX6_letter := by decide +kernel
theorem iX6_letter_X4 : ∀ w ∈ wsX40, w ∈ wsX6_letter := by decide +kernel
theorem iX6_letter_X6 : ∀ w ∈ wsX60, w ∈ wsX6_letter := by decide +kernel
theorem kX6_letter_39 : Cond.fieldLink RX6 39 "PartitionPlay" "shownPlay" "LPartitionPlay$Play;" ∈ wsX6_letter := by decide +kernel
theorem kX6_letter_152 : Cond.fieldLink RX6 152 "PartitionPlay$Play" "letters" "LPartitionPlay$Letters;" ∈ wsX6_letter := by decide +kernel
theorem kX6_letter_159 : Cond.fieldLink RX6 159 "PartitionPlay$Letters" "senders" "[I" ∈ wsX6_letter := by decide +kernel
theorem kX6_letter_162 : Cond.fieldLink RX6 162 "PartitionPlay$Letters" "receivers" "[I" ∈ wsX6_letter := by decide +kernel
theorem kX6_letter_165 : Cond.fieldLink RX6 165 "PartitionPlay$Letters" "turns" "[I" ∈ wsX6_letter := by decide +kernel
theorem kX6_letter_166 : Cond.fieldLink RX6 166 "PartitionPlay$Letters" "heights" "[I" ∈ wsX6_letter := by decide +kernel
theorem kX6_letter_167 : Cond.fieldLink RX6 167 "PartitionPlay$Letters" "rumours" "[I" ∈ wsX6_letter := by decide +kernel
theorem kX6_letter_168 : Cond.fieldLink RX6 168 "PartitionPlay$Letters" "firstComings" "[I" ∈ wsX6_letter := by decide +kernel
theorem kX6_letter_171 : Cond.fieldLink RX6 171 "PartitionPlay$Letters" "takenIn" "[I" ∈ wsX6_letter := by decide +kernel
abbrev rmX6_letter : Room := { frames := 1, cells := 0, slots := 0, locals := 21 }
set_option maxRecDepth 100000 in
set_option maxHeartbeats 4000000 in
theorem c_X6_letter (l : Launch) (D : va_G) (cI cZ : ClassId) (ad : Nat → Nat) (x1 : Int32) (x2 : Int32) (M : Mem) (r : Int32) (hf : fX6_letter x1 x2 M = some r) : MetI l yX6_letter wsX6_letter rmX6_letter D cI cZ ad [.ref (ad 0), .int x1, .int x2] M r M := by
  refine met_i (cc := cX6_letter) (nL := 4) (ret := (some .int)) (own := RX6) (by decide) rfl rfl (Nat.le_of_ble_eq_true rfl) ?_
  intro p e s m args below meth c A G hr hlocks
  unfold fX6_letter at hf
  show Wk p l e (headSpec wsX6_letter rmX6_letter).room s m args below meth c D cI cZ ad A 4 0 0 (QI below D cI cZ ad A args s r M) M 0 [(0, .ref (ad 0)), (1, .int x1), (2, .int x2)] []
  refine wk_aload_n G 0 dX6_letter_0 rfl rfl ?_
  refine wk_get (ci := 6) (v := .ref (ad 12)) G iX6_letter_X6 0 (by decide) (ck0 cI cZ ad (M 0)) rfl 2 (Nat.le_of_ble_eq_true rfl) kX6_letter_39 rfl dX6_letter_1 ?_
  refine wk_get (ci := 4) (v := .ref (ad 24)) G iX6_letter_X4 12 (by decide) (ck12 cI cZ ad (M 12)) rfl 5 (Nat.le_of_ble_eq_true rfl) kX6_letter_152 rfl dX6_letter_4 ?_
  refine wk_astore_n (lv' := [(3, .ref (ad 24)), (0, .ref (ad 0)), (1, .int x1), (2, .int x2)]) G dX6_letter_7 rfl (by decide) rfl ?_
  refine wk_aload_n G 0 dX6_letter_8 rfl rfl ?_
  refine wk_iload_n G 2 dX6_letter_9 rfl rfl ?_
  obtain ⟨r1, q2, hf⟩ := bd_of hf
  refine wk_callVi (As := [.int x1]) (rest := []) (ci := 1) G 24 (by decide) (c_X1_has l D cI cZ ad 12 (Or.inl rfl) x1 M r1 q2) (cwV 1 G.2.2.2.2.1 gX6_letter_X1_has rfl rfl rfl (by decide +kernel) ⟨Nat.le_of_ble_eq_true rfl, Nat.le_of_ble_eq_true rfl⟩) (ck24 cI cZ ad (M 24)) rfl rfl rfl (Nat.le_of_ble_eq_true rfl) dX6_letter_10 ⟨Nat.le_of_ble_eq_true rfl, Nat.le_of_ble_eq_true rfl⟩ ?_
  refine wk_if_ne (tgt := 19) G dX6_letter_13 (by decide) (fun c3 => ?_) (fun c3 => ?_)
  · replace hf := it_f c3 hf
    refine wk_iload_n G 3 dX6_letter_19 rfl rfl ?_
    by_cases c4_0 : x2 = (0 : Int32)
    · replace hf := it_t c4_0 hf
      refine wk_tableIn (off := 44) (tgt := 64) G dX6_letter_20 (by rw [c4_0]; decide) (by rw [c4_0]; decide) (by rw [c4_0]; rfl) (by decide) ?_
      refine wk_aload_n G 0 dX6_letter_64 rfl rfl ?_
      refine wk_get (ci := 1) (v := .ref (ad 25)) G iX6_letter_X1 24 (by decide) (ck24 cI cZ ad (M 24)) rfl 2 (Nat.le_of_ble_eq_true rfl) kX6_letter_159 rfl dX6_letter_65 ?_
      refine wk_iload_n G 2 dX6_letter_68 rfl rfl ?_
      obtain ⟨h5, hf⟩ := gd_of hf
      refine wk_iald G 25 (by decide) (ck25 cI cZ ad) h5 dX6_letter_69 ?_
      exact wk_ri G hr hlocks dX6_letter_70 (congrArg (fun z => (z, M)) (Option.some.inj hf))
    · replace hf := it_f c4_0 hf
      by_cases c4_1 : x2 = (1 : Int32)
      · replace hf := it_t c4_1 hf
        refine wk_tableIn (off := 51) (tgt := 71) G dX6_letter_20 (by rw [c4_1]; decide) (by rw [c4_1]; decide) (by rw [c4_1]; rfl) (by decide) ?_
        refine wk_aload_n G 0 dX6_letter_71 rfl rfl ?_
        refine wk_get (ci := 1) (v := .ref (ad 26)) G iX6_letter_X1 24 (by decide) (ck24 cI cZ ad (M 24)) rfl 3 (Nat.le_of_ble_eq_true rfl) kX6_letter_162 rfl dX6_letter_72 ?_
        refine wk_iload_n G 2 dX6_letter_75 rfl rfl ?_
        obtain ⟨h6, hf⟩ := gd_of hf
        refine wk_iald G 26 (by decide) (ck26 cI cZ ad) h6 dX6_letter_76 ?_
        exact wk_ri G hr hlocks dX6_letter_77 (congrArg (fun z => (z, M)) (Option.some.inj hf))
      · replace hf := it_f c4_1 hf
        by_cases c4_2 : x2 = (2 : Int32)
        · replace hf := it_t c4_2 hf
          refine wk_tableIn (off := 58) (tgt := 78) G dX6_letter_20 (by rw [c4_2]; decide) (by rw [c4_2]; decide) (by rw [c4_2]; rfl) (by decide) ?_
          refine wk_aload_n G 0 dX6_letter_78 rfl rfl ?_
          refine wk_get (ci := 1) (v := .ref (ad 27)) G iX6_letter_X1 24 (by decide) (ck24 cI cZ ad (M 24)) rfl 4 (Nat.le_of_ble_eq_true rfl) kX6_letter_165 rfl dX6_letter_79 ?_
          refine wk_iload_n G 2 dX6_letter_82 rfl rfl ?_
          obtain ⟨h7, hf⟩ := gd_of hf
          refine wk_iald G 27 (by decide) (ck27 cI cZ ad) h7 dX6_letter_83 ?_
          exact wk_ri G hr hlocks dX6_letter_84 (congrArg (fun z => (z, M)) (Option.some.inj hf))
        · replace hf := it_f c4_2 hf
          by_cases c4_3 : x2 = (3 : Int32)
          · replace hf := it_t c4_3 hf
            refine wk_tableIn (off := 65) (tgt := 85) G dX6_letter_20 (by rw [c4_3]; decide) (by rw [c4_3]; decide) (by rw [c4_3]; rfl) (by decide) ?_
            refine wk_aload_n G 0 dX6_letter_85 rfl rfl ?_
            refine wk_get (ci := 1) (v := .ref (ad 28)) G iX6_letter_X1 24 (by decide) (ck24 cI cZ ad (M 24)) rfl 5 (Nat.le_of_ble_eq_true rfl) kX6_letter_166 rfl dX6_letter_86 ?_
            refine wk_iload_n G 2 dX6_letter_89 rfl rfl ?_
            obtain ⟨h8, hf⟩ := gd_of hf
            refine wk_iald G 28 (by decide) (ck28 cI cZ ad) h8 dX6_letter_90 ?_
            exact wk_ri G hr hlocks dX6_letter_91 (congrArg (fun z => (z, M)) (Option.some.inj hf))
          · replace hf := it_f c4_3 hf
            by_cases c4_4 : x2 = (4 : Int32)
            · replace hf := it_t c4_4 hf
              refine wk_tableIn (off := 72) (tgt := 92) G dX6_letter_20 (by rw [c4_4]; decide) (by rw [c4_4]; decide) (by rw [c4_4]; rfl) (by decide) ?_
              refine wk_aload_n G 0 dX6_letter_92 rfl rfl ?_
              refine wk_get (ci := 1) (v := .ref (ad 29)) G iX6_letter_X1 24 (by decide) (ck24 cI cZ ad (M 24)) rfl 6 (Nat.le_of_ble_eq_true rfl) kX6_letter_167 rfl dX6_letter_93 ?_
              refine wk_iload_n G 2 dX6_letter_96 rfl rfl ?_
              obtain ⟨h9, hf⟩ := gd_of hf
              refine wk_iald G 29 (by decide) (ck29 cI cZ ad) h9 dX6_letter_97 ?_
              exact wk_ri G hr hlocks dX6_letter_98 (congrArg (fun z => (z, M)) (Option.some.inj hf))
            · replace hf := it_f c4_4 hf
              by_cases c4_5 : x2 = (5 : Int32)
              · replace hf := it_t c4_5 hf
                refine wk_tableIn (off := 79) (tgt := 99) G dX6_letter_20 (by rw [c4_5]; decide) (by rw [c4_5]; decide) (by rw [c4_5]; rfl) (by decide) ?_
                refine wk_aload_n G 0 dX6_letter_99 rfl rfl ?_
                refine wk_get (ci := 1) (v := .ref (ad 30)) G iX6_letter_X1 24 (by decide) (ck24 cI cZ ad (M 24)) rfl 7 (Nat.le_of_ble_eq_true rfl) kX6_letter_168 rfl dX6_letter_100 ?_
                refine wk_iload_n G 2 dX6_letter_103 rfl rfl ?_
                obtain ⟨h10, hf⟩ := gd_of hf
                refine wk_iald G 30 (by decide) (ck30 cI cZ ad) h10 dX6_letter_104 ?_
                exact wk_ri G hr hlocks dX6_letter_105 (congrArg (fun z => (z, M)) (Option.some.inj hf))
              · replace hf := it_f c4_5 hf
                by_cases c4_6 : x2 = (6 : Int32)
                · replace hf := it_t c4_6 hf
                  refine wk_tableIn (off := 86) (tgt := 106) G dX6_letter_20 (by rw [c4_6]; decide) (by rw [c4_6]; decide) (by rw [c4_6]; rfl) (by decide) ?_
                  refine wk_aload_n G 0 dX6_letter_106 rfl rfl ?_
                  refine wk_get (ci := 1) (v := .ref (ad 31)) G iX6_letter_X1 24 (by decide) (ck24 cI cZ ad (M 24)) rfl 8 (Nat.le_of_ble_eq_true rfl) kX6_letter_171 rfl dX6_letter_107 ?_
                  refine wk_iload_n G 2 dX6_letter_110 rfl rfl ?_
                  obtain ⟨h11, hf⟩ := gd_of hf
                  refine wk_iald G 31 (by decide) (ck31 cI cZ ad) h11 dX6_letter_111 ?_
                  exact wk_ri G hr hlocks dX6_letter_112 (congrArg (fun z => (z, M)) (Option.some.inj hf))
                · replace hf := it_f c4_6 hf
                  have nc4_0 : ¬ x2.toInt = 0 := sw_ne c4_0
                  have nc4_1 : ¬ x2.toInt = 1 := sw_ne c4_1
                  have nc4_2 : ¬ x2.toInt = 2 := sw_ne c4_2
                  have nc4_3 : ¬ x2.toInt = 3 := sw_ne c4_3
                  have nc4_4 : ¬ x2.toInt = 4 := sw_ne c4_4
                  have nc4_5 : ¬ x2.toInt = 5 := sw_ne c4_5
                  have nc4_6 : ¬ x2.toInt = 6 := sw_ne c4_6
                  refine wk_tableOut (tgt := 113) G dX6_letter_20 (by omega) (by decide) ?_
                  refine wk_bipush (v := (-2 : Int32)) G dX6_letter_113 (by decide) ?_
                  exact wk_ri G hr hlocks dX6_letter_115 (congrArg (fun z => (z, M)) (Option.some.inj hf))
  · replace hf := it_t c3 hf
    refine wk_bipush (v := (-2 : Int32)) G dX6_letter_16 (by decide) ?_
    exact wk_ri G hr hlocks dX6_letter_18 (congrArg (fun z => (z, M)) (Option.some.inj hf))
def fX6_reached (x1 : Int32) (M : Mem) : Option Int32 := (fX6_isRumour x1).bind (fun (r1 : Int32) => if r1 = 0 then (some (-2 : Int32)) else (if (M 12 8) = 0 then (some (-4 : Int32)) else ((fX3_thatKnow 12 x1 M).bind (fun (r5 : Int32) => some r5))))
theorem iX6_reached_X4 : ∀ w ∈ wsX40, w ∈ wsX6_reached := by decide +kernel
theorem iX6_reached_X6 : ∀ w ∈ wsX60, w ∈ wsX6_reached := by decide +kernel
theorem kX6_reached_39 : Cond.fieldLink RX6 39 "PartitionPlay" "shownPlay" "LPartitionPlay$Play;" ∈ wsX6_reached := by decide +kernel
theorem kX6_reached_124 : Cond.fieldLink RX6 124 "PartitionPlay$Play" "nodes" "LPartitionPlay$Nodes;" ∈ wsX6_reached := by decide +kernel
theorem kX6_reached_147 : Cond.fieldLink RX6 147 "PartitionPlay$Play" "turns" "I" ∈ wsX6_reached := by decide +kernel
abbrev rmX6_reached : Room := { frames := 1, cells := 0, slots := 0, locals := 23 }
set_option maxRecDepth 100000 in
set_option maxHeartbeats 4000000 in
theorem c_X6_reached (l : Launch) (D : va_G) (cI cZ : ClassId) (ad : Nat → Nat) (x1 : Int32) (M : Mem) (r : Int32) (hf : fX6_reached x1 M = some r) : MetI l yX6_reached wsX6_reached rmX6_reached D cI cZ ad [.ref (ad 0), .int x1] M r M := by
  refine met_i (cc := cX6_reached) (nL := 2) (ret := (some .int)) (own := RX6) (by decide) rfl rfl (Nat.le_of_ble_eq_true rfl) ?_
  intro p e s m args below meth c A G hr hlocks
  unfold fX6_reached at hf
  show Wk p l e (headSpec wsX6_reached rmX6_reached).room s m args below meth c D cI cZ ad A 2 0 0 (QI below D cI cZ ad A args s r M) M 0 [(0, .ref (ad 0)), (1, .int x1)] []
  refine wk_iload_n G 1 dX6_reached_0 rfl rfl ?_
  obtain ⟨r1, q2, hf⟩ := bd_of hf
  refine wk_callSi (As := [.int x1]) (rest := []) G (c_X6_isRumour l D cI cZ ad x1 M r1 q2) (va_cwS 1 G.2.2.2.2.1 gX6_reached_X6_isRumour rfl rfl rfl (by decide +kernel) ⟨Nat.le_of_ble_eq_true rfl, Nat.le_of_ble_eq_true rfl⟩) rfl rfl (Nat.le_of_ble_eq_true rfl) dX6_reached_1 ⟨Nat.le_of_ble_eq_true rfl, Nat.le_of_ble_eq_true rfl⟩ ?_
  refine wk_if_ne (tgt := 10) G dX6_reached_4 (by decide) (fun c3 => ?_) (fun c3 => ?_)
  · replace hf := it_f c3 hf
    refine wk_aload_n G 0 dX6_reached_10 rfl rfl ?_
    refine wk_get (ci := 6) (v := .ref (ad 12)) G iX6_reached_X6 0 (by decide) (ck0 cI cZ ad (M 0)) rfl 2 (Nat.le_of_ble_eq_true rfl) kX6_reached_39 rfl dX6_reached_11 ?_
    refine wk_get (ci := 4) (v := .int (M 12 8)) G iX6_reached_X4 12 (by decide) (ck12 cI cZ ad (M 12)) rfl 8 (Nat.le_of_ble_eq_true rfl) kX6_reached_147 rfl dX6_reached_14 ?_
    refine wk_if_ne (tgt := 25) G dX6_reached_17 (by decide) (fun c4 => ?_) (fun c4 => ?_)
    · replace hf := it_f c4 hf
      refine wk_aload_n G 0 dX6_reached_25 rfl rfl ?_
      refine wk_get (ci := 6) (v := .ref (ad 12)) G iX6_reached_X6 0 (by decide) (ck0 cI cZ ad (M 0)) rfl 2 (Nat.le_of_ble_eq_true rfl) kX6_reached_39 rfl dX6_reached_26 ?_
      refine wk_get (ci := 4) (v := .ref (ad 18)) G iX6_reached_X4 12 (by decide) (ck12 cI cZ ad (M 12)) rfl 4 (Nat.le_of_ble_eq_true rfl) kX6_reached_124 rfl dX6_reached_29 ?_
      refine wk_iload_n G 1 dX6_reached_32 rfl rfl ?_
      obtain ⟨r5, q6, hf⟩ := bd_of hf
      refine wk_callVi (As := [.int x1]) (rest := []) (ci := 3) G 18 (by decide) (c_X3_thatKnow l D cI cZ ad 12 (Or.inl rfl) x1 M r5 q6) (cwV 1 G.2.2.2.2.1 gX6_reached_X3_thatKnow rfl rfl rfl (by decide +kernel) ⟨Nat.le_of_ble_eq_true rfl, Nat.le_of_ble_eq_true rfl⟩) (ck18 cI cZ ad (M 18)) rfl rfl rfl (Nat.le_of_ble_eq_true rfl) dX6_reached_33 ⟨Nat.le_of_ble_eq_true rfl, Nat.le_of_ble_eq_true rfl⟩ ?_
      exact wk_ri G hr hlocks dX6_reached_36 (congrArg (fun z => (z, M)) (Option.some.inj hf))
    · replace hf := it_t c4 hf
      refine wk_bipush (v := (-4 : Int32)) G dX6_reached_20 (by decide) ?_
      refine wk_goto (tgt := 36) G dX6_reached_22 (by decide) ?_
      exact wk_ri G hr hlocks dX6_reached_36 (congrArg (fun z => (z, M)) (Option.some.inj hf))
  · replace hf := it_t c3 hf
    refine wk_bipush (v := (-2 : Int32)) G dX6_reached_7 (by decide) ?_
    exact wk_ri G hr hlocks dX6_reached_9 (congrArg (fun z => (z, M)) (Option.some.inj hf))
def fX6_bytes (x1 : Int32) (M : Mem) : Option Int32 := (fX2_has x1 M).bind (fun (r1 : Int32) => if r1 = 0 then (some (-2 : Int32)) else (if (M 12 8) = 0 then (some (-4 : Int32)) else ((fX1_bytesFrom 12 x1 M).bind (fun (r5 : Int32) => some r5))))
theorem iX6_bytes_X4 : ∀ w ∈ wsX40, w ∈ wsX6_bytes := by decide +kernel
theorem iX6_bytes_X6 : ∀ w ∈ wsX60, w ∈ wsX6_bytes := by decide +kernel
theorem kX6_bytes_23 : Cond.fieldLink RX6 23 "PartitionPlay" "net" "LPartitionPlay$Net;" ∈ wsX6_bytes := by decide +kernel
theorem kX6_bytes_39 : Cond.fieldLink RX6 39 "PartitionPlay" "shownPlay" "LPartitionPlay$Play;" ∈ wsX6_bytes := by decide +kernel
theorem kX6_bytes_147 : Cond.fieldLink RX6 147 "PartitionPlay$Play" "turns" "I" ∈ wsX6_bytes := by decide +kernel
theorem kX6_bytes_152 : Cond.fieldLink RX6 152 "PartitionPlay$Play" "letters" "LPartitionPlay$Letters;" ∈ wsX6_bytes := by decide +kernel
abbrev rmX6_bytes : Room := { frames := 2, cells := 0, slots := 0, locals := 43 }
set_option maxRecDepth 100000 in
set_option maxHeartbeats 4000000 in
theorem c_X6_bytes (l : Launch) (D : va_G) (cI cZ : ClassId) (ad : Nat → Nat) (x1 : Int32) (M : Mem) (r : Int32) (hf : fX6_bytes x1 M = some r) : MetI l yX6_bytes wsX6_bytes rmX6_bytes D cI cZ ad [.ref (ad 0), .int x1] M r M := by
  refine met_i (cc := cX6_bytes) (nL := 2) (ret := (some .int)) (own := RX6) (by decide) rfl rfl (Nat.le_of_ble_eq_true rfl) ?_
  intro p e s m args below meth c A G hr hlocks
  unfold fX6_bytes at hf
  show Wk p l e (headSpec wsX6_bytes rmX6_bytes).room s m args below meth c D cI cZ ad A 2 0 0 (QI below D cI cZ ad A args s r M) M 0 [(0, .ref (ad 0)), (1, .int x1)] []
  refine wk_aload_n G 0 dX6_bytes_0 rfl rfl ?_
  refine wk_get (ci := 6) (v := .ref (ad 1)) G iX6_bytes_X6 0 (by decide) (ck0 cI cZ ad (M 0)) rfl 0 (Nat.le_of_ble_eq_true rfl) kX6_bytes_23 rfl dX6_bytes_1 ?_
  refine wk_iload_n G 1 dX6_bytes_4 rfl rfl ?_
  obtain ⟨r1, q2, hf⟩ := bd_of hf
  refine wk_callVi (As := [.int x1]) (rest := []) (ci := 2) G 1 (by decide) (c_X2_has l D cI cZ ad x1 M r1 q2) (cwV 1 G.2.2.2.2.1 gX6_bytes_X2_has rfl rfl rfl (by decide +kernel) ⟨Nat.le_of_ble_eq_true rfl, Nat.le_of_ble_eq_true rfl⟩) (ck1 cI cZ ad (M 1)) rfl rfl rfl (Nat.le_of_ble_eq_true rfl) dX6_bytes_5 ⟨Nat.le_of_ble_eq_true rfl, Nat.le_of_ble_eq_true rfl⟩ ?_
  refine wk_if_ne (tgt := 14) G dX6_bytes_8 (by decide) (fun c3 => ?_) (fun c3 => ?_)
  · replace hf := it_f c3 hf
    refine wk_aload_n G 0 dX6_bytes_14 rfl rfl ?_
    refine wk_get (ci := 6) (v := .ref (ad 12)) G iX6_bytes_X6 0 (by decide) (ck0 cI cZ ad (M 0)) rfl 2 (Nat.le_of_ble_eq_true rfl) kX6_bytes_39 rfl dX6_bytes_15 ?_
    refine wk_get (ci := 4) (v := .int (M 12 8)) G iX6_bytes_X4 12 (by decide) (ck12 cI cZ ad (M 12)) rfl 8 (Nat.le_of_ble_eq_true rfl) kX6_bytes_147 rfl dX6_bytes_18 ?_
    refine wk_if_ne (tgt := 29) G dX6_bytes_21 (by decide) (fun c4 => ?_) (fun c4 => ?_)
    · replace hf := it_f c4 hf
      refine wk_aload_n G 0 dX6_bytes_29 rfl rfl ?_
      refine wk_get (ci := 6) (v := .ref (ad 12)) G iX6_bytes_X6 0 (by decide) (ck0 cI cZ ad (M 0)) rfl 2 (Nat.le_of_ble_eq_true rfl) kX6_bytes_39 rfl dX6_bytes_30 ?_
      refine wk_get (ci := 4) (v := .ref (ad 24)) G iX6_bytes_X4 12 (by decide) (ck12 cI cZ ad (M 12)) rfl 5 (Nat.le_of_ble_eq_true rfl) kX6_bytes_152 rfl dX6_bytes_33 ?_
      refine wk_iload_n G 1 dX6_bytes_36 rfl rfl ?_
      obtain ⟨r5, q6, hf⟩ := bd_of hf
      refine wk_callVi (As := [.int x1]) (rest := []) (ci := 1) G 24 (by decide) (c_X1_bytesFrom l D cI cZ ad 12 (Or.inl rfl) x1 M r5 q6) (cwV 1 G.2.2.2.2.1 gX6_bytes_X1_bytesFrom rfl rfl rfl (by decide +kernel) ⟨Nat.le_of_ble_eq_true rfl, Nat.le_of_ble_eq_true rfl⟩) (ck24 cI cZ ad (M 24)) rfl rfl rfl (Nat.le_of_ble_eq_true rfl) dX6_bytes_37 ⟨Nat.le_of_ble_eq_true rfl, Nat.le_of_ble_eq_true rfl⟩ ?_
      exact wk_ri G hr hlocks dX6_bytes_40 (congrArg (fun z => (z, M)) (Option.some.inj hf))
    · replace hf := it_t c4 hf
      refine wk_bipush (v := (-4 : Int32)) G dX6_bytes_24 (by decide) ?_
      refine wk_goto (tgt := 40) G dX6_bytes_26 (by decide) ?_
      exact wk_ri G hr hlocks dX6_bytes_40 (congrArg (fun z => (z, M)) (Option.some.inj hf))
  · replace hf := it_t c3 hf
    refine wk_bipush (v := (-2 : Int32)) G dX6_bytes_11 (by decide) ?_
    exact wk_ri G hr hlocks dX6_bytes_13 (congrArg (fun z => (z, M)) (Option.some.inj hf))
def fX6_shrink (M : Mem) : Option (Int32 × Mem) := nm ((M 12 8)) fun (v1 : Int32) => if v1 = 0 then (some ((-4 : Int32), M)) else ((fX4_run 34 v1 (0 : Int32) M).bind (un2 fun (r3 : Int32) (M4 : Mem) => if r3 = 0 then (some ((-4 : Int32), M4)) else (nm (((M4 5 0) - (1 : Int32))) fun (v7 : Int32) => (loop fu (un2 fun (v8 : Int32) (M9 : Mem) => (if v8 < 0 then (some (.inr M9)) else (gd v8 20 (nm (st M9 10 (Int32.toNatClampNeg v8) (vp_nar .boolean (1 : Int32))) fun (M12 : Mem) => (fX4_run 34 v1 (0 : Int32) M12).bind (un2 fun (r13 : Int32) (M14 : Mem) => gd v8 20 (nm (st M14 10 (Int32.toNatClampNeg v8) (vp_nar .boolean r13)) fun (M17 : Mem) => nm (v8 + (-1 : Int32)) fun (v18 : Int32) => some (.inl (v18, M17)))))) : Option ((Int32 × Mem) ⊕ (Mem)))) (v7, M4)).bind (un1 fun (M19 : Mem) => (fX5_removeLeftOut M19).bind (fun (M20 : Mem) => (fX4_run 12 v1 (0 : Int32) M20).bind (un2 fun (r22 : Int32) (M23 : Mem) => some ((M23 5 0), M23)))))))
theorem iX6_shrink_X4 : ∀ w ∈ wsX40, w ∈ wsX6_shrink := by decide +kernel
theorem iX6_shrink_X5 : ∀ w ∈ wsX50, w ∈ wsX6_shrink := by decide +kernel
theorem iX6_shrink_X6 : ∀ w ∈ wsX60, w ∈ wsX6_shrink := by decide +kernel
theorem kX6_shrink_30 : Cond.fieldLink RX6 30 "PartitionPlay" "schedule" "LPartitionPlay$Schedule;" ∈ wsX6_shrink := by decide +kernel
theorem kX6_shrink_39 : Cond.fieldLink RX6 39 "PartitionPlay" "shownPlay" "LPartitionPlay$Play;" ∈ wsX6_shrink := by decide +kernel
theorem kX6_shrink_43 : Cond.fieldLink RX6 43 "PartitionPlay" "trial" "LPartitionPlay$Play;" ∈ wsX6_shrink := by decide +kernel
theorem kX6_shrink_104 : Cond.fieldLink RX6 104 "PartitionPlay$Schedule" "size" "I" ∈ wsX6_shrink := by decide +kernel
theorem kX6_shrink_147 : Cond.fieldLink RX6 147 "PartitionPlay$Play" "turns" "I" ∈ wsX6_shrink := by decide +kernel
theorem kX6_shrink_180 : Cond.fieldLink RX6 180 "PartitionPlay$Schedule" "leftOut" "[Z" ∈ wsX6_shrink := by decide +kernel
abbrev rmX6_shrink : Room := { frames := 6, cells := 0, slots := 0, locals := 142 }
set_option maxRecDepth 100000 in
set_option maxHeartbeats 4000000 in
theorem c_X6_shrink (l : Launch) (D : va_G) (cI cZ : ClassId) (ad : Nat → Nat) (M : Mem) (r : Int32) (M' : Mem) (hf : fX6_shrink M = some (r, M')) : MetI l yX6_shrink wsX6_shrink rmX6_shrink D cI cZ ad [.ref (ad 0)] M r M' := by
  refine met_i (cc := cX6_shrink) (nL := 3) (ret := (some .int)) (own := RX6) (by decide) rfl rfl (Nat.le_of_ble_eq_true rfl) ?_
  intro p e s m args below meth c A G hr hlocks
  unfold fX6_shrink at hf
  show Wk p l e (headSpec wsX6_shrink rmX6_shrink).room s m args below meth c D cI cZ ad A 3 0 0 (QI below D cI cZ ad A args s r M') M 0 [(0, .ref (ad 0))] []
  refine wk_aload_n G 0 dX6_shrink_0 rfl rfl ?_
  refine wk_get (ci := 6) (v := .ref (ad 12)) G iX6_shrink_X6 0 (by decide) (ck0 cI cZ ad (M 0)) rfl 2 (Nat.le_of_ble_eq_true rfl) kX6_shrink_39 rfl dX6_shrink_1 ?_
  refine wk_get (ci := 4) (v := .int (M 12 8)) G iX6_shrink_X4 12 (by decide) (ck12 cI cZ ad (M 12)) rfl 8 (Nat.le_of_ble_eq_true rfl) kX6_shrink_147 rfl dX6_shrink_4 ?_
  obtain ⟨v1, ev1, hf⟩ := nm_ex hf
  refine wk_nme ev1 ?_
  refine wk_istore_n (lv' := [(1, .int v1), (0, .ref (ad 0))]) G dX6_shrink_7 rfl (by decide) rfl ?_
  refine wk_iload_n G 0 dX6_shrink_8 rfl rfl ?_
  refine wk_if_eq (tgt := 24) G dX6_shrink_9 (by decide) (fun c2 => ?_) (fun c2 => ?_)
  · replace hf := it_t c2 hf
    refine wk_bipush (v := (-4 : Int32)) G dX6_shrink_24 (by decide) ?_
    exact wk_ri G hr hlocks dX6_shrink_26 (Option.some.inj hf)
  · replace hf := it_f c2 hf
    refine wk_aload_n G 1 dX6_shrink_12 rfl rfl ?_
    refine wk_get (ci := 6) (v := .ref (ad 34)) G iX6_shrink_X6 0 (by decide) (ck0 cI cZ ad (M 0)) rfl 3 (Nat.le_of_ble_eq_true rfl) kX6_shrink_43 rfl dX6_shrink_13 ?_
    refine wk_iload_n G 0 dX6_shrink_16 rfl rfl ?_
    refine wk_iconst (v := (0 : Int32)) G dX6_shrink_17 (by decide) ?_
    obtain ⟨⟨r3, M4⟩, q5, hf⟩ := bd_of hf
    replace hf := un2_of hf
    refine wk_callVi (As := [.int v1, .int (0 : Int32)]) (rest := []) (ci := 4) G 34 (by decide) (c_X4_run l D cI cZ ad 34 (Or.inr rfl) v1 (0 : Int32) M r3 M4 q5) (cwV 2 G.2.2.2.2.1 gX6_shrink_X4_run rfl rfl rfl (by decide +kernel) ⟨Nat.le_of_ble_eq_true rfl, Nat.le_of_ble_eq_true rfl⟩) (ck34 cI cZ ad (M 34)) rfl rfl rfl (Nat.le_of_ble_eq_true rfl) dX6_shrink_18 ⟨Nat.le_of_ble_eq_true rfl, Nat.le_of_ble_eq_true rfl⟩ ?_
    refine wk_if_ne (tgt := 27) G dX6_shrink_21 (by decide) (fun c6 => ?_) (fun c6 => ?_)
    · replace hf := it_f c6 hf
      refine wk_aload_n G 1 dX6_shrink_27 rfl rfl ?_
      refine wk_get (ci := 6) (v := .ref (ad 5)) G iX6_shrink_X6 0 (by decide) (ck0 cI cZ ad (M4 0)) rfl 1 (Nat.le_of_ble_eq_true rfl) kX6_shrink_30 rfl dX6_shrink_28 ?_
      refine wk_get (ci := 5) (v := .int (M4 5 0)) G iX6_shrink_X5 5 (by decide) (ck5 cI cZ ad (M4 5)) rfl 0 (Nat.le_of_ble_eq_true rfl) kX6_shrink_104 rfl dX6_shrink_31 ?_
      refine wk_iconst (v := (1 : Int32)) G dX6_shrink_34 (by decide) ?_
      refine wk_isub G dX6_shrink_35 ?_
      obtain ⟨v7, ev7, hf⟩ := nm_ex hf
      refine wk_nme ev7 ?_
      refine wk_istore_n (lv' := [(2, .int v7), (1, .int v1), (0, .ref (ad 0))]) G dX6_shrink_36 rfl (by decide) rfl ?_
      refine wk_sub [2, 1, 0] rfl ?_
      obtain ⟨q25, q26, hf⟩ := bd_of hf
      have Cq25 : (up1 fun (M19 : Mem) => Wk p l e (headSpec wsX6_shrink rmX6_shrink).room s m args below meth c D cI cZ ad A 3 0 0 (QI below D cI cZ ad A args s r M') M19 75 [(0, .ref (ad 0)), (1, .int v1)] []) q25 := by
        obtain ⟨M19, rfl⟩ : ∃ z, z = q25 := ⟨_, rfl⟩
        replace hf := un1_of hf
        show Wk p l e (headSpec wsX6_shrink rmX6_shrink).room s m args below meth c D cI cZ ad A 3 0 0 (QI below D cI cZ ad A args s r M') M19 75 [(0, .ref (ad 0)), (1, .int v1)] []
        refine wk_aload_n G 0 dX6_shrink_75 rfl rfl ?_
        refine wk_get (ci := 6) (v := .ref (ad 5)) G iX6_shrink_X6 0 (by decide) (ck0 cI cZ ad (M19 0)) rfl 1 (Nat.le_of_ble_eq_true rfl) kX6_shrink_30 rfl dX6_shrink_76 ?_
        obtain ⟨M20, q21, hf⟩ := bd_of hf
        refine wk_callVv (As := []) (rest := []) (ci := 5) G 5 (by decide) (c_X5_removeLeftOut l D cI cZ ad M19 M20 q21) (cwV 0 G.2.2.2.2.1 gX6_shrink_X5_removeLeftOut rfl rfl rfl (by decide +kernel) ⟨Nat.le_of_ble_eq_true rfl, Nat.le_of_ble_eq_true rfl⟩) (ck5 cI cZ ad (M19 5)) rfl rfl rfl (Nat.le_of_ble_eq_true rfl) dX6_shrink_79 ⟨Nat.le_of_ble_eq_true rfl, Nat.le_of_ble_eq_true rfl⟩ ?_
        refine wk_aload_n G 0 dX6_shrink_82 rfl rfl ?_
        refine wk_get (ci := 6) (v := .ref (ad 12)) G iX6_shrink_X6 0 (by decide) (ck0 cI cZ ad (M20 0)) rfl 2 (Nat.le_of_ble_eq_true rfl) kX6_shrink_39 rfl dX6_shrink_83 ?_
        refine wk_iload_n G 1 dX6_shrink_86 rfl rfl ?_
        refine wk_iconst (v := (0 : Int32)) G dX6_shrink_87 (by decide) ?_
        obtain ⟨⟨r22, M23⟩, q24, hf⟩ := bd_of hf
        replace hf := un2_of hf
        refine wk_callVi (As := [.int v1, .int (0 : Int32)]) (rest := []) (ci := 4) G 12 (by decide) (c_X4_run l D cI cZ ad 12 (Or.inl rfl) v1 (0 : Int32) M20 r22 M23 q24) (cwV 2 G.2.2.2.2.1 gX6_shrink_X4_run rfl rfl rfl (by decide +kernel) ⟨Nat.le_of_ble_eq_true rfl, Nat.le_of_ble_eq_true rfl⟩) (ck12 cI cZ ad (M20 12)) rfl rfl rfl (Nat.le_of_ble_eq_true rfl) dX6_shrink_88 ⟨Nat.le_of_ble_eq_true rfl, Nat.le_of_ble_eq_true rfl⟩ ?_
        refine wk_pop G dX6_shrink_91 rfl ?_
        refine wk_aload_n G 0 dX6_shrink_92 rfl rfl ?_
        refine wk_get (ci := 6) (v := .ref (ad 5)) G iX6_shrink_X6 0 (by decide) (ck0 cI cZ ad (M23 0)) rfl 1 (Nat.le_of_ble_eq_true rfl) kX6_shrink_30 rfl dX6_shrink_93 ?_
        refine wk_get (ci := 5) (v := .int (M23 5 0)) G iX6_shrink_X5 5 (by decide) (ck5 cI cZ ad (M23 5)) rfl 0 (Nat.le_of_ble_eq_true rfl) kX6_shrink_104 rfl dX6_shrink_96 ?_
        exact wk_ri G hr hlocks dX6_shrink_99 (Option.some.inj hf)
      have Lq25 : (up2 fun (v8 : Int32) (M9 : Mem) => Wk p l e (headSpec wsX6_shrink rmX6_shrink).room s m args below meth c D cI cZ ad A 3 0 0 (QI below D cI cZ ad A args s r M') M9 37 [(0, .ref (ad 0)), (1, .int v1), (2, .int v8)] []) (v7, M4) := by
        refine loop_P (C := (up1 fun (M19 : Mem) => Wk p l e (headSpec wsX6_shrink rmX6_shrink).room s m args below meth c D cI cZ ad A 3 0 0 (QI below D cI cZ ad A args s r M') M19 75 [(0, .ref (ad 0)), (1, .int v1)] [])) ?_ fu (v7, M4) q25 q26 Cq25
        clear hf Cq25 q26
        rintro ⟨v8, M9⟩ o hf hI hE
        replace hf := un2_of hf
        show Wk p l e (headSpec wsX6_shrink rmX6_shrink).room s m args below meth c D cI cZ ad A 3 0 0 (QI below D cI cZ ad A args s r M') M9 37 [(0, .ref (ad 0)), (1, .int v1), (2, .int v8)] []
        refine wk_iload_n G 2 dX6_shrink_37 rfl rfl ?_
        refine wk_if_lt (tgt := 75) G dX6_shrink_38 (by decide) (fun c10 => ?_) (fun c10 => ?_)
        · replace hf := it_t c10 hf
          refine wk_sub [0, 1] rfl ?_
          exact hE _ (Option.some.inj hf).symm
        · replace hf := it_f c10 hf
          refine wk_aload_n G 0 dX6_shrink_41 rfl rfl ?_
          refine wk_get (ci := 6) (v := .ref (ad 5)) G iX6_shrink_X6 0 (by decide) (ck0 cI cZ ad (M9 0)) rfl 1 (Nat.le_of_ble_eq_true rfl) kX6_shrink_30 rfl dX6_shrink_42 ?_
          refine wk_get (ci := 5) (v := .ref (ad 10)) G iX6_shrink_X5 5 (by decide) (ck5 cI cZ ad (M9 5)) rfl 5 (Nat.le_of_ble_eq_true rfl) kX6_shrink_180 rfl dX6_shrink_45 ?_
          refine wk_iload_n G 2 dX6_shrink_48 rfl rfl ?_
          refine wk_iconst (v := (1 : Int32)) G dX6_shrink_49 (by decide) ?_
          obtain ⟨h11, hf⟩ := gd_of hf
          obtain ⟨M12, eM12, hf⟩ := nm_ex hf
          refine wk_zast G 10 (by decide) (ck10 cI cZ ad) h11 dX6_shrink_50 eM12 ?_
          refine wk_aload_n G 0 dX6_shrink_51 rfl rfl ?_
          refine wk_get (ci := 6) (v := .ref (ad 5)) G iX6_shrink_X6 0 (by decide) (ck0 cI cZ ad (M12 0)) rfl 1 (Nat.le_of_ble_eq_true rfl) kX6_shrink_30 rfl dX6_shrink_52 ?_
          refine wk_get (ci := 5) (v := .ref (ad 10)) G iX6_shrink_X5 5 (by decide) (ck5 cI cZ ad (M12 5)) rfl 5 (Nat.le_of_ble_eq_true rfl) kX6_shrink_180 rfl dX6_shrink_55 ?_
          refine wk_iload_n G 2 dX6_shrink_58 rfl rfl ?_
          refine wk_aload_n G 0 dX6_shrink_59 rfl rfl ?_
          refine wk_get (ci := 6) (v := .ref (ad 34)) G iX6_shrink_X6 0 (by decide) (ck0 cI cZ ad (M12 0)) rfl 3 (Nat.le_of_ble_eq_true rfl) kX6_shrink_43 rfl dX6_shrink_60 ?_
          refine wk_iload_n G 1 dX6_shrink_63 rfl rfl ?_
          refine wk_iconst (v := (0 : Int32)) G dX6_shrink_64 (by decide) ?_
          obtain ⟨⟨r13, M14⟩, q15, hf⟩ := bd_of hf
          replace hf := un2_of hf
          refine wk_callVi (As := [.int v1, .int (0 : Int32)]) (rest := [.int v8, .ref (ad 10)]) (ci := 4) G 34 (by decide) (c_X4_run l D cI cZ ad 34 (Or.inr rfl) v1 (0 : Int32) M12 r13 M14 q15) (cwV 2 G.2.2.2.2.1 gX6_shrink_X4_run rfl rfl rfl (by decide +kernel) ⟨Nat.le_of_ble_eq_true rfl, Nat.le_of_ble_eq_true rfl⟩) (ck34 cI cZ ad (M12 34)) rfl rfl rfl (Nat.le_of_ble_eq_true rfl) dX6_shrink_65 ⟨Nat.le_of_ble_eq_true rfl, Nat.le_of_ble_eq_true rfl⟩ ?_
          obtain ⟨h16, hf⟩ := gd_of hf
          obtain ⟨M17, eM17, hf⟩ := nm_ex hf
          refine wk_zast G 10 (by decide) (ck10 cI cZ ad) h16 dX6_shrink_68 eM17 ?_
          obtain ⟨v18, ev18, hf⟩ := nm_ex hf
          refine wk_iinc (v := v18) (lv' := [(2, .int v18), (0, .ref (ad 0)), (1, .int v1)]) G 2 dX6_shrink_69 rfl (by rw [ev18]; rfl) (by decide) rfl ?_
          refine wk_goto (tgt := 37) G dX6_shrink_72 (by decide) ?_
          refine wk_sub [1, 2, 0] rfl ?_
          exact hI _ (Option.some.inj hf).symm
      exact Lq25
    · replace hf := it_t c6 hf
      refine wk_bipush (v := (-4 : Int32)) G dX6_shrink_24 (by decide) ?_
      exact wk_ri G hr hlocks dX6_shrink_26 (Option.some.inj hf)
def fX6_minimal (M : Mem) : Option (Int32 × Mem) := nm ((M 12 8)) fun (v1 : Int32) => if v1 = 0 then (some ((-4 : Int32), M)) else ((fX4_run 34 v1 (0 : Int32) M).bind (un2 fun (r3 : Int32) (M4 : Mem) => (loop fu (un3 fun (v6 : Int32) (v7 : Int32) (M8 : Mem) => (if (M8 5 0) ≤ v7 then (some (.inr (v6, M8))) else (if v6 = 0 then (some (.inr (v6, M8))) else (gd v7 20 (nm (st M8 10 (Int32.toNatClampNeg v7) (vp_nar .boolean (1 : Int32))) fun (M12 : Mem) => (fX4_run 34 v1 (0 : Int32) M12).bind (un2 fun (r13 : Int32) (M14 : Mem) => nm (fun (v16 : Int32) => gd v7 20 (nm (st M14 10 (Int32.toNatClampNeg v7) (vp_nar .boolean (0 : Int32))) fun (M18 : Mem) => nm (v7 + (1 : Int32)) fun (v19 : Int32) => some (.inl (v16, v19, M18)))) fun j69 => if r13 = 0 then (j69 (1 : Int32)) else (j69 (0 : Int32)))))) : Option ((Int32 × Int32 × Mem) ⊕ (Int32 × Mem)))) (r3, (0 : Int32), M4)).bind (un2 fun (v21 : Int32) (M22 : Mem) => if v21 = 0 then (some ((0 : Int32), M22)) else (some ((1 : Int32), M22)))))
theorem iX6_minimal_X4 : ∀ w ∈ wsX40, w ∈ wsX6_minimal := by decide +kernel
theorem iX6_minimal_X5 : ∀ w ∈ wsX50, w ∈ wsX6_minimal := by decide +kernel
theorem iX6_minimal_X6 : ∀ w ∈ wsX60, w ∈ wsX6_minimal := by decide +kernel
theorem kX6_minimal_30 : Cond.fieldLink RX6 30 "PartitionPlay" "schedule" "LPartitionPlay$Schedule;" ∈ wsX6_minimal := by decide +kernel
theorem kX6_minimal_39 : Cond.fieldLink RX6 39 "PartitionPlay" "shownPlay" "LPartitionPlay$Play;" ∈ wsX6_minimal := by decide +kernel
theorem kX6_minimal_43 : Cond.fieldLink RX6 43 "PartitionPlay" "trial" "LPartitionPlay$Play;" ∈ wsX6_minimal := by decide +kernel
theorem kX6_minimal_104 : Cond.fieldLink RX6 104 "PartitionPlay$Schedule" "size" "I" ∈ wsX6_minimal := by decide +kernel
theorem kX6_minimal_147 : Cond.fieldLink RX6 147 "PartitionPlay$Play" "turns" "I" ∈ wsX6_minimal := by decide +kernel
theorem kX6_minimal_180 : Cond.fieldLink RX6 180 "PartitionPlay$Schedule" "leftOut" "[Z" ∈ wsX6_minimal := by decide +kernel
abbrev rmX6_minimal : Room := { frames := 6, cells := 0, slots := 0, locals := 142 }
set_option maxRecDepth 100000 in
set_option maxHeartbeats 4000000 in
theorem c_X6_minimal (l : Launch) (D : va_G) (cI cZ : ClassId) (ad : Nat → Nat) (M : Mem) (r : Int32) (M' : Mem) (hf : fX6_minimal M = some (r, M')) : MetI l yX6_minimal wsX6_minimal rmX6_minimal D cI cZ ad [.ref (ad 0)] M r M' := by
  refine met_i (cc := cX6_minimal) (nL := 4) (ret := (some .int)) (own := RX6) (by decide) rfl rfl (Nat.le_of_ble_eq_true rfl) ?_
  intro p e s m args below meth c A G hr hlocks
  unfold fX6_minimal at hf
  show Wk p l e (headSpec wsX6_minimal rmX6_minimal).room s m args below meth c D cI cZ ad A 4 0 0 (QI below D cI cZ ad A args s r M') M 0 [(0, .ref (ad 0))] []
  refine wk_aload_n G 0 dX6_minimal_0 rfl rfl ?_
  refine wk_get (ci := 6) (v := .ref (ad 12)) G iX6_minimal_X6 0 (by decide) (ck0 cI cZ ad (M 0)) rfl 2 (Nat.le_of_ble_eq_true rfl) kX6_minimal_39 rfl dX6_minimal_1 ?_
  refine wk_get (ci := 4) (v := .int (M 12 8)) G iX6_minimal_X4 12 (by decide) (ck12 cI cZ ad (M 12)) rfl 8 (Nat.le_of_ble_eq_true rfl) kX6_minimal_147 rfl dX6_minimal_4 ?_
  obtain ⟨v1, ev1, hf⟩ := nm_ex hf
  refine wk_nme ev1 ?_
  refine wk_istore_n (lv' := [(1, .int v1), (0, .ref (ad 0))]) G dX6_minimal_7 rfl (by decide) rfl ?_
  refine wk_iload_n G 0 dX6_minimal_8 rfl rfl ?_
  refine wk_if_ne (tgt := 15) G dX6_minimal_9 (by decide) (fun c2 => ?_) (fun c2 => ?_)
  · replace hf := it_f c2 hf
    refine wk_aload_n G 1 dX6_minimal_15 rfl rfl ?_
    refine wk_get (ci := 6) (v := .ref (ad 34)) G iX6_minimal_X6 0 (by decide) (ck0 cI cZ ad (M 0)) rfl 3 (Nat.le_of_ble_eq_true rfl) kX6_minimal_43 rfl dX6_minimal_16 ?_
    refine wk_iload_n G 0 dX6_minimal_19 rfl rfl ?_
    refine wk_iconst (v := (0 : Int32)) G dX6_minimal_20 (by decide) ?_
    obtain ⟨⟨r3, M4⟩, q5, hf⟩ := bd_of hf
    replace hf := un2_of hf
    refine wk_callVi (As := [.int v1, .int (0 : Int32)]) (rest := []) (ci := 4) G 34 (by decide) (c_X4_run l D cI cZ ad 34 (Or.inr rfl) v1 (0 : Int32) M r3 M4 q5) (cwV 2 G.2.2.2.2.1 gX6_minimal_X4_run rfl rfl rfl (by decide +kernel) ⟨Nat.le_of_ble_eq_true rfl, Nat.le_of_ble_eq_true rfl⟩) (ck34 cI cZ ad (M 34)) rfl rfl rfl (Nat.le_of_ble_eq_true rfl) dX6_minimal_21 ⟨Nat.le_of_ble_eq_true rfl, Nat.le_of_ble_eq_true rfl⟩ ?_
    refine wk_istore_n (lv' := [(2, .int r3), (1, .int v1), (0, .ref (ad 0))]) G dX6_minimal_24 rfl (by decide) rfl ?_
    refine wk_iconst (v := (0 : Int32)) G dX6_minimal_25 (by decide) ?_
    refine wk_istore_n (lv' := [(3, .int (0 : Int32)), (2, .int r3), (1, .int v1), (0, .ref (ad 0))]) G dX6_minimal_26 rfl (by decide) rfl ?_
    refine wk_sub [3, 2, 1, 0] rfl ?_
    obtain ⟨q24, q25, hf⟩ := bd_of hf
    have Cq24 : (up2 fun (v21 : Int32) (M22 : Mem) => Wk p l e (headSpec wsX6_minimal rmX6_minimal).room s m args below meth c D cI cZ ad A 4 0 0 (QI below D cI cZ ad A args s r M') M22 86 [(2, .int v21)] []) q24 := by
      obtain ⟨v21, M22⟩ := q24
      replace hf := un2_of hf
      show Wk p l e (headSpec wsX6_minimal rmX6_minimal).room s m args below meth c D cI cZ ad A 4 0 0 (QI below D cI cZ ad A args s r M') M22 86 [(2, .int v21)] []
      refine wk_iload_n G 0 dX6_minimal_86 rfl rfl ?_
      refine wk_if_eq (tgt := 94) G dX6_minimal_87 (by decide) (fun c23 => ?_) (fun c23 => ?_)
      · replace hf := it_t c23 hf
        refine wk_iconst (v := (0 : Int32)) G dX6_minimal_94 (by decide) ?_
        exact wk_ri G hr hlocks dX6_minimal_95 (Option.some.inj hf)
      · replace hf := it_f c23 hf
        refine wk_iconst (v := (1 : Int32)) G dX6_minimal_90 (by decide) ?_
        refine wk_goto (tgt := 95) G dX6_minimal_91 (by decide) ?_
        exact wk_ri G hr hlocks dX6_minimal_95 (Option.some.inj hf)
    have Lq24 : (up3 fun (v6 : Int32) (v7 : Int32) (M8 : Mem) => Wk p l e (headSpec wsX6_minimal rmX6_minimal).room s m args below meth c D cI cZ ad A 4 0 0 (QI below D cI cZ ad A args s r M') M8 27 [(0, .ref (ad 0)), (1, .int v1), (2, .int v6), (3, .int v7)] []) (r3, (0 : Int32), M4) := by
      refine loop_P (C := (up2 fun (v21 : Int32) (M22 : Mem) => Wk p l e (headSpec wsX6_minimal rmX6_minimal).room s m args below meth c D cI cZ ad A 4 0 0 (QI below D cI cZ ad A args s r M') M22 86 [(2, .int v21)] [])) ?_ fu (r3, (0 : Int32), M4) q24 q25 Cq24
      clear hf Cq24 q25
      rintro ⟨v6, v7, M8⟩ o hf hI hE
      replace hf := un3_of hf
      show Wk p l e (headSpec wsX6_minimal rmX6_minimal).room s m args below meth c D cI cZ ad A 4 0 0 (QI below D cI cZ ad A args s r M') M8 27 [(0, .ref (ad 0)), (1, .int v1), (2, .int v6), (3, .int v7)] []
      refine wk_iload_n G 3 dX6_minimal_27 rfl rfl ?_
      refine wk_aload_n G 0 dX6_minimal_28 rfl rfl ?_
      refine wk_get (ci := 6) (v := .ref (ad 5)) G iX6_minimal_X6 0 (by decide) (ck0 cI cZ ad (M8 0)) rfl 1 (Nat.le_of_ble_eq_true rfl) kX6_minimal_30 rfl dX6_minimal_29 ?_
      refine wk_get (ci := 5) (v := .int (M8 5 0)) G iX6_minimal_X5 5 (by decide) (ck5 cI cZ ad (M8 5)) rfl 0 (Nat.le_of_ble_eq_true rfl) kX6_minimal_104 rfl dX6_minimal_32 ?_
      refine wk_icmp_ge (tgt := 86) G dX6_minimal_35 (by decide) (fun c9 => ?_) (fun c9 => ?_)
      · replace hf := it_t c9 hf
        refine wk_sub [2] rfl ?_
        exact hE _ (Option.some.inj hf).symm
      · replace hf := it_f c9 hf
        refine wk_iload_n G 2 dX6_minimal_38 rfl rfl ?_
        refine wk_if_eq (tgt := 86) G dX6_minimal_39 (by decide) (fun c10 => ?_) (fun c10 => ?_)
        · replace hf := it_t c10 hf
          refine wk_sub [2] rfl ?_
          exact hE _ (Option.some.inj hf).symm
        · replace hf := it_f c10 hf
          refine wk_aload_n G 0 dX6_minimal_42 rfl rfl ?_
          refine wk_get (ci := 6) (v := .ref (ad 5)) G iX6_minimal_X6 0 (by decide) (ck0 cI cZ ad (M8 0)) rfl 1 (Nat.le_of_ble_eq_true rfl) kX6_minimal_30 rfl dX6_minimal_43 ?_
          refine wk_get (ci := 5) (v := .ref (ad 10)) G iX6_minimal_X5 5 (by decide) (ck5 cI cZ ad (M8 5)) rfl 5 (Nat.le_of_ble_eq_true rfl) kX6_minimal_180 rfl dX6_minimal_46 ?_
          refine wk_iload_n G 3 dX6_minimal_49 rfl rfl ?_
          refine wk_iconst (v := (1 : Int32)) G dX6_minimal_50 (by decide) ?_
          obtain ⟨h11, hf⟩ := gd_of hf
          obtain ⟨M12, eM12, hf⟩ := nm_ex hf
          refine wk_zast G 10 (by decide) (ck10 cI cZ ad) h11 dX6_minimal_51 eM12 ?_
          refine wk_aload_n G 0 dX6_minimal_52 rfl rfl ?_
          refine wk_get (ci := 6) (v := .ref (ad 34)) G iX6_minimal_X6 0 (by decide) (ck0 cI cZ ad (M12 0)) rfl 3 (Nat.le_of_ble_eq_true rfl) kX6_minimal_43 rfl dX6_minimal_53 ?_
          refine wk_iload_n G 1 dX6_minimal_56 rfl rfl ?_
          refine wk_iconst (v := (0 : Int32)) G dX6_minimal_57 (by decide) ?_
          obtain ⟨⟨r13, M14⟩, q15, hf⟩ := bd_of hf
          replace hf := un2_of hf
          refine wk_callVi (As := [.int v1, .int (0 : Int32)]) (rest := []) (ci := 4) G 34 (by decide) (c_X4_run l D cI cZ ad 34 (Or.inr rfl) v1 (0 : Int32) M12 r13 M14 q15) (cwV 2 G.2.2.2.2.1 gX6_minimal_X4_run rfl rfl rfl (by decide +kernel) ⟨Nat.le_of_ble_eq_true rfl, Nat.le_of_ble_eq_true rfl⟩) (ck34 cI cZ ad (M12 34)) rfl rfl rfl (Nat.le_of_ble_eq_true rfl) dX6_minimal_58 ⟨Nat.le_of_ble_eq_true rfl, Nat.le_of_ble_eq_true rfl⟩ ?_
          obtain ⟨j69, ej69, hf⟩ := nm_ex hf
          have J69 : ∀ (v16 : Int32), j69 v16 = some o → Wk p l e (headSpec wsX6_minimal rmX6_minimal).room s m args below meth c D cI cZ ad A 4 0 0 (QI below D cI cZ ad A args s r M') M14 69 [(0, .ref (ad 0)), (1, .int v1), (3, .int v7)] [.int v16] := by
            intro v16 hf
            replace hf := jn1 ej69 hf
            refine wk_istore_n (lv' := [(2, .int v16), (0, .ref (ad 0)), (1, .int v1), (3, .int v7)]) G dX6_minimal_69 rfl (by decide) rfl ?_
            refine wk_aload_n G 1 dX6_minimal_70 rfl rfl ?_
            refine wk_get (ci := 6) (v := .ref (ad 5)) G iX6_minimal_X6 0 (by decide) (ck0 cI cZ ad (M14 0)) rfl 1 (Nat.le_of_ble_eq_true rfl) kX6_minimal_30 rfl dX6_minimal_71 ?_
            refine wk_get (ci := 5) (v := .ref (ad 10)) G iX6_minimal_X5 5 (by decide) (ck5 cI cZ ad (M14 5)) rfl 5 (Nat.le_of_ble_eq_true rfl) kX6_minimal_180 rfl dX6_minimal_74 ?_
            refine wk_iload_n G 3 dX6_minimal_77 rfl rfl ?_
            refine wk_iconst (v := (0 : Int32)) G dX6_minimal_78 (by decide) ?_
            obtain ⟨h17, hf⟩ := gd_of hf
            obtain ⟨M18, eM18, hf⟩ := nm_ex hf
            refine wk_zast G 10 (by decide) (ck10 cI cZ ad) h17 dX6_minimal_79 eM18 ?_
            obtain ⟨v19, ev19, hf⟩ := nm_ex hf
            refine wk_iinc (v := v19) (lv' := [(3, .int v19), (2, .int v16), (0, .ref (ad 0)), (1, .int v1)]) G 3 dX6_minimal_80 rfl (by rw [ev19]; rfl) (by decide) rfl ?_
            refine wk_goto (tgt := 27) G dX6_minimal_83 (by decide) ?_
            refine wk_sub [2, 3, 1, 0] rfl ?_
            exact hI _ (Option.some.inj hf).symm
          refine wk_if_ne (tgt := 68) G dX6_minimal_61 (by decide) (fun c20 => ?_) (fun c20 => ?_)
          · replace hf := it_f c20 hf
            refine wk_iconst (v := (0 : Int32)) G dX6_minimal_68 (by decide) ?_
            refine wk_sub [0, 1, 3] rfl ?_
            exact J69 (0 : Int32) hf
          · replace hf := it_t c20 hf
            refine wk_iconst (v := (1 : Int32)) G dX6_minimal_64 (by decide) ?_
            refine wk_goto (tgt := 69) G dX6_minimal_65 (by decide) ?_
            refine wk_sub [0, 1, 3] rfl ?_
            exact J69 (1 : Int32) hf
    exact Lq24
  · replace hf := it_t c2 hf
    refine wk_bipush (v := (-4 : Int32)) G dX6_minimal_12 (by decide) ?_
    exact wk_ri G hr hlocks dX6_minimal_14 (Option.some.inj hf)
def fX6_sets (x1 : Int32) (M : Mem) : Option (Int32 × Mem) := if x1 < 0 then (some ((-3 : Int32), M)) else (if x1 ≤ (5 : Int32) then (if (M 12 8) = 0 then (some ((-4 : Int32), M)) else ((loop fu (un3 fun (v4 : Int32) (v5 : Int32) (M6 : Mem) => (if ((1 : Int32) <<< (x1 &&& 31)) ≤ v5 then (some (.inr (v4, M6))) else ((fX4_run 34 (M6 12 8) v5 M6).bind (un2 fun (r8 : Int32) (M9 : Mem) => nm (fun (v11 : Int32) => nm (v5 + (1 : Int32)) fun (v12 : Int32) => some (.inl (v11, v12, M9))) fun j57 => if r8 = 0 then (j57 v4) else (nm (v4 + (1 : Int32)) fun (v14 : Int32) => j57 v14))) : Option ((Int32 × Int32 × Mem) ⊕ (Int32 × Mem)))) ((0 : Int32), (0 : Int32), M)).bind (un2 fun (v15 : Int32) (M16 : Mem) => some (v15, M16)))) else (some ((-3 : Int32), M)))
theorem iX6_sets_X4 : ∀ w ∈ wsX40, w ∈ wsX6_sets := by decide +kernel
theorem iX6_sets_X6 : ∀ w ∈ wsX60, w ∈ wsX6_sets := by decide +kernel
theorem kX6_sets_39 : Cond.fieldLink RX6 39 "PartitionPlay" "shownPlay" "LPartitionPlay$Play;" ∈ wsX6_sets := by decide +kernel
theorem kX6_sets_43 : Cond.fieldLink RX6 43 "PartitionPlay" "trial" "LPartitionPlay$Play;" ∈ wsX6_sets := by decide +kernel
theorem kX6_sets_147 : Cond.fieldLink RX6 147 "PartitionPlay$Play" "turns" "I" ∈ wsX6_sets := by decide +kernel
abbrev rmX6_sets : Room := { frames := 6, cells := 0, slots := 0, locals := 142 }
set_option maxRecDepth 100000 in
set_option maxHeartbeats 4000000 in
theorem c_X6_sets (l : Launch) (D : va_G) (cI cZ : ClassId) (ad : Nat → Nat) (x1 : Int32) (M : Mem) (r : Int32) (M' : Mem) (hf : fX6_sets x1 M = some (r, M')) : MetI l yX6_sets wsX6_sets rmX6_sets D cI cZ ad [.ref (ad 0), .int x1] M r M' := by
  refine met_i (cc := cX6_sets) (nL := 4) (ret := (some .int)) (own := RX6) (by decide) rfl rfl (Nat.le_of_ble_eq_true rfl) ?_
  intro p e s m args below meth c A G hr hlocks
  unfold fX6_sets at hf
  show Wk p l e (headSpec wsX6_sets rmX6_sets).room s m args below meth c D cI cZ ad A 4 0 0 (QI below D cI cZ ad A args s r M') M 0 [(0, .ref (ad 0)), (1, .int x1)] []
  refine wk_iload_n G 1 dX6_sets_0 rfl rfl ?_
  refine wk_if_lt (tgt := 9) G dX6_sets_1 (by decide) (fun c1 => ?_) (fun c1 => ?_)
  · replace hf := it_t c1 hf
    refine wk_bipush (v := (-3 : Int32)) G dX6_sets_9 (by decide) ?_
    exact wk_ri G hr hlocks dX6_sets_11 (Option.some.inj hf)
  · replace hf := it_f c1 hf
    refine wk_iload_n G 1 dX6_sets_4 rfl rfl ?_
    refine wk_iconst (v := (5 : Int32)) G dX6_sets_5 (by decide) ?_
    refine wk_icmp_le (tgt := 12) G dX6_sets_6 (by decide) (fun c2 => ?_) (fun c2 => ?_)
    · replace hf := it_t c2 hf
      refine wk_aload_n G 0 dX6_sets_12 rfl rfl ?_
      refine wk_get (ci := 6) (v := .ref (ad 12)) G iX6_sets_X6 0 (by decide) (ck0 cI cZ ad (M 0)) rfl 2 (Nat.le_of_ble_eq_true rfl) kX6_sets_39 rfl dX6_sets_13 ?_
      refine wk_get (ci := 4) (v := .int (M 12 8)) G iX6_sets_X4 12 (by decide) (ck12 cI cZ ad (M 12)) rfl 8 (Nat.le_of_ble_eq_true rfl) kX6_sets_147 rfl dX6_sets_16 ?_
      refine wk_if_ne (tgt := 25) G dX6_sets_19 (by decide) (fun c3 => ?_) (fun c3 => ?_)
      · replace hf := it_f c3 hf
        refine wk_iconst (v := (0 : Int32)) G dX6_sets_25 (by decide) ?_
        refine wk_istore_n (lv' := [(2, .int (0 : Int32)), (0, .ref (ad 0)), (1, .int x1)]) G dX6_sets_26 rfl (by decide) rfl ?_
        refine wk_iconst (v := (0 : Int32)) G dX6_sets_27 (by decide) ?_
        refine wk_istore_n (lv' := [(3, .int (0 : Int32)), (2, .int (0 : Int32)), (0, .ref (ad 0)), (1, .int x1)]) G dX6_sets_28 rfl (by decide) rfl ?_
        refine wk_sub [2, 3, 1, 0] rfl ?_
        obtain ⟨q17, q18, hf⟩ := bd_of hf
        have Cq17 : (up2 fun (v15 : Int32) (M16 : Mem) => Wk p l e (headSpec wsX6_sets rmX6_sets).room s m args below meth c D cI cZ ad A 4 0 0 (QI below D cI cZ ad A args s r M') M16 63 [(2, .int v15)] []) q17 := by
          obtain ⟨v15, M16⟩ := q17
          replace hf := un2_of hf
          show Wk p l e (headSpec wsX6_sets rmX6_sets).room s m args below meth c D cI cZ ad A 4 0 0 (QI below D cI cZ ad A args s r M') M16 63 [(2, .int v15)] []
          refine wk_iload_n G 0 dX6_sets_63 rfl rfl ?_
          exact wk_ri G hr hlocks dX6_sets_64 (Option.some.inj hf)
        have Lq17 : (up3 fun (v4 : Int32) (v5 : Int32) (M6 : Mem) => Wk p l e (headSpec wsX6_sets rmX6_sets).room s m args below meth c D cI cZ ad A 4 0 0 (QI below D cI cZ ad A args s r M') M6 29 [(0, .ref (ad 0)), (1, .int x1), (2, .int v4), (3, .int v5)] []) ((0 : Int32), (0 : Int32), M) := by
          refine loop_P (C := (up2 fun (v15 : Int32) (M16 : Mem) => Wk p l e (headSpec wsX6_sets rmX6_sets).room s m args below meth c D cI cZ ad A 4 0 0 (QI below D cI cZ ad A args s r M') M16 63 [(2, .int v15)] [])) ?_ fu ((0 : Int32), (0 : Int32), M) q17 q18 Cq17
          clear hf Cq17 q18
          rintro ⟨v4, v5, M6⟩ o hf hI hE
          replace hf := un3_of hf
          show Wk p l e (headSpec wsX6_sets rmX6_sets).room s m args below meth c D cI cZ ad A 4 0 0 (QI below D cI cZ ad A args s r M') M6 29 [(0, .ref (ad 0)), (1, .int x1), (2, .int v4), (3, .int v5)] []
          refine wk_iload_n G 3 dX6_sets_29 rfl rfl ?_
          refine wk_iconst (v := (1 : Int32)) G dX6_sets_30 (by decide) ?_
          refine wk_iload_n G 1 dX6_sets_31 rfl rfl ?_
          refine wk_ishl G dX6_sets_32 ?_
          refine wk_icmp_ge (tgt := 63) G dX6_sets_33 (by decide) (fun c7 => ?_) (fun c7 => ?_)
          · replace hf := it_t c7 hf
            refine wk_sub [2] rfl ?_
            exact hE _ (Option.some.inj hf).symm
          · replace hf := it_f c7 hf
            refine wk_aload_n G 0 dX6_sets_36 rfl rfl ?_
            refine wk_get (ci := 6) (v := .ref (ad 34)) G iX6_sets_X6 0 (by decide) (ck0 cI cZ ad (M6 0)) rfl 3 (Nat.le_of_ble_eq_true rfl) kX6_sets_43 rfl dX6_sets_37 ?_
            refine wk_aload_n G 0 dX6_sets_40 rfl rfl ?_
            refine wk_get (ci := 6) (v := .ref (ad 12)) G iX6_sets_X6 0 (by decide) (ck0 cI cZ ad (M6 0)) rfl 2 (Nat.le_of_ble_eq_true rfl) kX6_sets_39 rfl dX6_sets_41 ?_
            refine wk_get (ci := 4) (v := .int (M6 12 8)) G iX6_sets_X4 12 (by decide) (ck12 cI cZ ad (M6 12)) rfl 8 (Nat.le_of_ble_eq_true rfl) kX6_sets_147 rfl dX6_sets_44 ?_
            refine wk_iload_n G 3 dX6_sets_47 rfl rfl ?_
            obtain ⟨⟨r8, M9⟩, q10, hf⟩ := bd_of hf
            replace hf := un2_of hf
            refine wk_callVi (As := [.int (M6 12 8), .int v5]) (rest := []) (ci := 4) G 34 (by decide) (c_X4_run l D cI cZ ad 34 (Or.inr rfl) (M6 12 8) v5 M6 r8 M9 q10) (cwV 2 G.2.2.2.2.1 gX6_sets_X4_run rfl rfl rfl (by decide +kernel) ⟨Nat.le_of_ble_eq_true rfl, Nat.le_of_ble_eq_true rfl⟩) (ck34 cI cZ ad (M6 34)) rfl rfl rfl (Nat.le_of_ble_eq_true rfl) dX6_sets_48 ⟨Nat.le_of_ble_eq_true rfl, Nat.le_of_ble_eq_true rfl⟩ ?_
            obtain ⟨j57, ej57, hf⟩ := nm_ex hf
            have J57 : ∀ (v11 : Int32), j57 v11 = some o → Wk p l e (headSpec wsX6_sets rmX6_sets).room s m args below meth c D cI cZ ad A 4 0 0 (QI below D cI cZ ad A args s r M') M9 57 [(0, .ref (ad 0)), (1, .int x1), (2, .int v11), (3, .int v5)] [] := by
              intro v11 hf
              replace hf := jn1 ej57 hf
              obtain ⟨v12, ev12, hf⟩ := nm_ex hf
              refine wk_iinc (v := v12) (lv' := [(3, .int v12), (0, .ref (ad 0)), (1, .int x1), (2, .int v11)]) G 3 dX6_sets_57 rfl (by rw [ev12]; rfl) (by decide) rfl ?_
              refine wk_goto (tgt := 29) G dX6_sets_60 (by decide) ?_
              refine wk_sub [1, 2, 3, 0] rfl ?_
              exact hI _ (Option.some.inj hf).symm
            refine wk_if_eq (tgt := 57) G dX6_sets_51 (by decide) (fun c13 => ?_) (fun c13 => ?_)
            · replace hf := it_t c13 hf
              exact J57 v4 hf
            · replace hf := it_f c13 hf
              obtain ⟨v14, ev14, hf⟩ := nm_ex hf
              refine wk_iinc (v := v14) (lv' := [(2, .int v14), (0, .ref (ad 0)), (1, .int x1), (3, .int v5)]) G 2 dX6_sets_54 rfl (by rw [ev14]; rfl) (by decide) rfl ?_
              refine wk_sub [1, 2, 0, 3] rfl ?_
              exact J57 v14 hf
        exact Lq17
      · replace hf := it_t c3 hf
        refine wk_bipush (v := (-4 : Int32)) G dX6_sets_22 (by decide) ?_
        exact wk_ri G hr hlocks dX6_sets_24 (Option.some.inj hf)
    · replace hf := it_f c2 hf
      refine wk_bipush (v := (-3 : Int32)) G dX6_sets_9 (by decide) ?_
      exact wk_ri G hr hlocks dX6_sets_11 (Option.some.inj hf)
def fX6_count (x1 : Int32) (M : Mem) : Option Int32 := if x1 = (0 : Int32) then (some (M 1 0)) else if x1 = (1 : Int32) then (some (M 5 0)) else if x1 = (2 : Int32) then (some (M 12 8)) else if x1 = (3 : Int32) then (some (M 24 0)) else if x1 = (4 : Int32) then (some (M 24 1)) else if x1 = (5 : Int32) then (some (M 12 10)) else if x1 = (6 : Int32) then (some (M 12 11)) else (some (-2 : Int32))
theorem iX6_count_X1 : ∀ w ∈ wsX10, w ∈ wsX6_count := by decide +kernel
theorem iX6_count_X2 : ∀ w ∈ wsX20, w ∈ wsX6_count := by decide +kernel
theorem iX6_count_X4 : ∀ w ∈ wsX40, w ∈ wsX6_count := by decide +kernel
theorem iX6_count_X5 : ∀ w ∈ wsX50, w ∈ wsX6_count := by decide +kernel
theorem iX6_count_X6 : ∀ w ∈ wsX60, w ∈ wsX6_count := by decide +kernel
theorem kX6_count_23 : Cond.fieldLink RX6 23 "PartitionPlay" "net" "LPartitionPlay$Net;" ∈ wsX6_count := by decide +kernel
theorem kX6_count_30 : Cond.fieldLink RX6 30 "PartitionPlay" "schedule" "LPartitionPlay$Schedule;" ∈ wsX6_count := by decide +kernel
theorem kX6_count_39 : Cond.fieldLink RX6 39 "PartitionPlay" "shownPlay" "LPartitionPlay$Play;" ∈ wsX6_count := by decide +kernel
theorem kX6_count_104 : Cond.fieldLink RX6 104 "PartitionPlay$Schedule" "size" "I" ∈ wsX6_count := by decide +kernel
theorem kX6_count_147 : Cond.fieldLink RX6 147 "PartitionPlay$Play" "turns" "I" ∈ wsX6_count := by decide +kernel
theorem kX6_count_152 : Cond.fieldLink RX6 152 "PartitionPlay$Play" "letters" "LPartitionPlay$Letters;" ∈ wsX6_count := by decide +kernel
theorem kX6_count_186 : Cond.fieldLink RX6 186 "PartitionPlay$Net" "size" "I" ∈ wsX6_count := by decide +kernel
theorem kX6_count_187 : Cond.fieldLink RX6 187 "PartitionPlay$Letters" "size" "I" ∈ wsX6_count := by decide +kernel
theorem kX6_count_188 : Cond.fieldLink RX6 188 "PartitionPlay$Letters" "lost" "I" ∈ wsX6_count := by decide +kernel
theorem kX6_count_191 : Cond.fieldLink RX6 191 "PartitionPlay$Play" "taken" "I" ∈ wsX6_count := by decide +kernel
theorem kX6_count_194 : Cond.fieldLink RX6 194 "PartitionPlay$Play" "gone" "I" ∈ wsX6_count := by decide +kernel
abbrev rmX6_count : Room := { frames := 0, cells := 0, slots := 0, locals := 0 }
set_option maxRecDepth 100000 in
set_option maxHeartbeats 4000000 in
theorem c_X6_count (l : Launch) (D : va_G) (cI cZ : ClassId) (ad : Nat → Nat) (x1 : Int32) (M : Mem) (r : Int32) (hf : fX6_count x1 M = some r) : MetI l yX6_count wsX6_count rmX6_count D cI cZ ad [.ref (ad 0), .int x1] M r M := by
  refine met_i (cc := cX6_count) (nL := 2) (ret := (some .int)) (own := RX6) (by decide) rfl rfl (Nat.le_of_ble_eq_true rfl) ?_
  intro p e s m args below meth c A G hr hlocks
  unfold fX6_count at hf
  show Wk p l e (headSpec wsX6_count rmX6_count).room s m args below meth c D cI cZ ad A 2 0 0 (QI below D cI cZ ad A args s r M) M 0 [(0, .ref (ad 0)), (1, .int x1)] []
  refine wk_iload_n G 1 dX6_count_0 rfl rfl ?_
  by_cases c1_0 : x1 = (0 : Int32)
  · replace hf := it_t c1_0 hf
    refine wk_tableIn (off := 43) (tgt := 44) G dX6_count_1 (by rw [c1_0]; decide) (by rw [c1_0]; decide) (by rw [c1_0]; rfl) (by decide) ?_
    refine wk_aload_n G 0 dX6_count_44 rfl rfl ?_
    refine wk_get (ci := 6) (v := .ref (ad 1)) G iX6_count_X6 0 (by decide) (ck0 cI cZ ad (M 0)) rfl 0 (Nat.le_of_ble_eq_true rfl) kX6_count_23 rfl dX6_count_45 ?_
    refine wk_get (ci := 2) (v := .int (M 1 0)) G iX6_count_X2 1 (by decide) (ck1 cI cZ ad (M 1)) rfl 0 (Nat.le_of_ble_eq_true rfl) kX6_count_186 rfl dX6_count_48 ?_
    exact wk_ri G hr hlocks dX6_count_51 (congrArg (fun z => (z, M)) (Option.some.inj hf))
  · replace hf := it_f c1_0 hf
    by_cases c1_1 : x1 = (1 : Int32)
    · replace hf := it_t c1_1 hf
      refine wk_tableIn (off := 51) (tgt := 52) G dX6_count_1 (by rw [c1_1]; decide) (by rw [c1_1]; decide) (by rw [c1_1]; rfl) (by decide) ?_
      refine wk_aload_n G 0 dX6_count_52 rfl rfl ?_
      refine wk_get (ci := 6) (v := .ref (ad 5)) G iX6_count_X6 0 (by decide) (ck0 cI cZ ad (M 0)) rfl 1 (Nat.le_of_ble_eq_true rfl) kX6_count_30 rfl dX6_count_53 ?_
      refine wk_get (ci := 5) (v := .int (M 5 0)) G iX6_count_X5 5 (by decide) (ck5 cI cZ ad (M 5)) rfl 0 (Nat.le_of_ble_eq_true rfl) kX6_count_104 rfl dX6_count_56 ?_
      exact wk_ri G hr hlocks dX6_count_59 (congrArg (fun z => (z, M)) (Option.some.inj hf))
    · replace hf := it_f c1_1 hf
      by_cases c1_2 : x1 = (2 : Int32)
      · replace hf := it_t c1_2 hf
        refine wk_tableIn (off := 59) (tgt := 60) G dX6_count_1 (by rw [c1_2]; decide) (by rw [c1_2]; decide) (by rw [c1_2]; rfl) (by decide) ?_
        refine wk_aload_n G 0 dX6_count_60 rfl rfl ?_
        refine wk_get (ci := 6) (v := .ref (ad 12)) G iX6_count_X6 0 (by decide) (ck0 cI cZ ad (M 0)) rfl 2 (Nat.le_of_ble_eq_true rfl) kX6_count_39 rfl dX6_count_61 ?_
        refine wk_get (ci := 4) (v := .int (M 12 8)) G iX6_count_X4 12 (by decide) (ck12 cI cZ ad (M 12)) rfl 8 (Nat.le_of_ble_eq_true rfl) kX6_count_147 rfl dX6_count_64 ?_
        exact wk_ri G hr hlocks dX6_count_67 (congrArg (fun z => (z, M)) (Option.some.inj hf))
      · replace hf := it_f c1_2 hf
        by_cases c1_3 : x1 = (3 : Int32)
        · replace hf := it_t c1_3 hf
          refine wk_tableIn (off := 67) (tgt := 68) G dX6_count_1 (by rw [c1_3]; decide) (by rw [c1_3]; decide) (by rw [c1_3]; rfl) (by decide) ?_
          refine wk_aload_n G 0 dX6_count_68 rfl rfl ?_
          refine wk_get (ci := 6) (v := .ref (ad 12)) G iX6_count_X6 0 (by decide) (ck0 cI cZ ad (M 0)) rfl 2 (Nat.le_of_ble_eq_true rfl) kX6_count_39 rfl dX6_count_69 ?_
          refine wk_get (ci := 4) (v := .ref (ad 24)) G iX6_count_X4 12 (by decide) (ck12 cI cZ ad (M 12)) rfl 5 (Nat.le_of_ble_eq_true rfl) kX6_count_152 rfl dX6_count_72 ?_
          refine wk_get (ci := 1) (v := .int (M 24 0)) G iX6_count_X1 24 (by decide) (ck24 cI cZ ad (M 24)) rfl 0 (Nat.le_of_ble_eq_true rfl) kX6_count_187 rfl dX6_count_75 ?_
          exact wk_ri G hr hlocks dX6_count_78 (congrArg (fun z => (z, M)) (Option.some.inj hf))
        · replace hf := it_f c1_3 hf
          by_cases c1_4 : x1 = (4 : Int32)
          · replace hf := it_t c1_4 hf
            refine wk_tableIn (off := 78) (tgt := 79) G dX6_count_1 (by rw [c1_4]; decide) (by rw [c1_4]; decide) (by rw [c1_4]; rfl) (by decide) ?_
            refine wk_aload_n G 0 dX6_count_79 rfl rfl ?_
            refine wk_get (ci := 6) (v := .ref (ad 12)) G iX6_count_X6 0 (by decide) (ck0 cI cZ ad (M 0)) rfl 2 (Nat.le_of_ble_eq_true rfl) kX6_count_39 rfl dX6_count_80 ?_
            refine wk_get (ci := 4) (v := .ref (ad 24)) G iX6_count_X4 12 (by decide) (ck12 cI cZ ad (M 12)) rfl 5 (Nat.le_of_ble_eq_true rfl) kX6_count_152 rfl dX6_count_83 ?_
            refine wk_get (ci := 1) (v := .int (M 24 1)) G iX6_count_X1 24 (by decide) (ck24 cI cZ ad (M 24)) rfl 1 (Nat.le_of_ble_eq_true rfl) kX6_count_188 rfl dX6_count_86 ?_
            exact wk_ri G hr hlocks dX6_count_89 (congrArg (fun z => (z, M)) (Option.some.inj hf))
          · replace hf := it_f c1_4 hf
            by_cases c1_5 : x1 = (5 : Int32)
            · replace hf := it_t c1_5 hf
              refine wk_tableIn (off := 89) (tgt := 90) G dX6_count_1 (by rw [c1_5]; decide) (by rw [c1_5]; decide) (by rw [c1_5]; rfl) (by decide) ?_
              refine wk_aload_n G 0 dX6_count_90 rfl rfl ?_
              refine wk_get (ci := 6) (v := .ref (ad 12)) G iX6_count_X6 0 (by decide) (ck0 cI cZ ad (M 0)) rfl 2 (Nat.le_of_ble_eq_true rfl) kX6_count_39 rfl dX6_count_91 ?_
              refine wk_get (ci := 4) (v := .int (M 12 10)) G iX6_count_X4 12 (by decide) (ck12 cI cZ ad (M 12)) rfl 10 (Nat.le_of_ble_eq_true rfl) kX6_count_191 rfl dX6_count_94 ?_
              exact wk_ri G hr hlocks dX6_count_97 (congrArg (fun z => (z, M)) (Option.some.inj hf))
            · replace hf := it_f c1_5 hf
              by_cases c1_6 : x1 = (6 : Int32)
              · replace hf := it_t c1_6 hf
                refine wk_tableIn (off := 97) (tgt := 98) G dX6_count_1 (by rw [c1_6]; decide) (by rw [c1_6]; decide) (by rw [c1_6]; rfl) (by decide) ?_
                refine wk_aload_n G 0 dX6_count_98 rfl rfl ?_
                refine wk_get (ci := 6) (v := .ref (ad 12)) G iX6_count_X6 0 (by decide) (ck0 cI cZ ad (M 0)) rfl 2 (Nat.le_of_ble_eq_true rfl) kX6_count_39 rfl dX6_count_99 ?_
                refine wk_get (ci := 4) (v := .int (M 12 11)) G iX6_count_X4 12 (by decide) (ck12 cI cZ ad (M 12)) rfl 11 (Nat.le_of_ble_eq_true rfl) kX6_count_194 rfl dX6_count_102 ?_
                exact wk_ri G hr hlocks dX6_count_105 (congrArg (fun z => (z, M)) (Option.some.inj hf))
              · replace hf := it_f c1_6 hf
                have nc1_0 : ¬ x1.toInt = 0 := sw_ne c1_0
                have nc1_1 : ¬ x1.toInt = 1 := sw_ne c1_1
                have nc1_2 : ¬ x1.toInt = 2 := sw_ne c1_2
                have nc1_3 : ¬ x1.toInt = 3 := sw_ne c1_3
                have nc1_4 : ¬ x1.toInt = 4 := sw_ne c1_4
                have nc1_5 : ¬ x1.toInt = 5 := sw_ne c1_5
                have nc1_6 : ¬ x1.toInt = 6 := sw_ne c1_6
                refine wk_tableOut (tgt := 106) G dX6_count_1 (by omega) (by decide) ?_
                refine wk_bipush (v := (-2 : Int32)) G dX6_count_106 (by decide) ?_
                exact wk_ri G hr hlocks dX6_count_108 (congrArg (fun z => (z, M)) (Option.some.inj hf))
