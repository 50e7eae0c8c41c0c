def fX7_in (x0 : Int32) (x1 : Int32) (x2 : Int32) : Option Int32 := if x0 < x1 then (some (0 : Int32)) else (if x2 < x0 then (some (0 : Int32)) else (some (1 : Int32)))
abbrev rmX7_in : Room := { frames := 0, cells := 0, slots := 0, locals := 0 }
set_option maxRecDepth 100000 in
set_option maxHeartbeats 4000000 in
theorem c_X7_in (l : Launch) (D : va_G) (cI cZ : ClassId) (ad : Nat → Nat) (x0 : Int32) (x1 : Int32) (x2 : Int32) (M : Mem) (r : Int32) (hf : fX7_in x0 x1 x2 = some r) : MetI l yX7_in wsX7_in rmX7_in D cI cZ ad [.int x0, .int x1, .int x2] M r M := by
  refine met_i (cc := cX7_in) (nL := 3) (ret := (some .boolean)) (own := RX7) (by decide) rfl rfl (Nat.le_of_ble_eq_true rfl) ?_
  intro p e s m args below meth c A G hr hlocks
  unfold fX7_in at hf
  show Wk p l e (headSpec wsX7_in rmX7_in).room s m args below meth c D cI cZ ad A 3 0 0 (QI below D cI cZ ad A args s r M) M 0 [(0, .int x0), (1, .int x1), (2, .int x2)] []
  refine wk_iload_n G 0 dX7_in_0 rfl rfl ?_
  refine wk_iload_n G 1 dX7_in_1 rfl rfl ?_
  refine wk_icmp_lt (tgt := 14) G dX7_in_2 (by decide) (fun c1 => ?_) (fun c1 => ?_)
  · replace hf := it_t c1 hf
    refine wk_iconst (v := (0 : Int32)) G dX7_in_14 (by decide) ?_
    exact wk_rz G hr hlocks (Or.inl rfl) dX7_in_15 (congrArg (fun z => (z, M)) (Option.some.inj hf))
  · replace hf := it_f c1 hf
    refine wk_iload_n G 0 dX7_in_5 rfl rfl ?_
    refine wk_iload_n G 2 dX7_in_6 rfl rfl ?_
    refine wk_icmp_gt (tgt := 14) G dX7_in_7 (by decide) (fun c2 => ?_) (fun c2 => ?_)
    · replace hf := it_t c2 hf
      refine wk_iconst (v := (0 : Int32)) G dX7_in_14 (by decide) ?_
      exact wk_rz G hr hlocks (Or.inl rfl) dX7_in_15 (congrArg (fun z => (z, M)) (Option.some.inj hf))
    · replace hf := it_f c2 hf
      refine wk_iconst (v := (1 : Int32)) G dX7_in_10 (by decide) ?_
      refine wk_goto (tgt := 15) G dX7_in_11 (by decide) ?_
      exact wk_rz G hr hlocks (Or.inr rfl) dX7_in_15 (congrArg (fun z => (z, M)) (Option.some.inj hf))
def fX7_isNode (x1 : Int32) (M : Mem) : Option Int32 := (fX7_in x1 (0 : Int32) ((M 56 0) - (1 : Int32))).bind (fun (r1 : Int32) => gz r1 (some r1))
theorem iX7_isNode_X7 : ∀ w ∈ wsX70, w ∈ wsX7_isNode := by decide +kernel
theorem kX7_isNode_101 : Cond.fieldLink RX7 101 "PartitionPlayModel" "n" "I" ∈ wsX7_isNode := by decide +kernel
abbrev rmX7_isNode : Room := { frames := 1, cells := 0, slots := 0, locals := 22 }
set_option maxRecDepth 100000 in
set_option maxHeartbeats 4000000 in
theorem c_X7_isNode (l : Launch) (D : va_G) (cI cZ : ClassId) (ad : Nat → Nat) (x1 : Int32) (M : Mem) (r : Int32) (hf : fX7_isNode x1 M = some r) : MetI l yX7_isNode wsX7_isNode rmX7_isNode D cI cZ ad [.ref (ad 56), .int x1] M r M := by
  refine met_i (cc := cX7_isNode) (nL := 2) (ret := (some .boolean)) (own := RX7) (by decide) rfl rfl (Nat.le_of_ble_eq_true rfl) ?_
  intro p e s m args below meth c A G hr hlocks
  unfold fX7_isNode at hf
  show Wk p l e (headSpec wsX7_isNode rmX7_isNode).room s m args below meth c D cI cZ ad A 2 0 0 (QI below D cI cZ ad A args s r M) M 0 [(0, .ref (ad 56)), (1, .int x1)] []
  refine wk_iload_n G 1 dX7_isNode_0 rfl rfl ?_
  refine wk_iconst (v := (0 : Int32)) G dX7_isNode_1 (by decide) ?_
  refine wk_aload_n G 0 dX7_isNode_2 rfl rfl ?_
  refine wk_get (ci := 7) (v := .int (M 56 0)) G iX7_isNode_X7 56 (by decide) (ck56 cI cZ ad (M 56)) rfl 0 (Nat.le_of_ble_eq_true rfl) kX7_isNode_101 rfl dX7_isNode_3 ?_
  refine wk_iconst (v := (1 : Int32)) G dX7_isNode_6 (by decide) ?_
  refine wk_isub G dX7_isNode_7 ?_
  obtain ⟨r1, q2, hf⟩ := bd_of hf
  refine wk_callSi (As := [.int x1, .int (0 : Int32), .int ((M 56 0) - (1 : Int32))]) (rest := []) G (c_X7_in l D cI cZ ad x1 (0 : Int32) ((M 56 0) - (1 : Int32)) M r1 q2) (va_cwS 3 G.2.2.2.2.1 gX7_isNode_X7_in rfl rfl rfl (by decide +kernel) ⟨Nat.le_of_ble_eq_true rfl, Nat.le_of_ble_eq_true rfl⟩) rfl rfl (Nat.le_of_ble_eq_true rfl) dX7_isNode_8 ⟨Nat.le_of_ble_eq_true rfl, Nat.le_of_ble_eq_true rfl⟩ ?_
  obtain ⟨hz, hf⟩ := gz_of hf
  exact wk_rz G hr hlocks hz dX7_isNode_11 (congrArg (fun z => (z, M)) (Option.some.inj hf))
def fX7_behaviour (x1 : Int32) (x2 : Int32) (M : Mem) : Option (Int32 × Mem) := (fX7_isNode x1 M).bind (fun (r1 : Int32) => if r1 = 0 then (some ((-2 : Int32), M)) else ((fX7_in x2 (0 : Int32) (3 : Int32)).bind (fun (r4 : Int32) => if r4 = 0 then (some ((-3 : Int32), M)) else (gd x1 7 (nm ((M 57 (Int32.toNatClampNeg x1))) fun (v8 : Int32) => gd x1 7 (nm (st M 57 (Int32.toNatClampNeg x1) x2) fun (M10 : Mem) => some (v8, M10)))))))
theorem iX7_behaviour_X7 : ∀ w ∈ wsX70, w ∈ wsX7_behaviour := by decide +kernel
theorem kX7_behaviour_7 : Cond.fieldLink RX7 7 "PartitionPlayModel" "behaviour" "[I" ∈ wsX7_behaviour := by decide +kernel
abbrev rmX7_behaviour : Room := { frames := 2, cells := 0, slots := 0, locals := 43 }
set_option maxRecDepth 100000 in
set_option maxHeartbeats 4000000 in
theorem c_X7_behaviour (l : Launch) (D : va_G) (cI cZ : ClassId) (ad : Nat → Nat) (x1 : Int32) (x2 : Int32) (M : Mem) (r : Int32) (M' : Mem) (hf : fX7_behaviour x1 x2 M = some (r, M')) : MetI l yX7_behaviour wsX7_behaviour rmX7_behaviour D cI cZ ad [.ref (ad 56), .int x1, .int x2] M r M' := by
  refine met_i (cc := cX7_behaviour) (nL := 4) (ret := (some .int)) (own := RX7) (by decide) rfl rfl (Nat.le_of_ble_eq_true rfl) ?_
  intro p e s m args below meth c A G hr hlocks
  unfold fX7_behaviour at hf
  show Wk p l e (headSpec wsX7_behaviour rmX7_behaviour).room s m args below meth c D cI cZ ad A 4 0 0 (QI below D cI cZ ad A args s r M') M 0 [(0, .ref (ad 56)), (1, .int x1), (2, .int x2)] []
  refine wk_aload_n G 0 dX7_behaviour_0 rfl rfl ?_
  refine wk_iload_n G 1 dX7_behaviour_1 rfl rfl ?_
  obtain ⟨r1, q2, hf⟩ := bd_of hf
  refine wk_callVi (As := [.int x1]) (rest := []) (ci := 7) G 56 (by decide) (c_X7_isNode l D cI cZ ad x1 M r1 q2) (cwV 1 G.2.2.2.2.1 gX7_behaviour_X7_isNode rfl rfl rfl (by decide +kernel) ⟨Nat.le_of_ble_eq_true rfl, Nat.le_of_ble_eq_true rfl⟩) (ck56 cI cZ ad (M 56)) rfl rfl rfl (Nat.le_of_ble_eq_true rfl) dX7_behaviour_2 ⟨Nat.le_of_ble_eq_true rfl, Nat.le_of_ble_eq_true rfl⟩ ?_
  refine wk_if_ne (tgt := 11) G dX7_behaviour_5 (by decide) (fun c3 => ?_) (fun c3 => ?_)
  · replace hf := it_f c3 hf
    refine wk_iload_n G 2 dX7_behaviour_11 rfl rfl ?_
    refine wk_iconst (v := (0 : Int32)) G dX7_behaviour_12 (by decide) ?_
    refine wk_iconst (v := (3 : Int32)) G dX7_behaviour_13 (by decide) ?_
    obtain ⟨r4, q5, hf⟩ := bd_of hf
    refine wk_callSi (As := [.int x2, .int (0 : Int32), .int (3 : Int32)]) (rest := []) G (c_X7_in l D cI cZ ad x2 (0 : Int32) (3 : Int32) M r4 q5) (va_cwS 3 G.2.2.2.2.1 gX7_behaviour_X7_in rfl rfl rfl (by decide +kernel) ⟨Nat.le_of_ble_eq_true rfl, Nat.le_of_ble_eq_true rfl⟩) rfl rfl (Nat.le_of_ble_eq_true rfl) dX7_behaviour_14 ⟨Nat.le_of_ble_eq_true rfl, Nat.le_of_ble_eq_true rfl⟩ ?_
    refine wk_if_ne (tgt := 23) G dX7_behaviour_17 (by decide) (fun c6 => ?_) (fun c6 => ?_)
    · replace hf := it_f c6 hf
      refine wk_aload_n G 0 dX7_behaviour_23 rfl rfl ?_
      refine wk_get (ci := 7) (v := .ref (ad 57)) G iX7_behaviour_X7 56 (by decide) (ck56 cI cZ ad (M 56)) rfl 1 (Nat.le_of_ble_eq_true rfl) kX7_behaviour_7 rfl dX7_behaviour_24 ?_
      refine wk_iload_n G 1 dX7_behaviour_27 rfl rfl ?_
      obtain ⟨h7, hf⟩ := gd_of hf
      refine wk_iald G 57 (by decide) (ck57 cI cZ ad) h7 dX7_behaviour_28 ?_
      obtain ⟨v8, ev8, hf⟩ := nm_ex hf
      refine wk_nme ev8 ?_
      refine wk_istore_n (lv' := [(3, .int v8), (0, .ref (ad 56)), (1, .int x1), (2, .int x2)]) G dX7_behaviour_29 rfl (by decide) rfl ?_
      refine wk_aload_n G 1 dX7_behaviour_30 rfl rfl ?_
      refine wk_get (ci := 7) (v := .ref (ad 57)) G iX7_behaviour_X7 56 (by decide) (ck56 cI cZ ad (M 56)) rfl 1 (Nat.le_of_ble_eq_true rfl) kX7_behaviour_7 rfl dX7_behaviour_31 ?_
      refine wk_iload_n G 2 dX7_behaviour_34 rfl rfl ?_
      refine wk_iload_n G 3 dX7_behaviour_35 rfl rfl ?_
      obtain ⟨h9, hf⟩ := gd_of hf
      obtain ⟨M10, eM10, hf⟩ := nm_ex hf
      refine wk_iast G 57 (by decide) (ck57 cI cZ ad) h9 dX7_behaviour_36 eM10 ?_
      refine wk_iload_n G 0 dX7_behaviour_37 rfl rfl ?_
      exact wk_ri G hr hlocks dX7_behaviour_38 (Option.some.inj hf)
    · replace hf := it_t c6 hf
      refine wk_bipush (v := (-3 : Int32)) G dX7_behaviour_20 (by decide) ?_
      exact wk_ri G hr hlocks dX7_behaviour_22 (Option.some.inj hf)
  · replace hf := it_t c3 hf
    refine wk_bipush (v := (-2 : Int32)) G dX7_behaviour_8 (by decide) ?_
    exact wk_ri G hr hlocks dX7_behaviour_10 (Option.some.inj hf)
def fX7_delay (x1 : Int32) (x2 : Int32) (x3 : Int32) (M : Mem) : Option (Int32 × Mem) := (fX7_isNode x1 M).bind (fun (r1 : Int32) => if r1 = 0 then (some ((-2 : Int32), M)) else ((fX7_isNode x2 M).bind (fun (r4 : Int32) => if r4 = 0 then (some ((-2 : Int32), M)) else (if x1 = x2 then (some ((-2 : Int32), M)) else ((fX7_in x3 (1 : Int32) (5 : Int32)).bind (fun (r8 : Int32) => if r8 = 0 then (some ((-3 : Int32), M)) else (gd (((7 : Int32) * x1) + x2) 49 (nm ((M 58 (Int32.toNatClampNeg (((7 : Int32) * x1) + x2)))) fun (v12 : Int32) => gd (((7 : Int32) * x1) + x2) 49 (nm (st M 58 (Int32.toNatClampNeg (((7 : Int32) * x1) + x2)) x3) fun (M14 : Mem) => some (v12, M14))))))))))
theorem iX7_delay_X7 : ∀ w ∈ wsX70, w ∈ wsX7_delay := by decide +kernel
theorem kX7_delay_13 : Cond.fieldLink RX7 13 "PartitionPlayModel" "delay" "[I" ∈ wsX7_delay := by decide +kernel
abbrev rmX7_delay : Room := { frames := 2, cells := 0, slots := 0, locals := 43 }
set_option maxRecDepth 100000 in
set_option maxHeartbeats 4000000 in
theorem c_X7_delay (l : Launch) (D : va_G) (cI cZ : ClassId) (ad : Nat → Nat) (x1 : Int32) (x2 : Int32) (x3 : Int32) (M : Mem) (r : Int32) (M' : Mem) (hf : fX7_delay x1 x2 x3 M = some (r, M')) : MetI l yX7_delay wsX7_delay rmX7_delay D cI cZ ad [.ref (ad 56), .int x1, .int x2, .int x3] M r M' := by
  refine met_i (cc := cX7_delay) (nL := 5) (ret := (some .int)) (own := RX7) (by decide) rfl rfl (Nat.le_of_ble_eq_true rfl) ?_
  intro p e s m args below meth c A G hr hlocks
  unfold fX7_delay at hf
  show Wk p l e (headSpec wsX7_delay rmX7_delay).room s m args below meth c D cI cZ ad A 5 0 0 (QI below D cI cZ ad A args s r M') M 0 [(0, .ref (ad 56)), (1, .int x1), (2, .int x2), (3, .int x3)] []
  refine wk_aload_n G 0 dX7_delay_0 rfl rfl ?_
  refine wk_iload_n G 1 dX7_delay_1 rfl rfl ?_
  obtain ⟨r1, q2, hf⟩ := bd_of hf
  refine wk_callVi (As := [.int x1]) (rest := []) (ci := 7) G 56 (by decide) (c_X7_isNode l D cI cZ ad x1 M r1 q2) (cwV 1 G.2.2.2.2.1 gX7_delay_X7_isNode rfl rfl rfl (by decide +kernel) ⟨Nat.le_of_ble_eq_true rfl, Nat.le_of_ble_eq_true rfl⟩) (ck56 cI cZ ad (M 56)) rfl rfl rfl (Nat.le_of_ble_eq_true rfl) dX7_delay_2 ⟨Nat.le_of_ble_eq_true rfl, Nat.le_of_ble_eq_true rfl⟩ ?_
  refine wk_if_eq (tgt := 21) G dX7_delay_5 (by decide) (fun c3 => ?_) (fun c3 => ?_)
  · replace hf := it_t c3 hf
    refine wk_bipush (v := (-2 : Int32)) G dX7_delay_21 (by decide) ?_
    exact wk_ri G hr hlocks dX7_delay_23 (Option.some.inj hf)
  · replace hf := it_f c3 hf
    refine wk_aload_n G 0 dX7_delay_8 rfl rfl ?_
    refine wk_iload_n G 2 dX7_delay_9 rfl rfl ?_
    obtain ⟨r4, q5, hf⟩ := bd_of hf
    refine wk_callVi (As := [.int x2]) (rest := []) (ci := 7) G 56 (by decide) (c_X7_isNode l D cI cZ ad x2 M r4 q5) (cwV 1 G.2.2.2.2.1 gX7_delay_X7_isNode rfl rfl rfl (by decide +kernel) ⟨Nat.le_of_ble_eq_true rfl, Nat.le_of_ble_eq_true rfl⟩) (ck56 cI cZ ad (M 56)) rfl rfl rfl (Nat.le_of_ble_eq_true rfl) dX7_delay_10 ⟨Nat.le_of_ble_eq_true rfl, Nat.le_of_ble_eq_true rfl⟩ ?_
    refine wk_if_eq (tgt := 21) G dX7_delay_13 (by decide) (fun c6 => ?_) (fun c6 => ?_)
    · replace hf := it_t c6 hf
      refine wk_bipush (v := (-2 : Int32)) G dX7_delay_21 (by decide) ?_
      exact wk_ri G hr hlocks dX7_delay_23 (Option.some.inj hf)
    · replace hf := it_f c6 hf
      refine wk_iload_n G 1 dX7_delay_16 rfl rfl ?_
      refine wk_iload_n G 2 dX7_delay_17 rfl rfl ?_
      refine wk_icmp_ne (tgt := 24) G dX7_delay_18 (by decide) (fun c7 => ?_) (fun c7 => ?_)
      · replace hf := it_f c7 hf
        refine wk_iload_n G 3 dX7_delay_24 rfl rfl ?_
        refine wk_iconst (v := (1 : Int32)) G dX7_delay_25 (by decide) ?_
        refine wk_iconst (v := (5 : Int32)) G dX7_delay_26 (by decide) ?_
        obtain ⟨r8, q9, hf⟩ := bd_of hf
        refine wk_callSi (As := [.int x3, .int (1 : Int32), .int (5 : Int32)]) (rest := []) G (c_X7_in l D cI cZ ad x3 (1 : Int32) (5 : Int32) M r8 q9) (va_cwS 3 G.2.2.2.2.1 gX7_delay_X7_in rfl rfl rfl (by decide +kernel) ⟨Nat.le_of_ble_eq_true rfl, Nat.le_of_ble_eq_true rfl⟩) rfl rfl (Nat.le_of_ble_eq_true rfl) dX7_delay_27 ⟨Nat.le_of_ble_eq_true rfl, Nat.le_of_ble_eq_true rfl⟩ ?_
        refine wk_if_ne (tgt := 36) G dX7_delay_30 (by decide) (fun c10 => ?_) (fun c10 => ?_)
        · replace hf := it_f c10 hf
          refine wk_aload_n G 0 dX7_delay_36 rfl rfl ?_
          refine wk_get (ci := 7) (v := .ref (ad 58)) G iX7_delay_X7 56 (by decide) (ck56 cI cZ ad (M 56)) rfl 2 (Nat.le_of_ble_eq_true rfl) kX7_delay_13 rfl dX7_delay_37 ?_
          refine wk_bipush (v := (7 : Int32)) G dX7_delay_40 (by decide) ?_
          refine wk_iload_n G 1 dX7_delay_42 rfl rfl ?_
          refine wk_imul G dX7_delay_43 ?_
          refine wk_iload_n G 2 dX7_delay_44 rfl rfl ?_
          refine wk_iadd G dX7_delay_45 ?_
          obtain ⟨h11, hf⟩ := gd_of hf
          refine wk_iald G 58 (by decide) (ck58 cI cZ ad) h11 dX7_delay_46 ?_
          obtain ⟨v12, ev12, hf⟩ := nm_ex hf
          refine wk_nme ev12 ?_
          refine wk_istore (lv' := [(4, .int v12), (0, .ref (ad 56)), (1, .int x1), (2, .int x2), (3, .int x3)]) G dX7_delay_47 (by decide) rfl ?_
          refine wk_aload_n G 1 dX7_delay_49 rfl rfl ?_
          refine wk_get (ci := 7) (v := .ref (ad 58)) G iX7_delay_X7 56 (by decide) (ck56 cI cZ ad (M 56)) rfl 2 (Nat.le_of_ble_eq_true rfl) kX7_delay_13 rfl dX7_delay_50 ?_
          refine wk_bipush (v := (7 : Int32)) G dX7_delay_53 (by decide) ?_
          refine wk_iload_n G 2 dX7_delay_55 rfl rfl ?_
          refine wk_imul G dX7_delay_56 ?_
          refine wk_iload_n G 3 dX7_delay_57 rfl rfl ?_
          refine wk_iadd G dX7_delay_58 ?_
          refine wk_iload_n G 4 dX7_delay_59 rfl rfl ?_
          obtain ⟨h13, hf⟩ := gd_of hf
          obtain ⟨M14, eM14, hf⟩ := nm_ex hf
          refine wk_iast G 58 (by decide) (ck58 cI cZ ad) h13 dX7_delay_60 eM14 ?_
          refine wk_iload G 0 dX7_delay_61 rfl ?_
          exact wk_ri G hr hlocks dX7_delay_63 (Option.some.inj hf)
        · replace hf := it_t c10 hf
          refine wk_bipush (v := (-3 : Int32)) G dX7_delay_33 (by decide) ?_
          exact wk_ri G hr hlocks dX7_delay_35 (Option.some.inj hf)
      · replace hf := it_t c7 hf
        refine wk_bipush (v := (-2 : Int32)) G dX7_delay_21 (by decide) ?_
        exact wk_ri G hr hlocks dX7_delay_23 (Option.some.inj hf)
def fX7_bits (x0 : Int32) : Option Int32 := (loop fu (un2 fun (v1 : Int32) (v2 : Int32) => (if (8 : Int32) ≤ v2 then (some (.inr v1)) else (nm ((v1 + ((x0 >>> (v2 &&& 31)) &&& (1 : Int32)))) fun (v4 : Int32) => nm (v2 + (1 : Int32)) fun (v5 : Int32) => some (.inl (v4, v5))) : Option ((Int32 × Int32) ⊕ (Int32)))) ((0 : Int32), (0 : Int32))).bind (un1 fun (v6 : Int32) => some v6)
abbrev rmX7_bits : Room := { frames := 0, cells := 0, slots := 0, locals := 0 }
set_option maxRecDepth 100000 in
set_option maxHeartbeats 4000000 in
theorem c_X7_bits (l : Launch) (D : va_G) (cI cZ : ClassId) (ad : Nat → Nat) (x0 : Int32) (M : Mem) (r : Int32) (hf : fX7_bits x0 = some r) : MetI l yX7_bits wsX7_bits rmX7_bits D cI cZ ad [.int x0] M r M := by
  refine met_i (cc := cX7_bits) (nL := 3) (ret := (some .int)) (own := RX7) (by decide) rfl rfl (Nat.le_of_ble_eq_true rfl) ?_
  intro p e s m args below meth c A G hr hlocks
  unfold fX7_bits at hf
  show Wk p l e (headSpec wsX7_bits rmX7_bits).room s m args below meth c D cI cZ ad A 3 0 0 (QI below D cI cZ ad A args s r M) M 0 [(0, .int x0)] []
  refine wk_iconst (v := (0 : Int32)) G dX7_bits_0 (by decide) ?_
  refine wk_istore_n (lv' := [(1, .int (0 : Int32)), (0, .int x0)]) G dX7_bits_1 rfl (by decide) rfl ?_
  refine wk_iconst (v := (0 : Int32)) G dX7_bits_2 (by decide) ?_
  refine wk_istore_n (lv' := [(2, .int (0 : Int32)), (1, .int (0 : Int32)), (0, .int x0)]) G dX7_bits_3 rfl (by decide) rfl ?_
  refine wk_sub [2, 1, 0] rfl ?_
  obtain ⟨q7, q8, hf⟩ := bd_of hf
  have Cq7 : (up1 fun (v6 : Int32) => Wk p l e (headSpec wsX7_bits rmX7_bits).room s m args below meth c D cI cZ ad A 3 0 0 (QI below D cI cZ ad A args s r M) M 24 [(1, .int v6)] []) q7 := by
    obtain ⟨v6, rfl⟩ : ∃ z, z = q7 := ⟨_, rfl⟩
    replace hf := un1_of hf
    show Wk p l e (headSpec wsX7_bits rmX7_bits).room s m args below meth c D cI cZ ad A 3 0 0 (QI below D cI cZ ad A args s r M) M 24 [(1, .int v6)] []
    refine wk_iload_n G 0 dX7_bits_24 rfl rfl ?_
    exact wk_ri G hr hlocks dX7_bits_25 (congrArg (fun z => (z, M)) (Option.some.inj hf))
  have Lq7 : (up2 fun (v1 : Int32) (v2 : Int32) => Wk p l e (headSpec wsX7_bits rmX7_bits).room s m args below meth c D cI cZ ad A 3 0 0 (QI below D cI cZ ad A args s r M) M 4 [(0, .int x0), (1, .int v1), (2, .int v2)] []) ((0 : Int32), (0 : Int32)) := by
    refine loop_P (C := (up1 fun (v6 : Int32) => Wk p l e (headSpec wsX7_bits rmX7_bits).room s m args below meth c D cI cZ ad A 3 0 0 (QI below D cI cZ ad A args s r M) M 24 [(1, .int v6)] [])) ?_ fu ((0 : Int32), (0 : Int32)) q7 q8 Cq7
    clear hf Cq7 q8
    rintro ⟨v1, v2⟩ o hf hI hE
    replace hf := un2_of hf
    show Wk p l e (headSpec wsX7_bits rmX7_bits).room s m args below meth c D cI cZ ad A 3 0 0 (QI below D cI cZ ad A args s r M) M 4 [(0, .int x0), (1, .int v1), (2, .int v2)] []
    refine wk_iload_n G 2 dX7_bits_4 rfl rfl ?_
    refine wk_bipush (v := (8 : Int32)) G dX7_bits_5 (by decide) ?_
    refine wk_icmp_ge (tgt := 24) G dX7_bits_7 (by decide) (fun c3 => ?_) (fun c3 => ?_)
    · replace hf := it_t c3 hf
      refine wk_sub [1] rfl ?_
      exact hE _ (Option.some.inj hf).symm
    · replace hf := it_f c3 hf
      refine wk_iload_n G 1 dX7_bits_10 rfl rfl ?_
      refine wk_iload_n G 0 dX7_bits_11 rfl rfl ?_
      refine wk_iload_n G 2 dX7_bits_12 rfl rfl ?_
      refine wk_ishr G dX7_bits_13 ?_
      refine wk_iconst (v := (1 : Int32)) G dX7_bits_14 (by decide) ?_
      refine wk_iand G dX7_bits_15 ?_
      refine wk_iadd G dX7_bits_16 ?_
      obtain ⟨v4, ev4, hf⟩ := nm_ex hf
      refine wk_nme ev4 ?_
      refine wk_istore_n (lv' := [(1, .int v4), (0, .int x0), (2, .int v2)]) G dX7_bits_17 rfl (by decide) rfl ?_
      obtain ⟨v5, ev5, hf⟩ := nm_ex hf
      refine wk_iinc (v := v5) (lv' := [(2, .int v5), (1, .int v4), (0, .int x0)]) G 2 dX7_bits_18 rfl (by rw [ev5]; rfl) (by decide) rfl ?_
      refine wk_goto (tgt := 4) G dX7_bits_21 (by decide) ?_
      refine wk_sub [2, 1, 0] rfl ?_
      exact hI _ (Option.some.inj hf).symm
  exact Lq7
def fX7_tell (x1 : Int32) (x2 : Int32) (M : Mem) : Option (Int32 × Mem) := (fX7_isNode x1 M).bind (fun (r1 : Int32) => if r1 = 0 then (some ((-2 : Int32), M)) else ((fX7_in x2 (0 : Int32) (7 : Int32)).bind (fun (r4 : Int32) => if r4 = 0 then (some ((-2 : Int32), M)) else (gd x1 7 (gd x1 7 (nm (st M 59 (Int32.toNatClampNeg x1) ((M 59 (Int32.toNatClampNeg x1)) ||| ((1 : Int32) <<< (x2 &&& 31)))) fun (M9 : Mem) => gd x1 7 ((fX7_bits (M9 59 (Int32.toNatClampNeg x1))).bind (fun (r11 : Int32) => some (r11, M9)))))))))
theorem iX7_tell_X7 : ∀ w ∈ wsX70, w ∈ wsX7_tell := by decide +kernel
theorem kX7_tell_16 : Cond.fieldLink RX7 16 "PartitionPlayModel" "rumours" "[I" ∈ wsX7_tell := by decide +kernel
abbrev rmX7_tell : Room := { frames := 2, cells := 0, slots := 0, locals := 43 }
set_option maxRecDepth 100000 in
set_option maxHeartbeats 4000000 in
theorem c_X7_tell (l : Launch) (D : va_G) (cI cZ : ClassId) (ad : Nat → Nat) (x1 : Int32) (x2 : Int32) (M : Mem) (r : Int32) (M' : Mem) (hf : fX7_tell x1 x2 M = some (r, M')) : MetI l yX7_tell wsX7_tell rmX7_tell D cI cZ ad [.ref (ad 56), .int x1, .int x2] M r M' := by
  refine met_i (cc := cX7_tell) (nL := 3) (ret := (some .int)) (own := RX7) (by decide) rfl rfl (Nat.le_of_ble_eq_true rfl) ?_
  intro p e s m args below meth c A G hr hlocks
  unfold fX7_tell at hf
  show Wk p l e (headSpec wsX7_tell rmX7_tell).room s m args below meth c D cI cZ ad A 3 0 0 (QI below D cI cZ ad A args s r M') M 0 [(0, .ref (ad 56)), (1, .int x1), (2, .int x2)] []
  refine wk_aload_n G 0 dX7_tell_0 rfl rfl ?_
  refine wk_iload_n G 1 dX7_tell_1 rfl rfl ?_
  obtain ⟨r1, q2, hf⟩ := bd_of hf
  refine wk_callVi (As := [.int x1]) (rest := []) (ci := 7) G 56 (by decide) (c_X7_isNode l D cI cZ ad x1 M r1 q2) (cwV 1 G.2.2.2.2.1 gX7_tell_X7_isNode rfl rfl rfl (by decide +kernel) ⟨Nat.le_of_ble_eq_true rfl, Nat.le_of_ble_eq_true rfl⟩) (ck56 cI cZ ad (M 56)) rfl rfl rfl (Nat.le_of_ble_eq_true rfl) dX7_tell_2 ⟨Nat.le_of_ble_eq_true rfl, Nat.le_of_ble_eq_true rfl⟩ ?_
  refine wk_if_eq (tgt := 18) G dX7_tell_5 (by decide) (fun c3 => ?_) (fun c3 => ?_)
  · replace hf := it_t c3 hf
    refine wk_bipush (v := (-2 : Int32)) G dX7_tell_18 (by decide) ?_
    exact wk_ri G hr hlocks dX7_tell_20 (Option.some.inj hf)
  · replace hf := it_f c3 hf
    refine wk_iload_n G 2 dX7_tell_8 rfl rfl ?_
    refine wk_iconst (v := (0 : Int32)) G dX7_tell_9 (by decide) ?_
    refine wk_bipush (v := (7 : Int32)) G dX7_tell_10 (by decide) ?_
    obtain ⟨r4, q5, hf⟩ := bd_of hf
    refine wk_callSi (As := [.int x2, .int (0 : Int32), .int (7 : Int32)]) (rest := []) G (c_X7_in l D cI cZ ad x2 (0 : Int32) (7 : Int32) M r4 q5) (va_cwS 3 G.2.2.2.2.1 gX7_tell_X7_in rfl rfl rfl (by decide +kernel) ⟨Nat.le_of_ble_eq_true rfl, Nat.le_of_ble_eq_true rfl⟩) rfl rfl (Nat.le_of_ble_eq_true rfl) dX7_tell_12 ⟨Nat.le_of_ble_eq_true rfl, Nat.le_of_ble_eq_true rfl⟩ ?_
    refine wk_if_ne (tgt := 21) G dX7_tell_15 (by decide) (fun c6 => ?_) (fun c6 => ?_)
    · replace hf := it_f c6 hf
      refine wk_aload_n G 0 dX7_tell_21 rfl rfl ?_
      refine wk_get (ci := 7) (v := .ref (ad 59)) G iX7_tell_X7 56 (by decide) (ck56 cI cZ ad (M 56)) rfl 3 (Nat.le_of_ble_eq_true rfl) kX7_tell_16 rfl dX7_tell_22 ?_
      refine wk_iload_n G 1 dX7_tell_25 rfl rfl ?_
      refine wk_dup2 G dX7_tell_26 rfl rfl ?_
      obtain ⟨h7, hf⟩ := gd_of hf
      refine wk_iald G 59 (by decide) (ck59 cI cZ ad) h7 dX7_tell_27 ?_
      refine wk_iconst (v := (1 : Int32)) G dX7_tell_28 (by decide) ?_
      refine wk_iload_n G 2 dX7_tell_29 rfl rfl ?_
      refine wk_ishl G dX7_tell_30 ?_
      refine wk_ior G dX7_tell_31 ?_
      obtain ⟨h8, hf⟩ := gd_of hf
      obtain ⟨M9, eM9, hf⟩ := nm_ex hf
      refine wk_iast G 59 (by decide) (ck59 cI cZ ad) h8 dX7_tell_32 eM9 ?_
      refine wk_aload_n G 0 dX7_tell_33 rfl rfl ?_
      refine wk_get (ci := 7) (v := .ref (ad 59)) G iX7_tell_X7 56 (by decide) (ck56 cI cZ ad (M9 56)) rfl 3 (Nat.le_of_ble_eq_true rfl) kX7_tell_16 rfl dX7_tell_34 ?_
      refine wk_iload_n G 1 dX7_tell_37 rfl rfl ?_
      obtain ⟨h10, hf⟩ := gd_of hf
      refine wk_iald G 59 (by decide) (ck59 cI cZ ad) h10 dX7_tell_38 ?_
      obtain ⟨r11, q12, hf⟩ := bd_of hf
      refine wk_callSi (As := [.int (M9 59 (Int32.toNatClampNeg x1))]) (rest := []) G (c_X7_bits l D cI cZ ad (M9 59 (Int32.toNatClampNeg x1)) M9 r11 q12) (va_cwS 1 G.2.2.2.2.1 gX7_tell_X7_bits rfl rfl rfl (by decide +kernel) ⟨Nat.le_of_ble_eq_true rfl, Nat.le_of_ble_eq_true rfl⟩) rfl rfl (Nat.le_of_ble_eq_true rfl) dX7_tell_39 ⟨Nat.le_of_ble_eq_true rfl, Nat.le_of_ble_eq_true rfl⟩ ?_
      exact wk_ri G hr hlocks dX7_tell_42 (Option.some.inj hf)
    · replace hf := it_t c6 hf
      refine wk_bipush (v := (-2 : Int32)) G dX7_tell_18 (by decide) ?_
      exact wk_ri G hr hlocks dX7_tell_20 (Option.some.inj hf)
def fX7_event (x1 : Int32) (x2 : Int32) (x3 : Int32) (x4 : Int32) (M : Mem) : Option (Int32 × Mem) := (fX7_in x1 (0 : Int32) (6 : Int32)).bind (fun (r1 : Int32) => if r1 = 0 then (some ((-2 : Int32), M)) else (nm (fun (u4 : Unit) => nm (fun (u5 : Unit) => nm (fun (u6 : Unit) => nm (fun (u7 : Unit) => nm (fun (u8 : Unit) => if (M 56 4) = (20 : Int32) then (some ((-5 : Int32), M)) else (gd (M 56 4) 20 (nm (st M 60 (Int32.toNatClampNeg (M 56 4)) x1) fun (M11 : Mem) => nm (fun (v12 : Int32) => gd (M11 56 4) 20 (nm (st M11 61 (Int32.toNatClampNeg (M11 56 4)) v12) fun (M14 : Mem) => nm (fun (v15 : Int32) => gd (M14 56 4) 20 (nm (st M14 62 (Int32.toNatClampNeg (M14 56 4)) v15) fun (M17 : Mem) => nm (fun (v18 : Int32) => gd (M17 56 4) 20 (nm (st M17 63 (Int32.toNatClampNeg (M17 56 4)) v18) fun (M20 : Mem) => nm (st M20 56 4 ((M20 56 4) + (1 : Int32))) fun (M21 : Mem) => some (((M21 56 4) - (1 : Int32)), M21))) fun j179 => if x1 ≤ (4 : Int32) then (j179 (0 : Int32)) else (j179 x4))) fun j159 => if x1 = (1 : Int32) then (j159 (0 : Int32)) else (j159 x3))) fun j140 => if (4 : Int32) ≤ x1 then (j140 (0 : Int32)) else (j140 x2)))) fun j100 => if x1 ≤ (4 : Int32) then (j100 ()) else ((fX7_in x4 (1 : Int32) (5 : Int32)).bind (fun (r26 : Int32) => if r26 = 0 then (some ((-3 : Int32), M)) else (j100 ())))) fun j82 => if x1 ≤ (3 : Int32) then (j82 ()) else ((fX7_in x3 (0 : Int32) (1199 : Int32)).bind (fun (r30 : Int32) => if r30 = 0 then (some ((-3 : Int32), M)) else (j82 ())))) fun j66 => if x1 = 0 then ((fX7_in x3 (0 : Int32) (((1 : Int32) <<< ((M 56 0) &&& 31)) - (1 : Int32))).bind (fun (r34 : Int32) => if r34 = 0 then (some ((-3 : Int32), M)) else (j66 ()))) else (j66 ())) fun j46 => if (4 : Int32) ≤ x1 then (j46 ()) else ((fX7_in x2 (0 : Int32) (39 : Int32)).bind (fun (r38 : Int32) => if r38 = 0 then (some ((-3 : Int32), M)) else (j46 ())))) fun j31 => nm (fun (u41 : Unit) => (fX7_isNode x3 M).bind (fun (r42 : Int32) => if r42 = 0 then (some ((-2 : Int32), M)) else (j31 ()))) fun j20 => if x1 = (2 : Int32) then (j20 ()) else (if x1 = (3 : Int32) then (j20 ()) else (j31 ()))))
theorem iX7_event_X7 : ∀ w ∈ wsX70, w ∈ wsX7_event := by decide +kernel
theorem kX7_event_19 : Cond.fieldLink RX7 19 "PartitionPlayModel" "kind" "[I" ∈ wsX7_event := by decide +kernel
theorem kX7_event_22 : Cond.fieldLink RX7 22 "PartitionPlayModel" "when" "[I" ∈ wsX7_event := by decide +kernel
theorem kX7_event_25 : Cond.fieldLink RX7 25 "PartitionPlayModel" "first" "[I" ∈ wsX7_event := by decide +kernel
theorem kX7_event_28 : Cond.fieldLink RX7 28 "PartitionPlayModel" "second" "[I" ∈ wsX7_event := by decide +kernel
theorem kX7_event_101 : Cond.fieldLink RX7 101 "PartitionPlayModel" "n" "I" ∈ wsX7_event := by decide +kernel
theorem kX7_event_117 : Cond.fieldLink RX7 117 "PartitionPlayModel" "events" "I" ∈ wsX7_event := by decide +kernel
abbrev rmX7_event : Room := { frames := 2, cells := 0, slots := 0, locals := 43 }
set_option maxRecDepth 100000 in
set_option maxHeartbeats 4000000 in
theorem c_X7_event (l : Launch) (D : va_G) (cI cZ : ClassId) (ad : Nat → Nat) (x1 : Int32) (x2 : Int32) (x3 : Int32) (x4 : Int32) (M : Mem) (r : Int32) (M' : Mem) (hf : fX7_event x1 x2 x3 x4 M = some (r, M')) : MetI l yX7_event wsX7_event rmX7_event D cI cZ ad [.ref (ad 56), .int x1, .int x2, .int x3, .int x4] M r M' := by
  refine met_i (cc := cX7_event) (nL := 5) (ret := (some .int)) (own := RX7) (by decide) rfl rfl (Nat.le_of_ble_eq_true rfl) ?_
  intro p e s m args below meth c A G hr hlocks
  unfold fX7_event at hf
  show Wk p l e (headSpec wsX7_event rmX7_event).room s m args below meth c D cI cZ ad A 5 0 0 (QI below D cI cZ ad A args s r M') M 0 [(0, .ref (ad 56)), (1, .int x1), (2, .int x2), (3, .int x3), (4, .int x4)] []
  refine wk_iload_n G 1 dX7_event_0 rfl rfl ?_
  refine wk_iconst (v := (0 : Int32)) G dX7_event_1 (by decide) ?_
  refine wk_bipush (v := (6 : Int32)) G dX7_event_2 (by decide) ?_
  obtain ⟨r1, q2, hf⟩ := bd_of hf
  refine wk_callSi (As := [.int x1, .int (0 : Int32), .int (6 : Int32)]) (rest := []) G (c_X7_in l D cI cZ ad x1 (0 : Int32) (6 : Int32) M r1 q2) (va_cwS 3 G.2.2.2.2.1 gX7_event_X7_in rfl rfl rfl (by decide +kernel) ⟨Nat.le_of_ble_eq_true rfl, Nat.le_of_ble_eq_true rfl⟩) rfl rfl (Nat.le_of_ble_eq_true rfl) dX7_event_4 ⟨Nat.le_of_ble_eq_true rfl, Nat.le_of_ble_eq_true rfl⟩ ?_
  refine wk_if_eq (tgt := 28) G dX7_event_7 (by decide) (fun c3 => ?_) (fun c3 => ?_)
  · replace hf := it_t c3 hf
    refine wk_bipush (v := (-2 : Int32)) G dX7_event_28 (by decide) ?_
    exact wk_ri G hr hlocks dX7_event_30 (Option.some.inj hf)
  · replace hf := it_f c3 hf
    refine wk_iload_n G 1 dX7_event_10 rfl rfl ?_
    refine wk_iconst (v := (2 : Int32)) G dX7_event_11 (by decide) ?_
    obtain ⟨j31, ej31, hf⟩ := nm_ex hf
    have J31 : ∀ (u4 : Unit), j31 u4 = some (r, M') → Wk p l e (headSpec wsX7_event rmX7_event).room s m args below meth c D cI cZ ad A 5 0 0 (QI below D cI cZ ad A args s r M') M 31 [(0, .ref (ad 56)), (1, .int x1), (2, .int x2), (3, .int x3), (4, .int x4)] [] := by
      intro u4 hf
      replace hf := jn1 ej31 hf
      refine wk_iload_n G 1 dX7_event_31 rfl rfl ?_
      refine wk_iconst (v := (4 : Int32)) G dX7_event_32 (by decide) ?_
      obtain ⟨j46, ej46, hf⟩ := nm_ex hf
      have J46 : ∀ (u5 : Unit), j46 u5 = some (r, M') → Wk p l e (headSpec wsX7_event rmX7_event).room s m args below meth c D cI cZ ad A 5 0 0 (QI below D cI cZ ad A args s r M') M 46 [(0, .ref (ad 56)), (1, .int x1), (2, .int x2), (3, .int x3), (4, .int x4)] [] := by
        intro u5 hf
        replace hf := jn1 ej46 hf
        refine wk_iload_n G 1 dX7_event_46 rfl rfl ?_
        obtain ⟨j66, ej66, hf⟩ := nm_ex hf
        have J66 : ∀ (u6 : Unit), j66 u6 = some (r, M') → Wk p l e (headSpec wsX7_event rmX7_event).room s m args below meth c D cI cZ ad A 5 0 0 (QI below D cI cZ ad A args s r M') M 66 [(0, .ref (ad 56)), (1, .int x1), (2, .int x2), (3, .int x3), (4, .int x4)] [] := by
          intro u6 hf
          replace hf := jn1 ej66 hf
          refine wk_iload_n G 1 dX7_event_66 rfl rfl ?_
          refine wk_iconst (v := (3 : Int32)) G dX7_event_67 (by decide) ?_
          obtain ⟨j82, ej82, hf⟩ := nm_ex hf
          have J82 : ∀ (u7 : Unit), j82 u7 = some (r, M') → Wk p l e (headSpec wsX7_event rmX7_event).room s m args below meth c D cI cZ ad A 5 0 0 (QI below D cI cZ ad A args s r M') M 82 [(0, .ref (ad 56)), (1, .int x1), (2, .int x2), (3, .int x3), (4, .int x4)] [] := by
            intro u7 hf
            replace hf := jn1 ej82 hf
            refine wk_iload_n G 1 dX7_event_82 rfl rfl ?_
            refine wk_iconst (v := (4 : Int32)) G dX7_event_83 (by decide) ?_
            obtain ⟨j100, ej100, hf⟩ := nm_ex hf
            have J100 : ∀ (u8 : Unit), j100 u8 = some (r, M') → Wk p l e (headSpec wsX7_event rmX7_event).room s m args below meth c D cI cZ ad A 5 0 0 (QI below D cI cZ ad A args s r M') M 100 [(0, .ref (ad 56)), (1, .int x1), (2, .int x2), (3, .int x3), (4, .int x4)] [] := by
              intro u8 hf
              replace hf := jn1 ej100 hf
              refine wk_aload_n G 0 dX7_event_100 rfl rfl ?_
              refine wk_get (ci := 7) (v := .int (M 56 4)) G iX7_event_X7 56 (by decide) (ck56 cI cZ ad (M 56)) rfl 4 (Nat.le_of_ble_eq_true rfl) kX7_event_117 rfl dX7_event_101 ?_
              refine wk_bipush (v := (20 : Int32)) G dX7_event_104 (by decide) ?_
              refine wk_icmp_ne (tgt := 112) G dX7_event_106 (by decide) (fun c9 => ?_) (fun c9 => ?_)
              · replace hf := it_f c9 hf
                refine wk_aload_n G 0 dX7_event_112 rfl rfl ?_
                refine wk_get (ci := 7) (v := .ref (ad 60)) G iX7_event_X7 56 (by decide) (ck56 cI cZ ad (M 56)) rfl 5 (Nat.le_of_ble_eq_true rfl) kX7_event_19 rfl dX7_event_113 ?_
                refine wk_aload_n G 0 dX7_event_116 rfl rfl ?_
                refine wk_get (ci := 7) (v := .int (M 56 4)) G iX7_event_X7 56 (by decide) (ck56 cI cZ ad (M 56)) rfl 4 (Nat.le_of_ble_eq_true rfl) kX7_event_117 rfl dX7_event_117 ?_
                refine wk_iload_n G 1 dX7_event_120 rfl rfl ?_
                obtain ⟨h10, hf⟩ := gd_of hf
                obtain ⟨M11, eM11, hf⟩ := nm_ex hf
                refine wk_iast G 60 (by decide) (ck60 cI cZ ad) h10 dX7_event_121 eM11 ?_
                refine wk_aload_n G 0 dX7_event_122 rfl rfl ?_
                refine wk_get (ci := 7) (v := .ref (ad 61)) G iX7_event_X7 56 (by decide) (ck56 cI cZ ad (M11 56)) rfl 6 (Nat.le_of_ble_eq_true rfl) kX7_event_22 rfl dX7_event_123 ?_
                refine wk_aload_n G 0 dX7_event_126 rfl rfl ?_
                refine wk_get (ci := 7) (v := .int (M11 56 4)) G iX7_event_X7 56 (by decide) (ck56 cI cZ ad (M11 56)) rfl 4 (Nat.le_of_ble_eq_true rfl) kX7_event_117 rfl dX7_event_127 ?_
                refine wk_iload_n G 1 dX7_event_130 rfl rfl ?_
                refine wk_iconst (v := (4 : Int32)) G dX7_event_131 (by decide) ?_
                obtain ⟨j140, ej140, hf⟩ := nm_ex hf
                have J140 : ∀ (v12 : Int32), j140 v12 = some (r, M') → Wk p l e (headSpec wsX7_event rmX7_event).room s m args below meth c D cI cZ ad A 5 0 0 (QI below D cI cZ ad A args s r M') M11 140 [(0, .ref (ad 56)), (1, .int x1), (3, .int x3), (4, .int x4)] [.int v12, .int (M11 56 4), .ref (ad 61)] := by
                  intro v12 hf
                  replace hf := jn1 ej140 hf
                  obtain ⟨h13, hf⟩ := gd_of hf
                  obtain ⟨M14, eM14, hf⟩ := nm_ex hf
                  refine wk_iast G 61 (by decide) (ck61 cI cZ ad) h13 dX7_event_140 eM14 ?_
                  refine wk_aload_n G 0 dX7_event_141 rfl rfl ?_
                  refine wk_get (ci := 7) (v := .ref (ad 62)) G iX7_event_X7 56 (by decide) (ck56 cI cZ ad (M14 56)) rfl 7 (Nat.le_of_ble_eq_true rfl) kX7_event_25 rfl dX7_event_142 ?_
                  refine wk_aload_n G 0 dX7_event_145 rfl rfl ?_
                  refine wk_get (ci := 7) (v := .int (M14 56 4)) G iX7_event_X7 56 (by decide) (ck56 cI cZ ad (M14 56)) rfl 4 (Nat.le_of_ble_eq_true rfl) kX7_event_117 rfl dX7_event_146 ?_
                  refine wk_iload_n G 1 dX7_event_149 rfl rfl ?_
                  refine wk_iconst (v := (1 : Int32)) G dX7_event_150 (by decide) ?_
                  obtain ⟨j159, ej159, hf⟩ := nm_ex hf
                  have J159 : ∀ (v15 : Int32), j159 v15 = some (r, M') → Wk p l e (headSpec wsX7_event rmX7_event).room s m args below meth c D cI cZ ad A 5 0 0 (QI below D cI cZ ad A args s r M') M14 159 [(0, .ref (ad 56)), (1, .int x1), (4, .int x4)] [.int v15, .int (M14 56 4), .ref (ad 62)] := by
                    intro v15 hf
                    replace hf := jn1 ej159 hf
                    obtain ⟨h16, hf⟩ := gd_of hf
                    obtain ⟨M17, eM17, hf⟩ := nm_ex hf
                    refine wk_iast G 62 (by decide) (ck62 cI cZ ad) h16 dX7_event_159 eM17 ?_
                    refine wk_aload_n G 0 dX7_event_160 rfl rfl ?_
                    refine wk_get (ci := 7) (v := .ref (ad 63)) G iX7_event_X7 56 (by decide) (ck56 cI cZ ad (M17 56)) rfl 8 (Nat.le_of_ble_eq_true rfl) kX7_event_28 rfl dX7_event_161 ?_
                    refine wk_aload_n G 0 dX7_event_164 rfl rfl ?_
                    refine wk_get (ci := 7) (v := .int (M17 56 4)) G iX7_event_X7 56 (by decide) (ck56 cI cZ ad (M17 56)) rfl 4 (Nat.le_of_ble_eq_true rfl) kX7_event_117 rfl dX7_event_165 ?_
                    refine wk_iload_n G 1 dX7_event_168 rfl rfl ?_
                    refine wk_iconst (v := (4 : Int32)) G dX7_event_169 (by decide) ?_
                    obtain ⟨j179, ej179, hf⟩ := nm_ex hf
                    have J179 : ∀ (v18 : Int32), j179 v18 = some (r, M') → Wk p l e (headSpec wsX7_event rmX7_event).room s m args below meth c D cI cZ ad A 5 0 0 (QI below D cI cZ ad A args s r M') M17 179 [(0, .ref (ad 56))] [.int v18, .int (M17 56 4), .ref (ad 63)] := by
                      intro v18 hf
                      replace hf := jn1 ej179 hf
                      obtain ⟨h19, hf⟩ := gd_of hf
                      obtain ⟨M20, eM20, hf⟩ := nm_ex hf
                      refine wk_iast G 63 (by decide) (ck63 cI cZ ad) h19 dX7_event_179 eM20 ?_
                      refine wk_aload_n G 0 dX7_event_180 rfl rfl ?_
                      refine wk_dup G dX7_event_181 rfl ?_
                      refine wk_get (ci := 7) (v := .int (M20 56 4)) G iX7_event_X7 56 (by decide) (ck56 cI cZ ad (M20 56)) rfl 4 (Nat.le_of_ble_eq_true rfl) kX7_event_117 rfl dX7_event_182 ?_
                      refine wk_iconst (v := (1 : Int32)) G dX7_event_185 (by decide) ?_
                      refine wk_iadd G dX7_event_186 ?_
                      obtain ⟨M21, eM21, hf⟩ := nm_ex hf
                      refine wk_put (ci := 7) G iX7_event_X7 tyX7 tyX7_ok nmX7 56 (by decide) (ck56 cI cZ ad (M20 56)) rfl 4 (Nat.le_of_ble_eq_true rfl) kX7_event_117 rfl (by decide +kernel) (Nat.le_of_ble_eq_true rfl) (cp56_4 cI cZ ad (M20 56) ((M20 56 4) + (1 : Int32))) dX7_event_187 eM21 ?_
                      refine wk_aload_n G 0 dX7_event_190 rfl rfl ?_
                      refine wk_get (ci := 7) (v := .int (M21 56 4)) G iX7_event_X7 56 (by decide) (ck56 cI cZ ad (M21 56)) rfl 4 (Nat.le_of_ble_eq_true rfl) kX7_event_117 rfl dX7_event_191 ?_
                      refine wk_iconst (v := (1 : Int32)) G dX7_event_194 (by decide) ?_
                      refine wk_isub G dX7_event_195 ?_
                      exact wk_ri G hr hlocks dX7_event_196 (Option.some.inj hf)
                    refine wk_icmp_le (tgt := 178) G dX7_event_170 (by decide) (fun c22 => ?_) (fun c22 => ?_)
                    · replace hf := it_t c22 hf
                      refine wk_iconst (v := (0 : Int32)) G dX7_event_178 (by decide) ?_
                      refine wk_sub [0] rfl ?_
                      exact J179 (0 : Int32) hf
                    · replace hf := it_f c22 hf
                      refine wk_iload G 2 dX7_event_173 rfl ?_
                      refine wk_goto (tgt := 179) G dX7_event_175 (by decide) ?_
                      refine wk_sub [0] rfl ?_
                      exact J179 x4 hf
                  refine wk_icmp_ne (tgt := 158) G dX7_event_151 (by decide) (fun c23 => ?_) (fun c23 => ?_)
                  · replace hf := it_f c23 hf
                    refine wk_iload_n G 2 dX7_event_158 rfl rfl ?_
                    refine wk_sub [0, 1, 3] rfl ?_
                    exact J159 x3 hf
                  · replace hf := it_t c23 hf
                    refine wk_iconst (v := (0 : Int32)) G dX7_event_154 (by decide) ?_
                    refine wk_goto (tgt := 159) G dX7_event_155 (by decide) ?_
                    refine wk_sub [0, 1, 3] rfl ?_
                    exact J159 (0 : Int32) hf
                refine wk_icmp_ge (tgt := 139) G dX7_event_132 (by decide) (fun c24 => ?_) (fun c24 => ?_)
                · replace hf := it_t c24 hf
                  refine wk_iconst (v := (0 : Int32)) G dX7_event_139 (by decide) ?_
                  refine wk_sub [0, 1, 3, 4] rfl ?_
                  exact J140 (0 : Int32) hf
                · replace hf := it_f c24 hf
                  refine wk_iload_n G 2 dX7_event_135 rfl rfl ?_
                  refine wk_goto (tgt := 140) G dX7_event_136 (by decide) ?_
                  refine wk_sub [0, 1, 3, 4] rfl ?_
                  exact J140 x2 hf
              · replace hf := it_t c9 hf
                refine wk_bipush (v := (-5 : Int32)) G dX7_event_109 (by decide) ?_
                exact wk_ri G hr hlocks dX7_event_111 (Option.some.inj hf)
            refine wk_icmp_le (tgt := 100) G dX7_event_84 (by decide) (fun c25 => ?_) (fun c25 => ?_)
            · replace hf := it_t c25 hf
              exact J100 () hf
            · replace hf := it_f c25 hf
              refine wk_iload G 4 dX7_event_87 rfl ?_
              refine wk_iconst (v := (1 : Int32)) G dX7_event_89 (by decide) ?_
              refine wk_iconst (v := (5 : Int32)) G dX7_event_90 (by decide) ?_
              obtain ⟨r26, q27, hf⟩ := bd_of hf
              refine wk_callSi (As := [.int x4, .int (1 : Int32), .int (5 : Int32)]) (rest := []) G (c_X7_in l D cI cZ ad x4 (1 : Int32) (5 : Int32) M r26 q27) (va_cwS 3 G.2.2.2.2.1 gX7_event_X7_in rfl rfl rfl (by decide +kernel) ⟨Nat.le_of_ble_eq_true rfl, Nat.le_of_ble_eq_true rfl⟩) rfl rfl (Nat.le_of_ble_eq_true rfl) dX7_event_91 ⟨Nat.le_of_ble_eq_true rfl, Nat.le_of_ble_eq_true rfl⟩ ?_
              refine wk_if_ne (tgt := 100) G dX7_event_94 (by decide) (fun c28 => ?_) (fun c28 => ?_)
              · replace hf := it_f c28 hf
                exact J100 () hf
              · replace hf := it_t c28 hf
                refine wk_bipush (v := (-3 : Int32)) G dX7_event_97 (by decide) ?_
                exact wk_ri G hr hlocks dX7_event_99 (Option.some.inj hf)
          refine wk_icmp_le (tgt := 82) G dX7_event_68 (by decide) (fun c29 => ?_) (fun c29 => ?_)
          · replace hf := it_t c29 hf
            exact J82 () hf
          · replace hf := it_f c29 hf
            refine wk_iload_n G 3 dX7_event_71 rfl rfl ?_
            refine wk_iconst (v := (0 : Int32)) G dX7_event_72 (by decide) ?_
            refine wk_sipush (v := (1199 : Int32)) G dX7_event_73 (by decide) ?_
            obtain ⟨r30, q31, hf⟩ := bd_of hf
            refine wk_callSi (As := [.int x3, .int (0 : Int32), .int (1199 : Int32)]) (rest := []) G (c_X7_in l D cI cZ ad x3 (0 : Int32) (1199 : Int32) M r30 q31) (va_cwS 3 G.2.2.2.2.1 gX7_event_X7_in rfl rfl rfl (by decide +kernel) ⟨Nat.le_of_ble_eq_true rfl, Nat.le_of_ble_eq_true rfl⟩) rfl rfl (Nat.le_of_ble_eq_true rfl) dX7_event_76 ⟨Nat.le_of_ble_eq_true rfl, Nat.le_of_ble_eq_true rfl⟩ ?_
            refine wk_if_eq (tgt := 97) G dX7_event_79 (by decide) (fun c32 => ?_) (fun c32 => ?_)
            · replace hf := it_t c32 hf
              refine wk_bipush (v := (-3 : Int32)) G dX7_event_97 (by decide) ?_
              exact wk_ri G hr hlocks dX7_event_99 (Option.some.inj hf)
            · replace hf := it_f c32 hf
              exact J82 () hf
        refine wk_if_ne (tgt := 66) G dX7_event_47 (by decide) (fun c33 => ?_) (fun c33 => ?_)
        · replace hf := it_f c33 hf
          exact J66 () hf
        · replace hf := it_t c33 hf
          refine wk_iload_n G 3 dX7_event_50 rfl rfl ?_
          refine wk_iconst (v := (0 : Int32)) G dX7_event_51 (by decide) ?_
          refine wk_iconst (v := (1 : Int32)) G dX7_event_52 (by decide) ?_
          refine wk_aload_n G 0 dX7_event_53 rfl rfl ?_
          refine wk_get (ci := 7) (v := .int (M 56 0)) G iX7_event_X7 56 (by decide) (ck56 cI cZ ad (M 56)) rfl 0 (Nat.le_of_ble_eq_true rfl) kX7_event_101 rfl dX7_event_54 ?_
          refine wk_ishl G dX7_event_57 ?_
          refine wk_iconst (v := (1 : Int32)) G dX7_event_58 (by decide) ?_
          refine wk_isub G dX7_event_59 ?_
          obtain ⟨r34, q35, hf⟩ := bd_of hf
          refine wk_callSi (As := [.int x3, .int (0 : Int32), .int (((1 : Int32) <<< ((M 56 0) &&& 31)) - (1 : Int32))]) (rest := []) G (c_X7_in l D cI cZ ad x3 (0 : Int32) (((1 : Int32) <<< ((M 56 0) &&& 31)) - (1 : Int32)) M r34 q35) (va_cwS 3 G.2.2.2.2.1 gX7_event_X7_in rfl rfl rfl (by decide +kernel) ⟨Nat.le_of_ble_eq_true rfl, Nat.le_of_ble_eq_true rfl⟩) rfl rfl (Nat.le_of_ble_eq_true rfl) dX7_event_60 ⟨Nat.le_of_ble_eq_true rfl, Nat.le_of_ble_eq_true rfl⟩ ?_
          refine wk_if_eq (tgt := 97) G dX7_event_63 (by decide) (fun c36 => ?_) (fun c36 => ?_)
          · replace hf := it_t c36 hf
            refine wk_bipush (v := (-3 : Int32)) G dX7_event_97 (by decide) ?_
            exact wk_ri G hr hlocks dX7_event_99 (Option.some.inj hf)
          · replace hf := it_f c36 hf
            exact J66 () hf
      refine wk_icmp_ge (tgt := 46) G dX7_event_33 (by decide) (fun c37 => ?_) (fun c37 => ?_)
      · replace hf := it_t c37 hf
        exact J46 () hf
      · replace hf := it_f c37 hf
        refine wk_iload_n G 2 dX7_event_36 rfl rfl ?_
        refine wk_iconst (v := (0 : Int32)) G dX7_event_37 (by decide) ?_
        refine wk_bipush (v := (39 : Int32)) G dX7_event_38 (by decide) ?_
        obtain ⟨r38, q39, hf⟩ := bd_of hf
        refine wk_callSi (As := [.int x2, .int (0 : Int32), .int (39 : Int32)]) (rest := []) G (c_X7_in l D cI cZ ad x2 (0 : Int32) (39 : Int32) M r38 q39) (va_cwS 3 G.2.2.2.2.1 gX7_event_X7_in rfl rfl rfl (by decide +kernel) ⟨Nat.le_of_ble_eq_true rfl, Nat.le_of_ble_eq_true rfl⟩) rfl rfl (Nat.le_of_ble_eq_true rfl) dX7_event_40 ⟨Nat.le_of_ble_eq_true rfl, Nat.le_of_ble_eq_true rfl⟩ ?_
        refine wk_if_eq (tgt := 97) G dX7_event_43 (by decide) (fun c40 => ?_) (fun c40 => ?_)
        · replace hf := it_t c40 hf
          refine wk_bipush (v := (-3 : Int32)) G dX7_event_97 (by decide) ?_
          exact wk_ri G hr hlocks dX7_event_99 (Option.some.inj hf)
        · replace hf := it_f c40 hf
          exact J46 () hf
    obtain ⟨j20, ej20, hf⟩ := nm_ex hf
    have J20 : ∀ (u41 : Unit), j20 u41 = some (r, M') → Wk p l e (headSpec wsX7_event rmX7_event).room s m args below meth c D cI cZ ad A 5 0 0 (QI below D cI cZ ad A args s r M') M 20 [(0, .ref (ad 56)), (1, .int x1), (2, .int x2), (3, .int x3), (4, .int x4)] [] := by
      intro u41 hf
      replace hf := jn1 ej20 hf
      refine wk_aload_n G 0 dX7_event_20 rfl rfl ?_
      refine wk_iload_n G 3 dX7_event_21 rfl rfl ?_
      obtain ⟨r42, q43, hf⟩ := bd_of hf
      refine wk_callVi (As := [.int x3]) (rest := []) (ci := 7) G 56 (by decide) (c_X7_isNode l D cI cZ ad x3 M r42 q43) (cwV 1 G.2.2.2.2.1 gX7_event_X7_isNode rfl rfl rfl (by decide +kernel) ⟨Nat.le_of_ble_eq_true rfl, Nat.le_of_ble_eq_true rfl⟩) (ck56 cI cZ ad (M 56)) rfl rfl rfl (Nat.le_of_ble_eq_true rfl) dX7_event_22 ⟨Nat.le_of_ble_eq_true rfl, Nat.le_of_ble_eq_true rfl⟩ ?_
      refine wk_if_ne (tgt := 31) G dX7_event_25 (by decide) (fun c44 => ?_) (fun c44 => ?_)
      · replace hf := it_f c44 hf
        exact J31 () hf
      · replace hf := it_t c44 hf
        refine wk_bipush (v := (-2 : Int32)) G dX7_event_28 (by decide) ?_
        exact wk_ri G hr hlocks dX7_event_30 (Option.some.inj hf)
    refine wk_icmp_eq (tgt := 20) G dX7_event_12 (by decide) (fun c45 => ?_) (fun c45 => ?_)
    · replace hf := it_t c45 hf
      exact J20 () hf
    · replace hf := it_f c45 hf
      refine wk_iload_n G 1 dX7_event_15 rfl rfl ?_
      refine wk_iconst (v := (3 : Int32)) G dX7_event_16 (by decide) ?_
      refine wk_icmp_ne (tgt := 31) G dX7_event_17 (by decide) (fun c46 => ?_) (fun c46 => ?_)
      · replace hf := it_f c46 hf
        exact J31 () hf
      · replace hf := it_t c46 hf
        exact J20 () hf
def fX7_remove (x1 : Int32) (M : Mem) : Option Mem := (loop fu (un2 fun (v1 : Int32) (M2 : Mem) => (if (M2 56 4) ≤ (v1 + (1 : Int32)) then (some (.inr M2)) else (gd (v1 + (1 : Int32)) 20 (gd v1 20 (nm (st M2 60 (Int32.toNatClampNeg v1) (M2 60 (Int32.toNatClampNeg (v1 + (1 : Int32))))) fun (M6 : Mem) => gd (v1 + (1 : Int32)) 20 (gd v1 20 (nm (st M6 61 (Int32.toNatClampNeg v1) (M6 61 (Int32.toNatClampNeg (v1 + (1 : Int32))))) fun (M9 : Mem) => gd (v1 + (1 : Int32)) 20 (gd v1 20 (nm (st M9 62 (Int32.toNatClampNeg v1) (M9 62 (Int32.toNatClampNeg (v1 + (1 : Int32))))) fun (M12 : Mem) => gd (v1 + (1 : Int32)) 20 (gd v1 20 (nm (st M12 63 (Int32.toNatClampNeg v1) (M12 63 (Int32.toNatClampNeg (v1 + (1 : Int32))))) fun (M15 : Mem) => nm (v1 + (1 : Int32)) fun (v16 : Int32) => some (.inl (v16, M15))))))))))) : Option ((Int32 × Mem) ⊕ (Mem)))) (x1, M)).bind (un1 fun (M17 : Mem) => nm (st M17 56 4 ((M17 56 4) - (1 : Int32))) fun (M18 : Mem) => some M18)
theorem iX7_remove_X7 : ∀ w ∈ wsX70, w ∈ wsX7_remove := by decide +kernel
theorem kX7_remove_19 : Cond.fieldLink RX7 19 "PartitionPlayModel" "kind" "[I" ∈ wsX7_remove := by decide +kernel
theorem kX7_remove_22 : Cond.fieldLink RX7 22 "PartitionPlayModel" "when" "[I" ∈ wsX7_remove := by decide +kernel
theorem kX7_remove_25 : Cond.fieldLink RX7 25 "PartitionPlayModel" "first" "[I" ∈ wsX7_remove := by decide +kernel
theorem kX7_remove_28 : Cond.fieldLink RX7 28 "PartitionPlayModel" "second" "[I" ∈ wsX7_remove := by decide +kernel
theorem kX7_remove_117 : Cond.fieldLink RX7 117 "PartitionPlayModel" "events" "I" ∈ wsX7_remove := by decide +kernel
abbrev rmX7_remove : Room := { frames := 0, cells := 0, slots := 0, locals := 0 }
set_option maxRecDepth 100000 in
set_option maxHeartbeats 4000000 in
theorem c_X7_remove (l : Launch) (D : va_G) (cI cZ : ClassId) (ad : Nat → Nat) (x1 : Int32) (M : Mem) (M' : Mem) (hf : fX7_remove x1 M = some M') : MetV l yX7_remove wsX7_remove rmX7_remove D cI cZ ad [.ref (ad 56), .int x1] M M' := by
  refine met_v (cc := cX7_remove) (nL := 3) (ret := none) (own := RX7) (by decide) rfl rfl (Nat.le_of_ble_eq_true rfl) ?_
  intro p e s m args below meth c A G hr hlocks
  unfold fX7_remove at hf
  show Wk p l e (headSpec wsX7_remove rmX7_remove).room s m args below meth c D cI cZ ad A 3 0 0 (QV below D cI cZ ad A args s M') M 0 [(0, .ref (ad 56)), (1, .int x1)] []
  refine wk_iload_n G 1 dX7_remove_0 rfl rfl ?_
  refine wk_istore_n (lv' := [(2, .int x1), (0, .ref (ad 56)), (1, .int x1)]) G dX7_remove_1 rfl (by decide) rfl ?_
  refine wk_sub [1, 0] rfl ?_
  obtain ⟨q19, q20, hf⟩ := bd_of hf
  have Cq19 : (up1 fun (M17 : Mem) => Wk p l e (headSpec wsX7_remove rmX7_remove).room s m args below meth c D cI cZ ad A 3 0 0 (QV below D cI cZ ad A args s M') M17 74 [(0, .ref (ad 56))] []) q19 := by
    obtain ⟨M17, rfl⟩ : ∃ z, z = q19 := ⟨_, rfl⟩
    replace hf := un1_of hf
    show Wk p l e (headSpec wsX7_remove rmX7_remove).room s m args below meth c D cI cZ ad A 3 0 0 (QV below D cI cZ ad A args s M') M17 74 [(0, .ref (ad 56))] []
    refine wk_aload_n G 0 dX7_remove_74 rfl rfl ?_
    refine wk_dup G dX7_remove_75 rfl ?_
    refine wk_get (ci := 7) (v := .int (M17 56 4)) G iX7_remove_X7 56 (by decide) (ck56 cI cZ ad (M17 56)) rfl 4 (Nat.le_of_ble_eq_true rfl) kX7_remove_117 rfl dX7_remove_76 ?_
    refine wk_iconst (v := (1 : Int32)) G dX7_remove_79 (by decide) ?_
    refine wk_isub G dX7_remove_80 ?_
    obtain ⟨M18, eM18, hf⟩ := nm_ex hf
    refine wk_put (ci := 7) G iX7_remove_X7 tyX7 tyX7_ok nmX7 56 (by decide) (ck56 cI cZ ad (M17 56)) rfl 4 (Nat.le_of_ble_eq_true rfl) kX7_remove_117 rfl (by decide +kernel) (Nat.le_of_ble_eq_true rfl) (cp56_4 cI cZ ad (M17 56) ((M17 56 4) - (1 : Int32))) dX7_remove_81 eM18 ?_
    exact wk_rv G hr hlocks dX7_remove_84 (Option.some.inj hf)
  have Lq19 : (up2 fun (v1 : Int32) (M2 : Mem) => Wk p l e (headSpec wsX7_remove rmX7_remove).room s m args below meth c D cI cZ ad A 3 0 0 (QV below D cI cZ ad A args s M') M2 2 [(0, .ref (ad 56)), (2, .int v1)] []) (x1, M) := by
    refine loop_P (C := (up1 fun (M17 : Mem) => Wk p l e (headSpec wsX7_remove rmX7_remove).room s m args below meth c D cI cZ ad A 3 0 0 (QV below D cI cZ ad A args s M') M17 74 [(0, .ref (ad 56))] [])) ?_ fu (x1, M) q19 q20 Cq19
    clear hf Cq19 q20
    rintro ⟨v1, M2⟩ o hf hI hE
    replace hf := un2_of hf
    show Wk p l e (headSpec wsX7_remove rmX7_remove).room s m args below meth c D cI cZ ad A 3 0 0 (QV below D cI cZ ad A args s M') M2 2 [(0, .ref (ad 56)), (2, .int v1)] []
    refine wk_iload_n G 1 dX7_remove_2 rfl rfl ?_
    refine wk_iconst (v := (1 : Int32)) G dX7_remove_3 (by decide) ?_
    refine wk_iadd G dX7_remove_4 ?_
    refine wk_aload_n G 0 dX7_remove_5 rfl rfl ?_
    refine wk_get (ci := 7) (v := .int (M2 56 4)) G iX7_remove_X7 56 (by decide) (ck56 cI cZ ad (M2 56)) rfl 4 (Nat.le_of_ble_eq_true rfl) kX7_remove_117 rfl dX7_remove_6 ?_
    refine wk_icmp_ge (tgt := 74) G dX7_remove_9 (by decide) (fun c3 => ?_) (fun c3 => ?_)
    · replace hf := it_t c3 hf
      refine wk_sub [0] rfl ?_
      exact hE _ (Option.some.inj hf).symm
    · replace hf := it_f c3 hf
      refine wk_aload_n G 0 dX7_remove_12 rfl rfl ?_
      refine wk_get (ci := 7) (v := .ref (ad 60)) G iX7_remove_X7 56 (by decide) (ck56 cI cZ ad (M2 56)) rfl 5 (Nat.le_of_ble_eq_true rfl) kX7_remove_19 rfl dX7_remove_13 ?_
      refine wk_iload_n G 1 dX7_remove_16 rfl rfl ?_
      refine wk_aload_n G 0 dX7_remove_17 rfl rfl ?_
      refine wk_get (ci := 7) (v := .ref (ad 60)) G iX7_remove_X7 56 (by decide) (ck56 cI cZ ad (M2 56)) rfl 5 (Nat.le_of_ble_eq_true rfl) kX7_remove_19 rfl dX7_remove_18 ?_
      refine wk_iload_n G 1 dX7_remove_21 rfl rfl ?_
      refine wk_iconst (v := (1 : Int32)) G dX7_remove_22 (by decide) ?_
      refine wk_iadd G dX7_remove_23 ?_
      obtain ⟨h4, hf⟩ := gd_of hf
      refine wk_iald G 60 (by decide) (ck60 cI cZ ad) h4 dX7_remove_24 ?_
      obtain ⟨h5, hf⟩ := gd_of hf
      obtain ⟨M6, eM6, hf⟩ := nm_ex hf
      refine wk_iast G 60 (by decide) (ck60 cI cZ ad) h5 dX7_remove_25 eM6 ?_
      refine wk_aload_n G 0 dX7_remove_26 rfl rfl ?_
      refine wk_get (ci := 7) (v := .ref (ad 61)) G iX7_remove_X7 56 (by decide) (ck56 cI cZ ad (M6 56)) rfl 6 (Nat.le_of_ble_eq_true rfl) kX7_remove_22 rfl dX7_remove_27 ?_
      refine wk_iload_n G 1 dX7_remove_30 rfl rfl ?_
      refine wk_aload_n G 0 dX7_remove_31 rfl rfl ?_
      refine wk_get (ci := 7) (v := .ref (ad 61)) G iX7_remove_X7 56 (by decide) (ck56 cI cZ ad (M6 56)) rfl 6 (Nat.le_of_ble_eq_true rfl) kX7_remove_22 rfl dX7_remove_32 ?_
      refine wk_iload_n G 1 dX7_remove_35 rfl rfl ?_
      refine wk_iconst (v := (1 : Int32)) G dX7_remove_36 (by decide) ?_
      refine wk_iadd G dX7_remove_37 ?_
      obtain ⟨h7, hf⟩ := gd_of hf
      refine wk_iald G 61 (by decide) (ck61 cI cZ ad) h7 dX7_remove_38 ?_
      obtain ⟨h8, hf⟩ := gd_of hf
      obtain ⟨M9, eM9, hf⟩ := nm_ex hf
      refine wk_iast G 61 (by decide) (ck61 cI cZ ad) h8 dX7_remove_39 eM9 ?_
      refine wk_aload_n G 0 dX7_remove_40 rfl rfl ?_
      refine wk_get (ci := 7) (v := .ref (ad 62)) G iX7_remove_X7 56 (by decide) (ck56 cI cZ ad (M9 56)) rfl 7 (Nat.le_of_ble_eq_true rfl) kX7_remove_25 rfl dX7_remove_41 ?_
      refine wk_iload_n G 1 dX7_remove_44 rfl rfl ?_
      refine wk_aload_n G 0 dX7_remove_45 rfl rfl ?_
      refine wk_get (ci := 7) (v := .ref (ad 62)) G iX7_remove_X7 56 (by decide) (ck56 cI cZ ad (M9 56)) rfl 7 (Nat.le_of_ble_eq_true rfl) kX7_remove_25 rfl dX7_remove_46 ?_
      refine wk_iload_n G 1 dX7_remove_49 rfl rfl ?_
      refine wk_iconst (v := (1 : Int32)) G dX7_remove_50 (by decide) ?_
      refine wk_iadd G dX7_remove_51 ?_
      obtain ⟨h10, hf⟩ := gd_of hf
      refine wk_iald G 62 (by decide) (ck62 cI cZ ad) h10 dX7_remove_52 ?_
      obtain ⟨h11, hf⟩ := gd_of hf
      obtain ⟨M12, eM12, hf⟩ := nm_ex hf
      refine wk_iast G 62 (by decide) (ck62 cI cZ ad) h11 dX7_remove_53 eM12 ?_
      refine wk_aload_n G 0 dX7_remove_54 rfl rfl ?_
      refine wk_get (ci := 7) (v := .ref (ad 63)) G iX7_remove_X7 56 (by decide) (ck56 cI cZ ad (M12 56)) rfl 8 (Nat.le_of_ble_eq_true rfl) kX7_remove_28 rfl dX7_remove_55 ?_
      refine wk_iload_n G 1 dX7_remove_58 rfl rfl ?_
      refine wk_aload_n G 0 dX7_remove_59 rfl rfl ?_
      refine wk_get (ci := 7) (v := .ref (ad 63)) G iX7_remove_X7 56 (by decide) (ck56 cI cZ ad (M12 56)) rfl 8 (Nat.le_of_ble_eq_true rfl) kX7_remove_28 rfl dX7_remove_60 ?_
      refine wk_iload_n G 1 dX7_remove_63 rfl rfl ?_
      refine wk_iconst (v := (1 : Int32)) G dX7_remove_64 (by decide) ?_
      refine wk_iadd G dX7_remove_65 ?_
      obtain ⟨h13, hf⟩ := gd_of hf
      refine wk_iald G 63 (by decide) (ck63 cI cZ ad) h13 dX7_remove_66 ?_
      obtain ⟨h14, hf⟩ := gd_of hf
      obtain ⟨M15, eM15, hf⟩ := nm_ex hf
      refine wk_iast G 63 (by decide) (ck63 cI cZ ad) h14 dX7_remove_67 eM15 ?_
      obtain ⟨v16, ev16, hf⟩ := nm_ex hf
      refine wk_iinc (v := v16) (lv' := [(2, .int v16), (0, .ref (ad 56))]) G 1 dX7_remove_68 rfl (by rw [ev16]; rfl) (by decide) rfl ?_
      refine wk_goto (tgt := 2) G dX7_remove_71 (by decide) ?_
      refine wk_sub [1, 0] rfl ?_
      exact hI _ (Option.some.inj hf).symm
  exact Lq19
def fX7_drop (x1 : Int32) (M : Mem) : Option (Int32 × Mem) := (fX7_in x1 (0 : Int32) ((M 56 4) - (1 : Int32))).bind (fun (r1 : Int32) => if r1 = 0 then (some ((-2 : Int32), M)) else ((fX7_remove x1 M).bind (fun (M4 : Mem) => some ((M4 56 4), M4))))
theorem iX7_drop_X7 : ∀ w ∈ wsX70, w ∈ wsX7_drop := by decide +kernel
theorem kX7_drop_117 : Cond.fieldLink RX7 117 "PartitionPlayModel" "events" "I" ∈ wsX7_drop := by decide +kernel
abbrev rmX7_drop : Room := { frames := 1, cells := 0, slots := 0, locals := 22 }
set_option maxRecDepth 100000 in
set_option maxHeartbeats 4000000 in
theorem c_X7_drop (l : Launch) (D : va_G) (cI cZ : ClassId) (ad : Nat → Nat) (x1 : Int32) (M : Mem) (r : Int32) (M' : Mem) (hf : fX7_drop x1 M = some (r, M')) : MetI l yX7_drop wsX7_drop rmX7_drop D cI cZ ad [.ref (ad 56), .int x1] M r M' := by
  refine met_i (cc := cX7_drop) (nL := 2) (ret := (some .int)) (own := RX7) (by decide) rfl rfl (Nat.le_of_ble_eq_true rfl) ?_
  intro p e s m args below meth c A G hr hlocks
  unfold fX7_drop at hf
  show Wk p l e (headSpec wsX7_drop rmX7_drop).room s m args below meth c D cI cZ ad A 2 0 0 (QI below D cI cZ ad A args s r M') M 0 [(0, .ref (ad 56)), (1, .int x1)] []
  refine wk_iload_n G 1 dX7_drop_0 rfl rfl ?_
  refine wk_iconst (v := (0 : Int32)) G dX7_drop_1 (by decide) ?_
  refine wk_aload_n G 0 dX7_drop_2 rfl rfl ?_
  refine wk_get (ci := 7) (v := .int (M 56 4)) G iX7_drop_X7 56 (by decide) (ck56 cI cZ ad (M 56)) rfl 4 (Nat.le_of_ble_eq_true rfl) kX7_drop_117 rfl dX7_drop_3 ?_
  refine wk_iconst (v := (1 : Int32)) G dX7_drop_6 (by decide) ?_
  refine wk_isub G dX7_drop_7 ?_
  obtain ⟨r1, q2, hf⟩ := bd_of hf
  refine wk_callSi (As := [.int x1, .int (0 : Int32), .int ((M 56 4) - (1 : Int32))]) (rest := []) G (c_X7_in l D cI cZ ad x1 (0 : Int32) ((M 56 4) - (1 : Int32)) M r1 q2) (va_cwS 3 G.2.2.2.2.1 gX7_drop_X7_in rfl rfl rfl (by decide +kernel) ⟨Nat.le_of_ble_eq_true rfl, Nat.le_of_ble_eq_true rfl⟩) rfl rfl (Nat.le_of_ble_eq_true rfl) dX7_drop_8 ⟨Nat.le_of_ble_eq_true rfl, Nat.le_of_ble_eq_true rfl⟩ ?_
  refine wk_if_ne (tgt := 17) G dX7_drop_11 (by decide) (fun c3 => ?_) (fun c3 => ?_)
  · replace hf := it_f c3 hf
    refine wk_aload_n G 0 dX7_drop_17 rfl rfl ?_
    refine wk_iload_n G 1 dX7_drop_18 rfl rfl ?_
    obtain ⟨M4, q5, hf⟩ := bd_of hf
    refine wk_callVv (As := [.int x1]) (rest := []) (ci := 7) G 56 (by decide) (c_X7_remove l D cI cZ ad x1 M M4 q5) (cwV 1 G.2.2.2.2.1 gX7_drop_X7_remove rfl rfl rfl (by decide +kernel) ⟨Nat.le_of_ble_eq_true rfl, Nat.le_of_ble_eq_true rfl⟩) (ck56 cI cZ ad (M 56)) rfl rfl rfl (Nat.le_of_ble_eq_true rfl) dX7_drop_19 ⟨Nat.le_of_ble_eq_true rfl, Nat.le_of_ble_eq_true rfl⟩ ?_
    refine wk_aload_n G 0 dX7_drop_22 rfl rfl ?_
    refine wk_get (ci := 7) (v := .int (M4 56 4)) G iX7_drop_X7 56 (by decide) (ck56 cI cZ ad (M4 56)) rfl 4 (Nat.le_of_ble_eq_true rfl) kX7_drop_117 rfl dX7_drop_23 ?_
    exact wk_ri G hr hlocks dX7_drop_26 (Option.some.inj hf)
  · replace hf := it_t c3 hf
    refine wk_bipush (v := (-2 : Int32)) G dX7_drop_14 (by decide) ?_
    exact wk_ri G hr hlocks dX7_drop_16 (Option.some.inj hf)
def fX7_told (x1 : Int32) (x2 : Int32) (M : Mem) : Option Int32 := (fX7_in x1 (0 : Int32) ((M 56 4) - (1 : Int32))).bind (fun (r1 : Int32) => if r1 = 0 then (some (-2 : Int32)) else ((fX7_in x2 (0 : Int32) (3 : Int32)).bind (fun (r4 : Int32) => if r4 = 0 then (some (-2 : Int32)) else (if x2 = 0 then (gd x1 20 (some (M 60 (Int32.toNatClampNeg x1)))) else (if x2 = (1 : Int32) then (gd x1 20 (some (M 61 (Int32.toNatClampNeg x1)))) else (if x2 = (2 : Int32) then (gd x1 20 (some (M 62 (Int32.toNatClampNeg x1)))) else (gd x1 20 (some (M 63 (Int32.toNatClampNeg x1))))))))))
theorem iX7_told_X7 : ∀ w ∈ wsX70, w ∈ wsX7_told := by decide +kernel
theorem kX7_told_19 : Cond.fieldLink RX7 19 "PartitionPlayModel" "kind" "[I" ∈ wsX7_told := by decide +kernel
theorem kX7_told_22 : Cond.fieldLink RX7 22 "PartitionPlayModel" "when" "[I" ∈ wsX7_told := by decide +kernel
theorem kX7_told_25 : Cond.fieldLink RX7 25 "PartitionPlayModel" "first" "[I" ∈ wsX7_told := by decide +kernel
theorem kX7_told_28 : Cond.fieldLink RX7 28 "PartitionPlayModel" "second" "[I" ∈ wsX7_told := by decide +kernel
theorem kX7_told_117 : Cond.fieldLink RX7 117 "PartitionPlayModel" "events" "I" ∈ wsX7_told := by decide +kernel
abbrev rmX7_told : Room := { frames := 1, cells := 0, slots := 0, locals := 22 }
set_option maxRecDepth 100000 in
set_option maxHeartbeats 4000000 in
theorem c_X7_told (l : Launch) (D : va_G) (cI cZ : ClassId) (ad : Nat → Nat) (x1 : Int32) (x2 : Int32) (M : Mem) (r : Int32) (hf : fX7_told x1 x2 M = some r) : MetI l yX7_told wsX7_told rmX7_told D cI cZ ad [.ref (ad 56), .int x1, .int x2] M r M := by
  refine met_i (cc := cX7_told) (nL := 3) (ret := (some .int)) (own := RX7) (by decide) rfl rfl (Nat.le_of_ble_eq_true rfl) ?_
  intro p e s m args below meth c A G hr hlocks
  unfold fX7_told at hf
  show Wk p l e (headSpec wsX7_told rmX7_told).room s m args below meth c D cI cZ ad A 3 0 0 (QI below D cI cZ ad A args s r M) M 0 [(0, .ref (ad 56)), (1, .int x1), (2, .int x2)] []
  refine wk_iload_n G 1 dX7_told_0 rfl rfl ?_
  refine wk_iconst (v := (0 : Int32)) G dX7_told_1 (by decide) ?_
  refine wk_aload_n G 0 dX7_told_2 rfl rfl ?_
  refine wk_get (ci := 7) (v := .int (M 56 4)) G iX7_told_X7 56 (by decide) (ck56 cI cZ ad (M 56)) rfl 4 (Nat.le_of_ble_eq_true rfl) kX7_told_117 rfl dX7_told_3 ?_
  refine wk_iconst (v := (1 : Int32)) G dX7_told_6 (by decide) ?_
  refine wk_isub G dX7_told_7 ?_
  obtain ⟨r1, q2, hf⟩ := bd_of hf
  refine wk_callSi (As := [.int x1, .int (0 : Int32), .int ((M 56 4) - (1 : Int32))]) (rest := []) G (c_X7_in l D cI cZ ad x1 (0 : Int32) ((M 56 4) - (1 : Int32)) M r1 q2) (va_cwS 3 G.2.2.2.2.1 gX7_told_X7_in rfl rfl rfl (by decide +kernel) ⟨Nat.le_of_ble_eq_true rfl, Nat.le_of_ble_eq_true rfl⟩) rfl rfl (Nat.le_of_ble_eq_true rfl) dX7_told_8 ⟨Nat.le_of_ble_eq_true rfl, Nat.le_of_ble_eq_true rfl⟩ ?_
  refine wk_if_eq (tgt := 23) G dX7_told_11 (by decide) (fun c3 => ?_) (fun c3 => ?_)
  · replace hf := it_t c3 hf
    refine wk_bipush (v := (-2 : Int32)) G dX7_told_23 (by decide) ?_
    exact wk_ri G hr hlocks dX7_told_25 (congrArg (fun z => (z, M)) (Option.some.inj hf))
  · replace hf := it_f c3 hf
    refine wk_iload_n G 2 dX7_told_14 rfl rfl ?_
    refine wk_iconst (v := (0 : Int32)) G dX7_told_15 (by decide) ?_
    refine wk_iconst (v := (3 : Int32)) G dX7_told_16 (by decide) ?_
    obtain ⟨r4, q5, hf⟩ := bd_of hf
    refine wk_callSi (As := [.int x2, .int (0 : Int32), .int (3 : Int32)]) (rest := []) G (c_X7_in l D cI cZ ad x2 (0 : Int32) (3 : Int32) M r4 q5) (va_cwS 3 G.2.2.2.2.1 gX7_told_X7_in rfl rfl rfl (by decide +kernel) ⟨Nat.le_of_ble_eq_true rfl, Nat.le_of_ble_eq_true rfl⟩) rfl rfl (Nat.le_of_ble_eq_true rfl) dX7_told_17 ⟨Nat.le_of_ble_eq_true rfl, Nat.le_of_ble_eq_true rfl⟩ ?_
    refine wk_if_ne (tgt := 26) G dX7_told_20 (by decide) (fun c6 => ?_) (fun c6 => ?_)
    · replace hf := it_f c6 hf
      refine wk_iload_n G 2 dX7_told_26 rfl rfl ?_
      refine wk_if_ne (tgt := 39) G dX7_told_27 (by decide) (fun c7 => ?_) (fun c7 => ?_)
      · replace hf := it_f c7 hf
        refine wk_iload_n G 2 dX7_told_39 rfl rfl ?_
        refine wk_iconst (v := (1 : Int32)) G dX7_told_40 (by decide) ?_
        refine wk_icmp_ne (tgt := 53) G dX7_told_41 (by decide) (fun c8 => ?_) (fun c8 => ?_)
        · replace hf := it_f c8 hf
          refine wk_iload_n G 2 dX7_told_53 rfl rfl ?_
          refine wk_iconst (v := (2 : Int32)) G dX7_told_54 (by decide) ?_
          refine wk_icmp_ne (tgt := 67) G dX7_told_55 (by decide) (fun c9 => ?_) (fun c9 => ?_)
          · replace hf := it_f c9 hf
            refine wk_aload_n G 0 dX7_told_67 rfl rfl ?_
            refine wk_get (ci := 7) (v := .ref (ad 63)) G iX7_told_X7 56 (by decide) (ck56 cI cZ ad (M 56)) rfl 8 (Nat.le_of_ble_eq_true rfl) kX7_told_28 rfl dX7_told_68 ?_
            refine wk_iload_n G 1 dX7_told_71 rfl rfl ?_
            obtain ⟨h10, hf⟩ := gd_of hf
            refine wk_iald G 63 (by decide) (ck63 cI cZ ad) h10 dX7_told_72 ?_
            exact wk_ri G hr hlocks dX7_told_73 (congrArg (fun z => (z, M)) (Option.some.inj hf))
          · replace hf := it_t c9 hf
            refine wk_aload_n G 0 dX7_told_58 rfl rfl ?_
            refine wk_get (ci := 7) (v := .ref (ad 62)) G iX7_told_X7 56 (by decide) (ck56 cI cZ ad (M 56)) rfl 7 (Nat.le_of_ble_eq_true rfl) kX7_told_25 rfl dX7_told_59 ?_
            refine wk_iload_n G 1 dX7_told_62 rfl rfl ?_
            obtain ⟨h11, hf⟩ := gd_of hf
            refine wk_iald G 62 (by decide) (ck62 cI cZ ad) h11 dX7_told_63 ?_
            refine wk_goto (tgt := 73) G dX7_told_64 (by decide) ?_
            exact wk_ri G hr hlocks dX7_told_73 (congrArg (fun z => (z, M)) (Option.some.inj hf))
        · replace hf := it_t c8 hf
          refine wk_aload_n G 0 dX7_told_44 rfl rfl ?_
          refine wk_get (ci := 7) (v := .ref (ad 61)) G iX7_told_X7 56 (by decide) (ck56 cI cZ ad (M 56)) rfl 6 (Nat.le_of_ble_eq_true rfl) kX7_told_22 rfl dX7_told_45 ?_
          refine wk_iload_n G 1 dX7_told_48 rfl rfl ?_
          obtain ⟨h12, hf⟩ := gd_of hf
          refine wk_iald G 61 (by decide) (ck61 cI cZ ad) h12 dX7_told_49 ?_
          refine wk_goto (tgt := 73) G dX7_told_50 (by decide) ?_
          exact wk_ri G hr hlocks dX7_told_73 (congrArg (fun z => (z, M)) (Option.some.inj hf))
      · replace hf := it_t c7 hf
        refine wk_aload_n G 0 dX7_told_30 rfl rfl ?_
        refine wk_get (ci := 7) (v := .ref (ad 60)) G iX7_told_X7 56 (by decide) (ck56 cI cZ ad (M 56)) rfl 5 (Nat.le_of_ble_eq_true rfl) kX7_told_19 rfl dX7_told_31 ?_
        refine wk_iload_n G 1 dX7_told_34 rfl rfl ?_
        obtain ⟨h13, hf⟩ := gd_of hf
        refine wk_iald G 60 (by decide) (ck60 cI cZ ad) h13 dX7_told_35 ?_
        refine wk_goto (tgt := 73) G dX7_told_36 (by decide) ?_
        exact wk_ri G hr hlocks dX7_told_73 (congrArg (fun z => (z, M)) (Option.some.inj hf))
    · replace hf := it_t c6 hf
      refine wk_bipush (v := (-2 : Int32)) G dX7_told_23 (by decide) ?_
      exact wk_ri G hr hlocks dX7_told_25 (congrArg (fun z => (z, M)) (Option.some.inj hf))
def fX7_isTogether (x1 : Int32) (x2 : Int32) (M : Mem) : Option Int32 := if (((M 56 33) >>> (x1 &&& 31)) &&& (1 : Int32)) = (((M 56 33) >>> (x2 &&& 31)) &&& (1 : Int32)) then (some (1 : Int32)) else (some (0 : Int32))
theorem iX7_isTogether_X7 : ∀ w ∈ wsX70, w ∈ wsX7_isTogether := by decide +kernel
theorem kX7_isTogether_124 : Cond.fieldLink RX7 124 "PartitionPlayModel" "group" "I" ∈ wsX7_isTogether := by decide +kernel
abbrev rmX7_isTogether : Room := { frames := 0, cells := 0, slots := 0, locals := 0 }
set_option maxRecDepth 100000 in
set_option maxHeartbeats 4000000 in
theorem c_X7_isTogether (l : Launch) (D : va_G) (cI cZ : ClassId) (ad : Nat → Nat) (x1 : Int32) (x2 : Int32) (M : Mem) (r : Int32) (hf : fX7_isTogether x1 x2 M = some r) : MetI l yX7_isTogether wsX7_isTogether rmX7_isTogether D cI cZ ad [.ref (ad 56), .int x1, .int x2] M r M := by
  refine met_i (cc := cX7_isTogether) (nL := 3) (ret := (some .boolean)) (own := RX7) (by decide) rfl rfl (Nat.le_of_ble_eq_true rfl) ?_
  intro p e s m args below meth c A G hr hlocks
  unfold fX7_isTogether at hf
  show Wk p l e (headSpec wsX7_isTogether rmX7_isTogether).room s m args below meth c D cI cZ ad A 3 0 0 (QI below D cI cZ ad A args s r M) M 0 [(0, .ref (ad 56)), (1, .int x1), (2, .int x2)] []
  refine wk_aload_n G 0 dX7_isTogether_0 rfl rfl ?_
  refine wk_get (ci := 7) (v := .int (M 56 33)) G iX7_isTogether_X7 56 (by decide) (ck56 cI cZ ad (M 56)) rfl 33 (Nat.le_of_ble_eq_true rfl) kX7_isTogether_124 rfl dX7_isTogether_1 ?_
  refine wk_iload_n G 1 dX7_isTogether_4 rfl rfl ?_
  refine wk_ishr G dX7_isTogether_5 ?_
  refine wk_iconst (v := (1 : Int32)) G dX7_isTogether_6 (by decide) ?_
  refine wk_iand G dX7_isTogether_7 ?_
  refine wk_aload_n G 0 dX7_isTogether_8 rfl rfl ?_
  refine wk_get (ci := 7) (v := .int (M 56 33)) G iX7_isTogether_X7 56 (by decide) (ck56 cI cZ ad (M 56)) rfl 33 (Nat.le_of_ble_eq_true rfl) kX7_isTogether_124 rfl dX7_isTogether_9 ?_
  refine wk_iload_n G 2 dX7_isTogether_12 rfl rfl ?_
  refine wk_ishr G dX7_isTogether_13 ?_
  refine wk_iconst (v := (1 : Int32)) G dX7_isTogether_14 (by decide) ?_
  refine wk_iand G dX7_isTogether_15 ?_
  refine wk_icmp_ne (tgt := 23) G dX7_isTogether_16 (by decide) (fun c1 => ?_) (fun c1 => ?_)
  · replace hf := it_f c1 hf
    refine wk_iconst (v := (0 : Int32)) G dX7_isTogether_23 (by decide) ?_
    exact wk_rz G hr hlocks (Or.inl rfl) dX7_isTogether_24 (congrArg (fun z => (z, M)) (Option.some.inj hf))
  · replace hf := it_t c1 hf
    refine wk_iconst (v := (1 : Int32)) G dX7_isTogether_19 (by decide) ?_
    refine wk_goto (tgt := 24) G dX7_isTogether_20 (by decide) ?_
    exact wk_rz G hr hlocks (Or.inr rfl) dX7_isTogether_24 (congrArg (fun z => (z, M)) (Option.some.inj hf))
def fX7_happen (x1 : Int32) (M : Mem) : Option Mem := (loop fu (un2 fun (v1 : Int32) (M2 : Mem) => (if (M2 56 4) ≤ v1 then (some (.inr M2)) else (gd v1 20 (nm (fun (M5 : Mem) => nm (v1 + (1 : Int32)) fun (v6 : Int32) => some (.inl (v6, M5))) fun j142 => if (M2 64 (Int32.toNatClampNeg v1)) = 0 then (gd v1 20 (if (4 : Int32) ≤ (M2 60 (Int32.toNatClampNeg v1)) then (j142 M2) else (gd v1 20 (if (M2 61 (Int32.toNatClampNeg v1)) = x1 then (gd v1 20 (nm ((M2 62 (Int32.toNatClampNeg v1))) fun (v13 : Int32) => gd v1 20 (if (2 : Int32) ≤ (M2 60 (Int32.toNatClampNeg v1)) then (gd v1 20 (if (M2 60 (Int32.toNatClampNeg v1)) = (2 : Int32) then (gd v13 7 (nm (st M2 85 (Int32.toNatClampNeg v13) (vp_nar .boolean (1 : Int32))) fun (M32 : Mem) => j142 M32)) else (gd v13 7 (if (M2 85 (Int32.toNatClampNeg v13)) = 0 then (j142 M2) else (gd v13 7 (nm (st M2 85 (Int32.toNatClampNeg v13) (vp_nar .boolean (0 : Int32))) fun (M21 : Mem) => (loop fu (un2 fun (v22 : Int32) (M23 : Mem) => (if (7 : Int32) ≤ v22 then (some (.inr M23)) else (gd (((7 : Int32) * v13) + v22) 49 (nm (st M23 84 (Int32.toNatClampNeg (((7 : Int32) * v13) + v22)) (0 : Int32)) fun (M26 : Mem) => nm (v22 + (1 : Int32)) fun (v27 : Int32) => some (.inl (v27, M26)))) : Option ((Int32 × Mem) ⊕ (Mem)))) ((0 : Int32), M21)).bind (un1 fun (M28 : Mem) => j142 M28))))))) else (gd v1 20 (nm (fun (v34 : Int32) => nm (st M2 56 33 v34) fun (M35 : Mem) => j142 M35) fun j71 => if (M2 60 (Int32.toNatClampNeg v1)) = 0 then (j71 v13) else (j71 (0 : Int32))))))) else (j142 M2))))) else (j142 M2))) : Option ((Int32 × Mem) ⊕ (Mem)))) ((0 : Int32), M)).bind (un1 fun (M37 : Mem) => some M37)
theorem iX7_happen_X7 : ∀ w ∈ wsX70, w ∈ wsX7_happen := by decide +kernel
theorem kX7_happen_19 : Cond.fieldLink RX7 19 "PartitionPlayModel" "kind" "[I" ∈ wsX7_happen := by decide +kernel
theorem kX7_happen_22 : Cond.fieldLink RX7 22 "PartitionPlayModel" "when" "[I" ∈ wsX7_happen := by decide +kernel
theorem kX7_happen_25 : Cond.fieldLink RX7 25 "PartitionPlayModel" "first" "[I" ∈ wsX7_happen := by decide +kernel
theorem kX7_happen_31 : Cond.fieldLink RX7 31 "PartitionPlayModel" "isOut" "[Z" ∈ wsX7_happen := by decide +kernel
theorem kX7_happen_92 : Cond.fieldLink RX7 92 "PartitionPlayModel" "shown" "[I" ∈ wsX7_happen := by decide +kernel
theorem kX7_happen_95 : Cond.fieldLink RX7 95 "PartitionPlayModel" "isDown" "[Z" ∈ wsX7_happen := by decide +kernel
theorem kX7_happen_117 : Cond.fieldLink RX7 117 "PartitionPlayModel" "events" "I" ∈ wsX7_happen := by decide +kernel
theorem kX7_happen_124 : Cond.fieldLink RX7 124 "PartitionPlayModel" "group" "I" ∈ wsX7_happen := by decide +kernel
abbrev rmX7_happen : Room := { frames := 0, cells := 0, slots := 0, locals := 0 }
set_option maxRecDepth 100000 in
set_option maxHeartbeats 4000000 in
theorem c_X7_happen (l : Launch) (D : va_G) (cI cZ : ClassId) (ad : Nat → Nat) (x1 : Int32) (M : Mem) (M' : Mem) (hf : fX7_happen x1 M = some M') : MetV l yX7_happen wsX7_happen rmX7_happen D cI cZ ad [.ref (ad 56), .int x1] M M' := by
  refine met_v (cc := cX7_happen) (nL := 5) (ret := none) (own := RX7) (by decide) rfl rfl (Nat.le_of_ble_eq_true rfl) ?_
  intro p e s m args below meth c A G hr hlocks
  unfold fX7_happen at hf
  show Wk p l e (headSpec wsX7_happen rmX7_happen).room s m args below meth c D cI cZ ad A 5 0 0 (QV below D cI cZ ad A args s M') M 0 [(0, .ref (ad 56)), (1, .int x1)] []
  refine wk_iconst (v := (0 : Int32)) G dX7_happen_0 (by decide) ?_
  refine wk_istore_n (lv' := [(2, .int (0 : Int32)), (0, .ref (ad 56)), (1, .int x1)]) G dX7_happen_1 rfl (by decide) rfl ?_
  refine wk_sub [1, 2, 0] rfl ?_
  obtain ⟨q38, q39, hf⟩ := bd_of hf
  have Cq38 : (up1 fun (M37 : Mem) => Wk p l e (headSpec wsX7_happen rmX7_happen).room s m args below meth c D cI cZ ad A 5 0 0 (QV below D cI cZ ad A args s M') M37 148 [] []) q38 := by
    obtain ⟨M37, rfl⟩ : ∃ z, z = q38 := ⟨_, rfl⟩
    replace hf := un1_of hf
    show Wk p l e (headSpec wsX7_happen rmX7_happen).room s m args below meth c D cI cZ ad A 5 0 0 (QV below D cI cZ ad A args s M') M37 148 [] []
    exact wk_rv G hr hlocks dX7_happen_148 (Option.some.inj hf)
  have Lq38 : (up2 fun (v1 : Int32) (M2 : Mem) => Wk p l e (headSpec wsX7_happen rmX7_happen).room s m args below meth c D cI cZ ad A 5 0 0 (QV below D cI cZ ad A args s M') M2 2 [(0, .ref (ad 56)), (1, .int x1), (2, .int v1)] []) ((0 : Int32), M) := by
    refine loop_P (C := (up1 fun (M37 : Mem) => Wk p l e (headSpec wsX7_happen rmX7_happen).room s m args below meth c D cI cZ ad A 5 0 0 (QV below D cI cZ ad A args s M') M37 148 [] [])) ?_ fu ((0 : Int32), M) q38 q39 Cq38
    clear hf Cq38 q39
    rintro ⟨v1, M2⟩ o hf hI hE
    replace hf := un2_of hf
    show Wk p l e (headSpec wsX7_happen rmX7_happen).room s m args below meth c D cI cZ ad A 5 0 0 (QV below D cI cZ ad A args s M') M2 2 [(0, .ref (ad 56)), (1, .int x1), (2, .int v1)] []
    refine wk_iload_n G 2 dX7_happen_2 rfl rfl ?_
    refine wk_aload_n G 0 dX7_happen_3 rfl rfl ?_
    refine wk_get (ci := 7) (v := .int (M2 56 4)) G iX7_happen_X7 56 (by decide) (ck56 cI cZ ad (M2 56)) rfl 4 (Nat.le_of_ble_eq_true rfl) kX7_happen_117 rfl dX7_happen_4 ?_
    refine wk_icmp_ge (tgt := 148) G dX7_happen_7 (by decide) (fun c3 => ?_) (fun c3 => ?_)
    · replace hf := it_t c3 hf
      refine wk_sub [] rfl ?_
      exact hE _ (Option.some.inj hf).symm
    · replace hf := it_f c3 hf
      refine wk_aload_n G 0 dX7_happen_10 rfl rfl ?_
      refine wk_get (ci := 7) (v := .ref (ad 64)) G iX7_happen_X7 56 (by decide) (ck56 cI cZ ad (M2 56)) rfl 9 (Nat.le_of_ble_eq_true rfl) kX7_happen_31 rfl dX7_happen_11 ?_
      refine wk_iload_n G 2 dX7_happen_14 rfl rfl ?_
      obtain ⟨h4, hf⟩ := gd_of hf
      refine wk_zald G 64 (by decide) (ck64 cI cZ ad) h4 dX7_happen_15 ?_
      obtain ⟨j142, ej142, hf⟩ := nm_ex hf
      have J142 : ∀ (M5 : Mem), j142 M5 = some o → Wk p l e (headSpec wsX7_happen rmX7_happen).room s m args below meth c D cI cZ ad A 5 0 0 (QV below D cI cZ ad A args s M') M5 142 [(0, .ref (ad 56)), (1, .int x1), (2, .int v1)] [] := by
        intro M5 hf
        replace hf := jn1 ej142 hf
        obtain ⟨v6, ev6, hf⟩ := nm_ex hf
        refine wk_iinc (v := v6) (lv' := [(2, .int v6), (0, .ref (ad 56)), (1, .int x1)]) G 2 dX7_happen_142 rfl (by rw [ev6]; rfl) (by decide) rfl ?_
        refine wk_goto (tgt := 2) G dX7_happen_145 (by decide) ?_
        refine wk_sub [1, 2, 0] rfl ?_
        exact hI _ (Option.some.inj hf).symm
      refine wk_if_ne (tgt := 142) G dX7_happen_16 (by decide) (fun c7 => ?_) (fun c7 => ?_)
      · replace hf := it_f c7 hf
        exact J142 M2 hf
      · replace hf := it_t c7 hf
        refine wk_aload_n G 0 dX7_happen_19 rfl rfl ?_
        refine wk_get (ci := 7) (v := .ref (ad 60)) G iX7_happen_X7 56 (by decide) (ck56 cI cZ ad (M2 56)) rfl 5 (Nat.le_of_ble_eq_true rfl) kX7_happen_19 rfl dX7_happen_20 ?_
        refine wk_iload_n G 2 dX7_happen_23 rfl rfl ?_
        obtain ⟨h8, hf⟩ := gd_of hf
        refine wk_iald G 60 (by decide) (ck60 cI cZ ad) h8 dX7_happen_24 ?_
        refine wk_iconst (v := (4 : Int32)) G dX7_happen_25 (by decide) ?_
        refine wk_icmp_ge (tgt := 142) G dX7_happen_26 (by decide) (fun c9 => ?_) (fun c9 => ?_)
        · replace hf := it_t c9 hf
          exact J142 M2 hf
        · replace hf := it_f c9 hf
          refine wk_aload_n G 0 dX7_happen_29 rfl rfl ?_
          refine wk_get (ci := 7) (v := .ref (ad 61)) G iX7_happen_X7 56 (by decide) (ck56 cI cZ ad (M2 56)) rfl 6 (Nat.le_of_ble_eq_true rfl) kX7_happen_22 rfl dX7_happen_30 ?_
          refine wk_iload_n G 2 dX7_happen_33 rfl rfl ?_
          obtain ⟨h10, hf⟩ := gd_of hf
          refine wk_iald G 61 (by decide) (ck61 cI cZ ad) h10 dX7_happen_34 ?_
          refine wk_iload_n G 1 dX7_happen_35 rfl rfl ?_
          refine wk_icmp_ne (tgt := 142) G dX7_happen_36 (by decide) (fun c11 => ?_) (fun c11 => ?_)
          · replace hf := it_f c11 hf
            exact J142 M2 hf
          · replace hf := it_t c11 hf
            refine wk_aload_n G 0 dX7_happen_39 rfl rfl ?_
            refine wk_get (ci := 7) (v := .ref (ad 62)) G iX7_happen_X7 56 (by decide) (ck56 cI cZ ad (M2 56)) rfl 7 (Nat.le_of_ble_eq_true rfl) kX7_happen_25 rfl dX7_happen_40 ?_
            refine wk_iload_n G 2 dX7_happen_43 rfl rfl ?_
            obtain ⟨h12, hf⟩ := gd_of hf
            refine wk_iald G 62 (by decide) (ck62 cI cZ ad) h12 dX7_happen_44 ?_
            obtain ⟨v13, ev13, hf⟩ := nm_ex hf
            refine wk_nme ev13 ?_
            refine wk_istore_n (lv' := [(3, .int v13), (0, .ref (ad 56)), (1, .int x1), (2, .int v1)]) G dX7_happen_45 rfl (by decide) rfl ?_
            refine wk_aload_n G 1 dX7_happen_46 rfl rfl ?_
            refine wk_get (ci := 7) (v := .ref (ad 60)) G iX7_happen_X7 56 (by decide) (ck56 cI cZ ad (M2 56)) rfl 5 (Nat.le_of_ble_eq_true rfl) kX7_happen_19 rfl dX7_happen_47 ?_
            refine wk_iload_n G 3 dX7_happen_50 rfl rfl ?_
            obtain ⟨h14, hf⟩ := gd_of hf
            refine wk_iald G 60 (by decide) (ck60 cI cZ ad) h14 dX7_happen_51 ?_
            refine wk_iconst (v := (2 : Int32)) G dX7_happen_52 (by decide) ?_
            refine wk_icmp_ge (tgt := 77) G dX7_happen_53 (by decide) (fun c15 => ?_) (fun c15 => ?_)
            · replace hf := it_t c15 hf
              refine wk_aload_n G 1 dX7_happen_77 rfl rfl ?_
              refine wk_get (ci := 7) (v := .ref (ad 60)) G iX7_happen_X7 56 (by decide) (ck56 cI cZ ad (M2 56)) rfl 5 (Nat.le_of_ble_eq_true rfl) kX7_happen_19 rfl dX7_happen_78 ?_
              refine wk_iload_n G 3 dX7_happen_81 rfl rfl ?_
              obtain ⟨h16, hf⟩ := gd_of hf
              refine wk_iald G 60 (by decide) (ck60 cI cZ ad) h16 dX7_happen_82 ?_
              refine wk_iconst (v := (2 : Int32)) G dX7_happen_83 (by decide) ?_
              refine wk_icmp_ne (tgt := 97) G dX7_happen_84 (by decide) (fun c17 => ?_) (fun c17 => ?_)
              · replace hf := it_f c17 hf
                refine wk_aload_n G 1 dX7_happen_97 rfl rfl ?_
                refine wk_get (ci := 7) (v := .ref (ad 85)) G iX7_happen_X7 56 (by decide) (ck56 cI cZ ad (M2 56)) rfl 31 (Nat.le_of_ble_eq_true rfl) kX7_happen_95 rfl dX7_happen_98 ?_
                refine wk_iload_n G 0 dX7_happen_101 rfl rfl ?_
                obtain ⟨h18, hf⟩ := gd_of hf
                refine wk_zald G 85 (by decide) (ck85 cI cZ ad) h18 dX7_happen_102 ?_
                refine wk_if_eq (tgt := 142) G dX7_happen_103 (by decide) (fun c19 => ?_) (fun c19 => ?_)
                · replace hf := it_t c19 hf
                  refine wk_sub [1, 2, 3] rfl ?_
                  exact J142 M2 hf
                · replace hf := it_f c19 hf
                  refine wk_aload_n G 1 dX7_happen_106 rfl rfl ?_
                  refine wk_get (ci := 7) (v := .ref (ad 85)) G iX7_happen_X7 56 (by decide) (ck56 cI cZ ad (M2 56)) rfl 31 (Nat.le_of_ble_eq_true rfl) kX7_happen_95 rfl dX7_happen_107 ?_
                  refine wk_iload_n G 0 dX7_happen_110 rfl rfl ?_
                  refine wk_iconst (v := (0 : Int32)) G dX7_happen_111 (by decide) ?_
                  obtain ⟨h20, hf⟩ := gd_of hf
                  obtain ⟨M21, eM21, hf⟩ := nm_ex hf
                  refine wk_zast G 85 (by decide) (ck85 cI cZ ad) h20 dX7_happen_112 eM21 ?_
                  refine wk_iconst (v := (0 : Int32)) G dX7_happen_113 (by decide) ?_
                  refine wk_istore (lv' := [(4, .int (0 : Int32)), (3, .int v13), (0, .ref (ad 56)), (1, .int x1), (2, .int v1)]) G dX7_happen_114 (by decide) rfl ?_
                  refine wk_sub [2, 3, 4, 1, 0] rfl ?_
                  obtain ⟨q29, q30, hf⟩ := bd_of hf
                  have Cq29 : (up1 fun (M28 : Mem) => Wk p l e (headSpec wsX7_happen rmX7_happen).room s m args below meth c D cI cZ ad A 5 0 0 (QV below D cI cZ ad A args s M') M28 142 [(0, .ref (ad 56)), (1, .int x1), (2, .int v1)] []) q29 := by
                    obtain ⟨M28, rfl⟩ : ∃ z, z = q29 := ⟨_, rfl⟩
                    replace hf := un1_of hf
                    show Wk p l e (headSpec wsX7_happen rmX7_happen).room s m args below meth c D cI cZ ad A 5 0 0 (QV below D cI cZ ad A args s M') M28 142 [(0, .ref (ad 56)), (1, .int x1), (2, .int v1)] []
                    exact J142 M28 hf
                  have Lq29 : (up2 fun (v22 : Int32) (M23 : Mem) => Wk p l e (headSpec wsX7_happen rmX7_happen).room s m args below meth c D cI cZ ad A 5 0 0 (QV below D cI cZ ad A args s M') M23 116 [(0, .ref (ad 56)), (1, .int x1), (2, .int v1), (3, .int v13), (4, .int v22)] []) ((0 : Int32), M21) := by
                    refine loop_P (C := (up1 fun (M28 : Mem) => Wk p l e (headSpec wsX7_happen rmX7_happen).room s m args below meth c D cI cZ ad A 5 0 0 (QV below D cI cZ ad A args s M') M28 142 [(0, .ref (ad 56)), (1, .int x1), (2, .int v1)] [])) ?_ fu ((0 : Int32), M21) q29 q30 Cq29
                    clear hf Cq29 q30
                    rintro ⟨v22, M23⟩ o hf hI hE
                    replace hf := un2_of hf
                    show Wk p l e (headSpec wsX7_happen rmX7_happen).room s m args below meth c D cI cZ ad A 5 0 0 (QV below D cI cZ ad A args s M') M23 116 [(0, .ref (ad 56)), (1, .int x1), (2, .int v1), (3, .int v13), (4, .int v22)] []
                    refine wk_iload G 4 dX7_happen_116 rfl ?_
                    refine wk_bipush (v := (7 : Int32)) G dX7_happen_118 (by decide) ?_
                    refine wk_icmp_ge (tgt := 142) G dX7_happen_120 (by decide) (fun c24 => ?_) (fun c24 => ?_)
                    · replace hf := it_t c24 hf
                      refine wk_sub [0, 1, 2] rfl ?_
                      exact hE _ (Option.some.inj hf).symm
                    · replace hf := it_f c24 hf
                      refine wk_aload_n G 0 dX7_happen_123 rfl rfl ?_
                      refine wk_get (ci := 7) (v := .ref (ad 84)) G iX7_happen_X7 56 (by decide) (ck56 cI cZ ad (M23 56)) rfl 30 (Nat.le_of_ble_eq_true rfl) kX7_happen_92 rfl dX7_happen_124 ?_
                      refine wk_bipush (v := (7 : Int32)) G dX7_happen_127 (by decide) ?_
                      refine wk_iload_n G 3 dX7_happen_129 rfl rfl ?_
                      refine wk_imul G dX7_happen_130 ?_
                      refine wk_iload G 4 dX7_happen_131 rfl ?_
                      refine wk_iadd G dX7_happen_133 ?_
                      refine wk_iconst (v := (0 : Int32)) G dX7_happen_134 (by decide) ?_
                      obtain ⟨h25, hf⟩ := gd_of hf
                      obtain ⟨M26, eM26, hf⟩ := nm_ex hf
                      refine wk_iast G 84 (by decide) (ck84 cI cZ ad) h25 dX7_happen_135 eM26 ?_
                      obtain ⟨v27, ev27, hf⟩ := nm_ex hf
                      refine wk_iinc (v := v27) (lv' := [(4, .int v27), (0, .ref (ad 56)), (1, .int x1), (2, .int v1), (3, .int v13)]) G 4 dX7_happen_136 rfl (by rw [ev27]; rfl) (by decide) rfl ?_
                      refine wk_goto (tgt := 116) G dX7_happen_139 (by decide) ?_
                      refine wk_sub [1, 2, 3, 4, 0] rfl ?_
                      exact hI _ (Option.some.inj hf).symm
                  exact Lq29
              · replace hf := it_t c17 hf
                refine wk_aload_n G 1 dX7_happen_87 rfl rfl ?_
                refine wk_get (ci := 7) (v := .ref (ad 85)) G iX7_happen_X7 56 (by decide) (ck56 cI cZ ad (M2 56)) rfl 31 (Nat.le_of_ble_eq_true rfl) kX7_happen_95 rfl dX7_happen_88 ?_
                refine wk_iload_n G 0 dX7_happen_91 rfl rfl ?_
                refine wk_iconst (v := (1 : Int32)) G dX7_happen_92 (by decide) ?_
                obtain ⟨h31, hf⟩ := gd_of hf
                obtain ⟨M32, eM32, hf⟩ := nm_ex hf
                refine wk_zast G 85 (by decide) (ck85 cI cZ ad) h31 dX7_happen_93 eM32 ?_
                refine wk_goto (tgt := 142) G dX7_happen_94 (by decide) ?_
                refine wk_sub [1, 2, 3] rfl ?_
                exact J142 M32 hf
            · replace hf := it_f c15 hf
              refine wk_aload_n G 1 dX7_happen_56 rfl rfl ?_
              refine wk_aload_n G 1 dX7_happen_57 rfl rfl ?_
              refine wk_get (ci := 7) (v := .ref (ad 60)) G iX7_happen_X7 56 (by decide) (ck56 cI cZ ad (M2 56)) rfl 5 (Nat.le_of_ble_eq_true rfl) kX7_happen_19 rfl dX7_happen_58 ?_
              refine wk_iload_n G 3 dX7_happen_61 rfl rfl ?_
              obtain ⟨h33, hf⟩ := gd_of hf
              refine wk_iald G 60 (by decide) (ck60 cI cZ ad) h33 dX7_happen_62 ?_
              obtain ⟨j71, ej71, hf⟩ := nm_ex hf
              have J71 : ∀ (v34 : Int32), j71 v34 = some o → Wk p l e (headSpec wsX7_happen rmX7_happen).room s m args below meth c D cI cZ ad A 5 0 0 (QV below D cI cZ ad A args s M') M2 71 [(0, .ref (ad 56)), (1, .int x1), (2, .int v1)] [.int v34, .ref (ad 56)] := by
                intro v34 hf
                replace hf := jn1 ej71 hf
                obtain ⟨M35, eM35, hf⟩ := nm_ex hf
                refine wk_put (ci := 7) G iX7_happen_X7 tyX7 tyX7_ok nmX7 56 (by decide) (ck56 cI cZ ad (M2 56)) rfl 33 (Nat.le_of_ble_eq_true rfl) kX7_happen_124 rfl (by decide +kernel) (Nat.le_of_ble_eq_true rfl) (cp56_33 cI cZ ad (M2 56) v34) dX7_happen_71 eM35 ?_
                refine wk_goto (tgt := 142) G dX7_happen_74 (by decide) ?_
                exact J142 M35 hf
              refine wk_if_ne (tgt := 70) G dX7_happen_63 (by decide) (fun c36 => ?_) (fun c36 => ?_)
              · replace hf := it_f c36 hf
                refine wk_iconst (v := (0 : Int32)) G dX7_happen_70 (by decide) ?_
                refine wk_sub [1, 2, 3] rfl ?_
                exact J71 (0 : Int32) hf
              · replace hf := it_t c36 hf
                refine wk_iload_n G 0 dX7_happen_66 rfl rfl ?_
                refine wk_goto (tgt := 71) G dX7_happen_67 (by decide) ?_
                refine wk_sub [1, 2, 3] rfl ?_
                exact J71 v13 hf
  exact Lq38
def fX7_come (x1 : Int32) (x2 : Int32) (x3 : Int32) (M : Mem) : Option Mem := gd x2 2400 (nm ((M 75 (Int32.toNatClampNeg x2))) fun (v2 : Int32) => gd v2 7 (nm (fun (u4 : Unit) => gd x1 2 (gd x1 2 (nm (st M 69 (Int32.toNatClampNeg x1) ((M 69 (Int32.toNatClampNeg x1)) + x3)) fun (M7 : Mem) => some M7))) fun j33 => if (M 85 (Int32.toNatClampNeg v2)) = 0 then (gd x2 2400 ((fX7_isTogether v2 (M 74 (Int32.toNatClampNeg x2)) M).bind (fun (r10 : Int32) => if r10 = 0 then (j33 ()) else (gd x1 2 (gd x1 2 (nm (st M 68 (Int32.toNatClampNeg x1) ((M 68 (Int32.toNatClampNeg x1)) + x3)) fun (M15 : Mem) => gd x2 2400 (gd x2 2400 (nm (st M15 80 (Int32.toNatClampNeg x2) ((M15 80 (Int32.toNatClampNeg x2)) + x3)) fun (M18 : Mem) => gd x2 2400 (nm ((((7 : Int32) * v2) + (M18 74 (Int32.toNatClampNeg x2)))) fun (v20 : Int32) => gd x2 2400 (gd v20 49 (nm (fun (v23 : Int32) => gd v20 49 (nm (st M18 84 (Int32.toNatClampNeg v20) v23) fun (M25 : Mem) => gd v2 7 (gd x2 2400 (gd v2 7 (nm (st M25 83 (Int32.toNatClampNeg v2) ((M25 83 (Int32.toNatClampNeg v2)) ||| (M25 78 (Int32.toNatClampNeg x2)))) fun (M29 : Mem) => some M29))))) fun j116 => if (M18 77 (Int32.toNatClampNeg x2)) ≤ (M18 84 (Int32.toNatClampNeg v20)) then (gd v20 49 (j116 (M18 84 (Int32.toNatClampNeg v20)))) else (gd x2 2400 (j116 (M18 77 (Int32.toNatClampNeg x2))))))))))))))) else (j33 ())))
theorem iX7_come_X7 : ∀ w ∈ wsX70, w ∈ wsX7_come := by decide +kernel
theorem kX7_come_44 : Cond.fieldLink RX7 44 "PartitionPlayModel" "taken" "[I" ∈ wsX7_come := by decide +kernel
theorem kX7_come_47 : Cond.fieldLink RX7 47 "PartitionPlayModel" "gone" "[I" ∈ wsX7_come := by decide +kernel
theorem kX7_come_62 : Cond.fieldLink RX7 62 "PartitionPlayModel" "from" "[I" ∈ wsX7_come := by decide +kernel
theorem kX7_come_65 : Cond.fieldLink RX7 65 "PartitionPlayModel" "to" "[I" ∈ wsX7_come := by decide +kernel
theorem kX7_come_71 : Cond.fieldLink RX7 71 "PartitionPlayModel" "height" "[I" ∈ wsX7_come := by decide +kernel
theorem kX7_come_74 : Cond.fieldLink RX7 74 "PartitionPlayModel" "carried" "[I" ∈ wsX7_come := by decide +kernel
theorem kX7_come_80 : Cond.fieldLink RX7 80 "PartitionPlayModel" "often" "[I" ∈ wsX7_come := by decide +kernel
theorem kX7_come_89 : Cond.fieldLink RX7 89 "PartitionPlayModel" "knows" "[I" ∈ wsX7_come := by decide +kernel
theorem kX7_come_92 : Cond.fieldLink RX7 92 "PartitionPlayModel" "shown" "[I" ∈ wsX7_come := by decide +kernel
theorem kX7_come_95 : Cond.fieldLink RX7 95 "PartitionPlayModel" "isDown" "[Z" ∈ wsX7_come := by decide +kernel
abbrev rmX7_come : Room := { frames := 1, cells := 0, slots := 0, locals := 22 }
set_option maxRecDepth 100000 in
set_option maxHeartbeats 4000000 in
theorem c_X7_come (l : Launch) (D : va_G) (cI cZ : ClassId) (ad : Nat → Nat) (x1 : Int32) (x2 : Int32) (x3 : Int32) (M : Mem) (M' : Mem) (hf : fX7_come x1 x2 x3 M = some M') : MetV l yX7_come wsX7_come rmX7_come D cI cZ ad [.ref (ad 56), .int x1, .int x2, .int x3] M M' := by
  refine met_v (cc := cX7_come) (nL := 6) (ret := none) (own := RX7) (by decide) rfl rfl (Nat.le_of_ble_eq_true rfl) ?_
  intro p e s m args below meth c A G hr hlocks
  unfold fX7_come at hf
  show Wk p l e (headSpec wsX7_come rmX7_come).room s m args below meth c D cI cZ ad A 6 0 0 (QV below D cI cZ ad A args s M') M 0 [(0, .ref (ad 56)), (1, .int x1), (2, .int x2), (3, .int x3)] []
  refine wk_aload_n G 0 dX7_come_0 rfl rfl ?_
  refine wk_get (ci := 7) (v := .ref (ad 75)) G iX7_come_X7 56 (by decide) (ck56 cI cZ ad (M 56)) rfl 21 (Nat.le_of_ble_eq_true rfl) kX7_come_65 rfl dX7_come_1 ?_
  refine wk_iload_n G 2 dX7_come_4 rfl rfl ?_
  obtain ⟨h1, hf⟩ := gd_of hf
  refine wk_iald G 75 (by decide) (ck75 cI cZ ad) h1 dX7_come_5 ?_
  obtain ⟨v2, ev2, hf⟩ := nm_ex hf
  refine wk_nme ev2 ?_
  refine wk_istore (lv' := [(4, .int v2), (0, .ref (ad 56)), (1, .int x1), (2, .int x2), (3, .int x3)]) G dX7_come_6 (by decide) rfl ?_
  refine wk_aload_n G 1 dX7_come_8 rfl rfl ?_
  refine wk_get (ci := 7) (v := .ref (ad 85)) G iX7_come_X7 56 (by decide) (ck56 cI cZ ad (M 56)) rfl 31 (Nat.le_of_ble_eq_true rfl) kX7_come_95 rfl dX7_come_9 ?_
  refine wk_iload G 0 dX7_come_12 rfl ?_
  obtain ⟨h3, hf⟩ := gd_of hf
  refine wk_zald G 85 (by decide) (ck85 cI cZ ad) h3 dX7_come_14 ?_
  obtain ⟨j33, ej33, hf⟩ := nm_ex hf
  have J33 : ∀ (u4 : Unit), j33 u4 = some M' → Wk p l e (headSpec wsX7_come rmX7_come).room s m args below meth c D cI cZ ad A 6 0 0 (QV below D cI cZ ad A args s M') M 33 [(0, .ref (ad 56)), (1, .int x1), (3, .int x3)] [] := by
    intro u4 hf
    replace hf := jn1 ej33 hf
    refine wk_aload_n G 0 dX7_come_33 rfl rfl ?_
    refine wk_get (ci := 7) (v := .ref (ad 69)) G iX7_come_X7 56 (by decide) (ck56 cI cZ ad (M 56)) rfl 15 (Nat.le_of_ble_eq_true rfl) kX7_come_47 rfl dX7_come_34 ?_
    refine wk_iload_n G 1 dX7_come_37 rfl rfl ?_
    refine wk_dup2 G dX7_come_38 rfl rfl ?_
    obtain ⟨h5, hf⟩ := gd_of hf
    refine wk_iald G 69 (by decide) (ck69 cI cZ ad) h5 dX7_come_39 ?_
    refine wk_iload_n G 2 dX7_come_40 rfl rfl ?_
    refine wk_iadd G dX7_come_41 ?_
    obtain ⟨h6, hf⟩ := gd_of hf
    obtain ⟨M7, eM7, hf⟩ := nm_ex hf
    refine wk_iast G 69 (by decide) (ck69 cI cZ ad) h6 dX7_come_42 eM7 ?_
    exact wk_rv G hr hlocks dX7_come_43 (Option.some.inj hf)
  refine wk_if_ne (tgt := 33) G dX7_come_15 (by decide) (fun c8 => ?_) (fun c8 => ?_)
  · replace hf := it_f c8 hf
    refine wk_sub [1, 2, 4] rfl ?_
    exact J33 () hf
  · replace hf := it_t c8 hf
    refine wk_aload_n G 1 dX7_come_18 rfl rfl ?_
    refine wk_iload G 0 dX7_come_19 rfl ?_
    refine wk_aload_n G 1 dX7_come_21 rfl rfl ?_
    refine wk_get (ci := 7) (v := .ref (ad 74)) G iX7_come_X7 56 (by decide) (ck56 cI cZ ad (M 56)) rfl 20 (Nat.le_of_ble_eq_true rfl) kX7_come_62 rfl dX7_come_22 ?_
    refine wk_iload_n G 3 dX7_come_25 rfl rfl ?_
    obtain ⟨h9, hf⟩ := gd_of hf
    refine wk_iald G 74 (by decide) (ck74 cI cZ ad) h9 dX7_come_26 ?_
    obtain ⟨r10, q11, hf⟩ := bd_of hf
    refine wk_callVi (As := [.int v2, .int (M 74 (Int32.toNatClampNeg x2))]) (rest := []) (ci := 7) G 56 (by decide) (c_X7_isTogether l D cI cZ ad v2 (M 74 (Int32.toNatClampNeg x2)) M r10 q11) (cwV 2 G.2.2.2.2.1 gX7_come_X7_isTogether rfl rfl rfl (by decide +kernel) ⟨Nat.le_of_ble_eq_true rfl, Nat.le_of_ble_eq_true rfl⟩) (ck56 cI cZ ad (M 56)) rfl rfl rfl (Nat.le_of_ble_eq_true rfl) dX7_come_27 ⟨Nat.le_of_ble_eq_true rfl, Nat.le_of_ble_eq_true rfl⟩ ?_
    refine wk_if_ne (tgt := 44) G dX7_come_30 (by decide) (fun c12 => ?_) (fun c12 => ?_)
    · replace hf := it_f c12 hf
      refine wk_aload_n G 1 dX7_come_44 rfl rfl ?_
      refine wk_get (ci := 7) (v := .ref (ad 68)) G iX7_come_X7 56 (by decide) (ck56 cI cZ ad (M 56)) rfl 14 (Nat.le_of_ble_eq_true rfl) kX7_come_44 rfl dX7_come_45 ?_
      refine wk_iload_n G 2 dX7_come_48 rfl rfl ?_
      refine wk_dup2 G dX7_come_49 rfl rfl ?_
      obtain ⟨h13, hf⟩ := gd_of hf
      refine wk_iald G 68 (by decide) (ck68 cI cZ ad) h13 dX7_come_50 ?_
      refine wk_iload_n G 4 dX7_come_51 rfl rfl ?_
      refine wk_iadd G dX7_come_52 ?_
      obtain ⟨h14, hf⟩ := gd_of hf
      obtain ⟨M15, eM15, hf⟩ := nm_ex hf
      refine wk_iast G 68 (by decide) (ck68 cI cZ ad) h14 dX7_come_53 eM15 ?_
      refine wk_aload_n G 1 dX7_come_54 rfl rfl ?_
      refine wk_get (ci := 7) (v := .ref (ad 80)) G iX7_come_X7 56 (by decide) (ck56 cI cZ ad (M15 56)) rfl 26 (Nat.le_of_ble_eq_true rfl) kX7_come_80 rfl dX7_come_55 ?_
      refine wk_iload_n G 3 dX7_come_58 rfl rfl ?_
      refine wk_dup2 G dX7_come_59 rfl rfl ?_
      obtain ⟨h16, hf⟩ := gd_of hf
      refine wk_iald G 80 (by decide) (ck80 cI cZ ad) h16 dX7_come_60 ?_
      refine wk_iload_n G 4 dX7_come_61 rfl rfl ?_
      refine wk_iadd G dX7_come_62 ?_
      obtain ⟨h17, hf⟩ := gd_of hf
      obtain ⟨M18, eM18, hf⟩ := nm_ex hf
      refine wk_iast G 80 (by decide) (ck80 cI cZ ad) h17 dX7_come_63 eM18 ?_
      refine wk_bipush (v := (7 : Int32)) G dX7_come_64 (by decide) ?_
      refine wk_iload G 0 dX7_come_66 rfl ?_
      refine wk_imul G dX7_come_68 ?_
      refine wk_aload_n G 1 dX7_come_69 rfl rfl ?_
      refine wk_get (ci := 7) (v := .ref (ad 74)) G iX7_come_X7 56 (by decide) (ck56 cI cZ ad (M18 56)) rfl 20 (Nat.le_of_ble_eq_true rfl) kX7_come_62 rfl dX7_come_70 ?_
      refine wk_iload_n G 3 dX7_come_73 rfl rfl ?_
      obtain ⟨h19, hf⟩ := gd_of hf
      refine wk_iald G 74 (by decide) (ck74 cI cZ ad) h19 dX7_come_74 ?_
      refine wk_iadd G dX7_come_75 ?_
      obtain ⟨v20, ev20, hf⟩ := nm_ex hf
      refine wk_nme ev20 ?_
      refine wk_istore (lv' := [(5, .int v20), (4, .int v2), (0, .ref (ad 56)), (1, .int x1), (2, .int x2), (3, .int x3)]) G dX7_come_76 (by decide) rfl ?_
      refine wk_aload_n G 2 dX7_come_78 rfl rfl ?_
      refine wk_get (ci := 7) (v := .ref (ad 84)) G iX7_come_X7 56 (by decide) (ck56 cI cZ ad (M18 56)) rfl 30 (Nat.le_of_ble_eq_true rfl) kX7_come_92 rfl dX7_come_79 ?_
      refine wk_iload G 0 dX7_come_82 rfl ?_
      refine wk_aload_n G 2 dX7_come_84 rfl rfl ?_
      refine wk_get (ci := 7) (v := .ref (ad 77)) G iX7_come_X7 56 (by decide) (ck56 cI cZ ad (M18 56)) rfl 23 (Nat.le_of_ble_eq_true rfl) kX7_come_71 rfl dX7_come_85 ?_
      refine wk_iload_n G 4 dX7_come_88 rfl rfl ?_
      obtain ⟨h21, hf⟩ := gd_of hf
      refine wk_iald G 77 (by decide) (ck77 cI cZ ad) h21 dX7_come_89 ?_
      refine wk_aload_n G 2 dX7_come_90 rfl rfl ?_
      refine wk_get (ci := 7) (v := .ref (ad 84)) G iX7_come_X7 56 (by decide) (ck56 cI cZ ad (M18 56)) rfl 30 (Nat.le_of_ble_eq_true rfl) kX7_come_92 rfl dX7_come_91 ?_
      refine wk_iload G 0 dX7_come_94 rfl ?_
      obtain ⟨h22, hf⟩ := gd_of hf
      refine wk_iald G 84 (by decide) (ck84 cI cZ ad) h22 dX7_come_96 ?_
      obtain ⟨j116, ej116, hf⟩ := nm_ex hf
      have J116 : ∀ (v23 : Int32), j116 v23 = some M' → Wk p l e (headSpec wsX7_come rmX7_come).room s m args below meth c D cI cZ ad A 6 0 0 (QV below D cI cZ ad A args s M') M18 116 [(0, .ref (ad 56)), (2, .int x2), (4, .int v2)] [.int v23, .int v20, .ref (ad 84)] := by
        intro v23 hf
        replace hf := jn1 ej116 hf
        obtain ⟨h24, hf⟩ := gd_of hf
        obtain ⟨M25, eM25, hf⟩ := nm_ex hf
        refine wk_iast G 84 (by decide) (ck84 cI cZ ad) h24 dX7_come_116 eM25 ?_
        refine wk_aload_n G 0 dX7_come_117 rfl rfl ?_
        refine wk_get (ci := 7) (v := .ref (ad 83)) G iX7_come_X7 56 (by decide) (ck56 cI cZ ad (M25 56)) rfl 29 (Nat.le_of_ble_eq_true rfl) kX7_come_89 rfl dX7_come_118 ?_
        refine wk_iload G 2 dX7_come_121 rfl ?_
        refine wk_dup2 G dX7_come_123 rfl rfl ?_
        obtain ⟨h26, hf⟩ := gd_of hf
        refine wk_iald G 83 (by decide) (ck83 cI cZ ad) h26 dX7_come_124 ?_
        refine wk_aload_n G 0 dX7_come_125 rfl rfl ?_
        refine wk_get (ci := 7) (v := .ref (ad 78)) G iX7_come_X7 56 (by decide) (ck56 cI cZ ad (M25 56)) rfl 24 (Nat.le_of_ble_eq_true rfl) kX7_come_74 rfl dX7_come_126 ?_
        refine wk_iload_n G 1 dX7_come_129 rfl rfl ?_
        obtain ⟨h27, hf⟩ := gd_of hf
        refine wk_iald G 78 (by decide) (ck78 cI cZ ad) h27 dX7_come_130 ?_
        refine wk_ior G dX7_come_131 ?_
        obtain ⟨h28, hf⟩ := gd_of hf
        obtain ⟨M29, eM29, hf⟩ := nm_ex hf
        refine wk_iast G 83 (by decide) (ck83 cI cZ ad) h28 dX7_come_132 eM29 ?_
        exact wk_rv G hr hlocks dX7_come_133 (Option.some.inj hf)
      refine wk_icmp_le (tgt := 109) G dX7_come_97 (by decide) (fun c30 => ?_) (fun c30 => ?_)
      · replace hf := it_t c30 hf
        refine wk_aload_n G 2 dX7_come_109 rfl rfl ?_
        refine wk_get (ci := 7) (v := .ref (ad 84)) G iX7_come_X7 56 (by decide) (ck56 cI cZ ad (M18 56)) rfl 30 (Nat.le_of_ble_eq_true rfl) kX7_come_92 rfl dX7_come_110 ?_
        refine wk_iload G 0 dX7_come_113 rfl ?_
        obtain ⟨h31, hf⟩ := gd_of hf
        refine wk_iald G 84 (by decide) (ck84 cI cZ ad) h31 dX7_come_115 ?_
        refine wk_sub [2, 4, 1] rfl ?_
        exact J116 (M18 84 (Int32.toNatClampNeg v20)) hf
      · replace hf := it_f c30 hf
        refine wk_aload_n G 2 dX7_come_100 rfl rfl ?_
        refine wk_get (ci := 7) (v := .ref (ad 77)) G iX7_come_X7 56 (by decide) (ck56 cI cZ ad (M18 56)) rfl 23 (Nat.le_of_ble_eq_true rfl) kX7_come_71 rfl dX7_come_101 ?_
        refine wk_iload_n G 4 dX7_come_104 rfl rfl ?_
        obtain ⟨h32, hf⟩ := gd_of hf
        refine wk_iald G 77 (by decide) (ck77 cI cZ ad) h32 dX7_come_105 ?_
        refine wk_goto (tgt := 116) G dX7_come_106 (by decide) ?_
        refine wk_sub [2, 4, 1] rfl ?_
        exact J116 (M18 77 (Int32.toNatClampNeg x2)) hf
    · replace hf := it_t c12 hf
      refine wk_sub [1, 2, 4] rfl ?_
      exact J33 () hf
def fX7_takeIn (x1 : Int32) (x2 : Int32) (M : Mem) : Option Mem := (loop fu (un2 fun (v1 : Int32) (M2 : Mem) => (gd x1 2 (if (M2 66 (Int32.toNatClampNeg x1)) ≤ v1 then (some (.inr M2)) else (nm ((((1200 : Int32) * x1) + v1)) fun (v5 : Int32) => gd v5 2400 (nm ((x2 - (M2 79 (Int32.toNatClampNeg v5)))) fun (v7 : Int32) => gd v5 2400 (nm (fun (M9 : Mem) => nm (v1 + (1 : Int32)) fun (v10 : Int32) => some (.inl (v10, M9))) fun j90 => if (M2 79 (Int32.toNatClampNeg v5)) < 0 then (j90 M2) else ((fX7_in v7 (0 : Int32) (5 : Int32)).bind (fun (r12 : Int32) => if r12 = 0 then (j90 M2) else (nm (fun (v15 : Int32) => if v15 ≤ 0 then (j90 M2) else ((fX7_come x1 v5 v15 M2).bind (fun (M17 : Mem) => j90 M17))) fun j74 => if v7 = 0 then (j74 (1 : Int32)) else (gd (((6 : Int32) * v5) + v7) 14400 (j74 (M2 81 (Int32.toNatClampNeg (((6 : Int32) * v5) + v7)))))))))))) : Option ((Int32 × Mem) ⊕ (Mem)))) ((0 : Int32), M)).bind (un1 fun (M21 : Mem) => some M21)
theorem iX7_takeIn_X7 : ∀ w ∈ wsX70, w ∈ wsX7_takeIn := by decide +kernel
theorem kX7_takeIn_38 : Cond.fieldLink RX7 38 "PartitionPlayModel" "letters" "[I" ∈ wsX7_takeIn := by decide +kernel
theorem kX7_takeIn_77 : Cond.fieldLink RX7 77 "PartitionPlayModel" "comes" "[I" ∈ wsX7_takeIn := by decide +kernel
theorem kX7_takeIn_83 : Cond.fieldLink RX7 83 "PartitionPlayModel" "doubles" "[I" ∈ wsX7_takeIn := by decide +kernel
abbrev rmX7_takeIn : Room := { frames := 2, cells := 0, slots := 0, locals := 47 }
set_option maxRecDepth 100000 in
set_option maxHeartbeats 4000000 in
theorem c_X7_takeIn (l : Launch) (D : va_G) (cI cZ : ClassId) (ad : Nat → Nat) (x1 : Int32) (x2 : Int32) (M : Mem) (M' : Mem) (hf : fX7_takeIn x1 x2 M = some M') : MetV l yX7_takeIn wsX7_takeIn rmX7_takeIn D cI cZ ad [.ref (ad 56), .int x1, .int x2] M M' := by
  refine met_v (cc := cX7_takeIn) (nL := 7) (ret := none) (own := RX7) (by decide) rfl rfl (Nat.le_of_ble_eq_true rfl) ?_
  intro p e s m args below meth c A G hr hlocks
  unfold fX7_takeIn at hf
  show Wk p l e (headSpec wsX7_takeIn rmX7_takeIn).room s m args below meth c D cI cZ ad A 7 0 0 (QV below D cI cZ ad A args s M') M 0 [(0, .ref (ad 56)), (1, .int x1), (2, .int x2)] []
  refine wk_iconst (v := (0 : Int32)) G dX7_takeIn_0 (by decide) ?_
  refine wk_istore_n (lv' := [(3, .int (0 : Int32)), (0, .ref (ad 56)), (1, .int x1), (2, .int x2)]) G dX7_takeIn_1 rfl (by decide) rfl ?_
  refine wk_sub [1, 2, 3, 0] rfl ?_
  obtain ⟨q22, q23, hf⟩ := bd_of hf
  have Cq22 : (up1 fun (M21 : Mem) => Wk p l e (headSpec wsX7_takeIn rmX7_takeIn).room s m args below meth c D cI cZ ad A 7 0 0 (QV below D cI cZ ad A args s M') M21 96 [] []) q22 := by
    obtain ⟨M21, rfl⟩ : ∃ z, z = q22 := ⟨_, rfl⟩
    replace hf := un1_of hf
    show Wk p l e (headSpec wsX7_takeIn rmX7_takeIn).room s m args below meth c D cI cZ ad A 7 0 0 (QV below D cI cZ ad A args s M') M21 96 [] []
    exact wk_rv G hr hlocks dX7_takeIn_96 (Option.some.inj hf)
  have Lq22 : (up2 fun (v1 : Int32) (M2 : Mem) => Wk p l e (headSpec wsX7_takeIn rmX7_takeIn).room s m args below meth c D cI cZ ad A 7 0 0 (QV below D cI cZ ad A args s M') M2 2 [(0, .ref (ad 56)), (1, .int x1), (2, .int x2), (3, .int v1)] []) ((0 : Int32), M) := by
    refine loop_P (C := (up1 fun (M21 : Mem) => Wk p l e (headSpec wsX7_takeIn rmX7_takeIn).room s m args below meth c D cI cZ ad A 7 0 0 (QV below D cI cZ ad A args s M') M21 96 [] [])) ?_ fu ((0 : Int32), M) q22 q23 Cq22
    clear hf Cq22 q23
    rintro ⟨v1, M2⟩ o hf hI hE
    replace hf := un2_of hf
    show Wk p l e (headSpec wsX7_takeIn rmX7_takeIn).room s m args below meth c D cI cZ ad A 7 0 0 (QV below D cI cZ ad A args s M') M2 2 [(0, .ref (ad 56)), (1, .int x1), (2, .int x2), (3, .int v1)] []
    refine wk_iload_n G 3 dX7_takeIn_2 rfl rfl ?_
    refine wk_aload_n G 0 dX7_takeIn_3 rfl rfl ?_
    refine wk_get (ci := 7) (v := .ref (ad 66)) G iX7_takeIn_X7 56 (by decide) (ck56 cI cZ ad (M2 56)) rfl 12 (Nat.le_of_ble_eq_true rfl) kX7_takeIn_38 rfl dX7_takeIn_4 ?_
    refine wk_iload_n G 1 dX7_takeIn_7 rfl rfl ?_
    obtain ⟨h3, hf⟩ := gd_of hf
    refine wk_iald G 66 (by decide) (ck66 cI cZ ad) h3 dX7_takeIn_8 ?_
    refine wk_icmp_ge (tgt := 96) G dX7_takeIn_9 (by decide) (fun c4 => ?_) (fun c4 => ?_)
    · replace hf := it_t c4 hf
      refine wk_sub [] rfl ?_
      exact hE _ (Option.some.inj hf).symm
    · replace hf := it_f c4 hf
      refine wk_sipush (v := (1200 : Int32)) G dX7_takeIn_12 (by decide) ?_
      refine wk_iload_n G 1 dX7_takeIn_15 rfl rfl ?_
      refine wk_imul G dX7_takeIn_16 ?_
      refine wk_iload_n G 3 dX7_takeIn_17 rfl rfl ?_
      refine wk_iadd G dX7_takeIn_18 ?_
      obtain ⟨v5, ev5, hf⟩ := nm_ex hf
      refine wk_nme ev5 ?_
      refine wk_istore (lv' := [(4, .int v5), (0, .ref (ad 56)), (1, .int x1), (2, .int x2), (3, .int v1)]) G dX7_takeIn_19 (by decide) rfl ?_
      refine wk_iload_n G 3 dX7_takeIn_21 rfl rfl ?_
      refine wk_aload_n G 1 dX7_takeIn_22 rfl rfl ?_
      refine wk_get (ci := 7) (v := .ref (ad 79)) G iX7_takeIn_X7 56 (by decide) (ck56 cI cZ ad (M2 56)) rfl 25 (Nat.le_of_ble_eq_true rfl) kX7_takeIn_77 rfl dX7_takeIn_23 ?_
      refine wk_iload G 0 dX7_takeIn_26 rfl ?_
      obtain ⟨h6, hf⟩ := gd_of hf
      refine wk_iald G 79 (by decide) (ck79 cI cZ ad) h6 dX7_takeIn_28 ?_
      refine wk_isub G dX7_takeIn_29 ?_
      obtain ⟨v7, ev7, hf⟩ := nm_ex hf
      refine wk_nme ev7 ?_
      refine wk_istore (lv' := [(5, .int v7), (4, .int v5), (0, .ref (ad 56)), (1, .int x1), (2, .int x2), (3, .int v1)]) G dX7_takeIn_30 (by decide) rfl ?_
      refine wk_aload_n G 2 dX7_takeIn_32 rfl rfl ?_
      refine wk_get (ci := 7) (v := .ref (ad 79)) G iX7_takeIn_X7 56 (by decide) (ck56 cI cZ ad (M2 56)) rfl 25 (Nat.le_of_ble_eq_true rfl) kX7_takeIn_77 rfl dX7_takeIn_33 ?_
      refine wk_iload G 1 dX7_takeIn_36 rfl ?_
      obtain ⟨h8, hf⟩ := gd_of hf
      refine wk_iald G 79 (by decide) (ck79 cI cZ ad) h8 dX7_takeIn_38 ?_
      obtain ⟨j90, ej90, hf⟩ := nm_ex hf
      have J90 : ∀ (M9 : Mem), j90 M9 = some o → Wk p l e (headSpec wsX7_takeIn rmX7_takeIn).room s m args below meth c D cI cZ ad A 7 0 0 (QV below D cI cZ ad A args s M') M9 90 [(0, .ref (ad 56)), (1, .int x1), (2, .int x2), (3, .int v1)] [] := by
        intro M9 hf
        replace hf := jn1 ej90 hf
        obtain ⟨v10, ev10, hf⟩ := nm_ex hf
        refine wk_iinc (v := v10) (lv' := [(3, .int v10), (0, .ref (ad 56)), (1, .int x1), (2, .int x2)]) G 3 dX7_takeIn_90 rfl (by rw [ev10]; rfl) (by decide) rfl ?_
        refine wk_goto (tgt := 2) G dX7_takeIn_93 (by decide) ?_
        refine wk_sub [1, 2, 3, 0] rfl ?_
        exact hI _ (Option.some.inj hf).symm
      refine wk_if_lt (tgt := 90) G dX7_takeIn_39 (by decide) (fun c11 => ?_) (fun c11 => ?_)
      · replace hf := it_t c11 hf
        refine wk_sub [2, 3, 4, 5] rfl ?_
        exact J90 M2 hf
      · replace hf := it_f c11 hf
        refine wk_iload G 0 dX7_takeIn_42 rfl ?_
        refine wk_iconst (v := (0 : Int32)) G dX7_takeIn_44 (by decide) ?_
        refine wk_iconst (v := (5 : Int32)) G dX7_takeIn_45 (by decide) ?_
        obtain ⟨r12, q13, hf⟩ := bd_of hf
        refine wk_callSi (As := [.int v7, .int (0 : Int32), .int (5 : Int32)]) (rest := []) G (c_X7_in l D cI cZ ad v7 (0 : Int32) (5 : Int32) M2 r12 q13) (va_cwS 3 G.2.2.2.2.1 gX7_takeIn_X7_in rfl rfl rfl (by decide +kernel) ⟨Nat.le_of_ble_eq_true rfl, Nat.le_of_ble_eq_true rfl⟩) rfl rfl (Nat.le_of_ble_eq_true rfl) dX7_takeIn_46 ⟨Nat.le_of_ble_eq_true rfl, Nat.le_of_ble_eq_true rfl⟩ ?_
        refine wk_if_eq (tgt := 90) G dX7_takeIn_49 (by decide) (fun c14 => ?_) (fun c14 => ?_)
        · replace hf := it_t c14 hf
          refine wk_sub [2, 3, 4, 5] rfl ?_
          exact J90 M2 hf
        · replace hf := it_f c14 hf
          refine wk_iload G 0 dX7_takeIn_52 rfl ?_
          obtain ⟨j74, ej74, hf⟩ := nm_ex hf
          have J74 : ∀ (v15 : Int32), j74 v15 = some o → Wk p l e (headSpec wsX7_takeIn rmX7_takeIn).room s m args below meth c D cI cZ ad A 7 0 0 (QV below D cI cZ ad A args s M') M2 74 [(0, .ref (ad 56)), (1, .int x1), (2, .int x2), (3, .int v1), (4, .int v5)] [.int v15] := by
            intro v15 hf
            replace hf := jn1 ej74 hf
            refine wk_istore (lv' := [(6, .int v15), (0, .ref (ad 56)), (1, .int x1), (2, .int x2), (3, .int v1), (4, .int v5)]) G dX7_takeIn_74 (by decide) rfl ?_
            refine wk_iload G 0 dX7_takeIn_76 rfl ?_
            refine wk_if_le (tgt := 90) G dX7_takeIn_78 (by decide) (fun c16 => ?_) (fun c16 => ?_)
            · replace hf := it_t c16 hf
              refine wk_sub [1, 2, 3, 4] rfl ?_
              exact J90 M2 hf
            · replace hf := it_f c16 hf
              refine wk_aload_n G 1 dX7_takeIn_81 rfl rfl ?_
              refine wk_iload_n G 2 dX7_takeIn_82 rfl rfl ?_
              refine wk_iload G 5 dX7_takeIn_83 rfl ?_
              refine wk_iload G 0 dX7_takeIn_85 rfl ?_
              obtain ⟨M17, q18, hf⟩ := bd_of hf
              refine wk_callVv (As := [.int x1, .int v5, .int v15]) (rest := []) (ci := 7) G 56 (by decide) (c_X7_come l D cI cZ ad x1 v5 v15 M2 M17 q18) (cwV 3 G.2.2.2.2.1 gX7_takeIn_X7_come rfl rfl rfl (by decide +kernel) ⟨Nat.le_of_ble_eq_true rfl, Nat.le_of_ble_eq_true rfl⟩) (ck56 cI cZ ad (M2 56)) rfl rfl rfl (Nat.le_of_ble_eq_true rfl) dX7_takeIn_87 ⟨Nat.le_of_ble_eq_true rfl, Nat.le_of_ble_eq_true rfl⟩ ?_
              refine wk_sub [1, 2, 3, 4] rfl ?_
              exact J90 M17 hf
          refine wk_if_ne (tgt := 61) G dX7_takeIn_54 (by decide) (fun c19 => ?_) (fun c19 => ?_)
          · replace hf := it_f c19 hf
            refine wk_aload_n G 2 dX7_takeIn_61 rfl rfl ?_
            refine wk_get (ci := 7) (v := .ref (ad 81)) G iX7_takeIn_X7 56 (by decide) (ck56 cI cZ ad (M2 56)) rfl 27 (Nat.le_of_ble_eq_true rfl) kX7_takeIn_83 rfl dX7_takeIn_62 ?_
            refine wk_bipush (v := (6 : Int32)) G dX7_takeIn_65 (by decide) ?_
            refine wk_iload G 1 dX7_takeIn_67 rfl ?_
            refine wk_imul G dX7_takeIn_69 ?_
            refine wk_iload G 0 dX7_takeIn_70 rfl ?_
            refine wk_iadd G dX7_takeIn_72 ?_
            obtain ⟨h20, hf⟩ := gd_of hf
            refine wk_iald G 81 (by decide) (ck81 cI cZ ad) h20 dX7_takeIn_73 ?_
            refine wk_sub [2, 3, 4, 5, 1] rfl ?_
            exact J74 (M2 81 (Int32.toNatClampNeg (((6 : Int32) * v5) + v7))) hf
          · replace hf := it_t c19 hf
            refine wk_iconst (v := (1 : Int32)) G dX7_takeIn_57 (by decide) ?_
            refine wk_goto (tgt := 74) G dX7_takeIn_58 (by decide) ?_
            refine wk_sub [2, 3, 4, 5, 1] rfl ?_
            exact J74 (1 : Int32) hf
  exact Lq22
def fX7_grow (M : Mem) : Option Mem := (loop fu (un2 fun (v1 : Int32) (M2 : Mem) => (if (M2 56 0) ≤ v1 then (some (.inr M2)) else ((loop fu (un2 fun (v4 : Int32) (v5 : Int32) => (if (M2 56 0) ≤ v5 then (some (.inr v4)) else (nm (fun (v7 : Int32) => nm ((v4 + v7)) fun (v8 : Int32) => nm (v5 + (1 : Int32)) fun (v9 : Int32) => some (.inl (v8, v9))) fun j53 => nm (fun (u10 : Unit) => j53 (1 : Int32)) fun j48 => if v5 = v1 then (j48 ()) else (gd (((7 : Int32) * v1) + v5) 49 (gd v1 7 (if (M2 84 (Int32.toNatClampNeg (((7 : Int32) * v1) + v5))) < (M2 82 (Int32.toNatClampNeg v1)) then (j53 (0 : Int32)) else (j48 ()))))) : Option ((Int32 × Int32) ⊕ (Int32)))) ((0 : Int32), (0 : Int32))).bind (un1 fun (v15 : Int32) => gd v1 7 (nm (fun (v17 : Int32) => gd v1 7 (nm (st M2 86 (Int32.toNatClampNeg v1) (vp_nar .boolean v17)) fun (M19 : Mem) => gd v1 7 (gd v1 7 (nm (fun (v22 : Int32) => gd v1 7 (nm (st M19 82 (Int32.toNatClampNeg v1) ((M19 82 (Int32.toNatClampNeg v1)) + v22)) fun (M24 : Mem) => nm (v1 + (1 : Int32)) fun (v25 : Int32) => some (.inl (v25, M24)))) fun j112 => if (M19 86 (Int32.toNatClampNeg v1)) = 0 then (j112 (0 : Int32)) else (j112 (1 : Int32)))))) fun j90 => nm (fun (u27 : Unit) => j90 (0 : Int32)) fun j89 => if (M2 85 (Int32.toNatClampNeg v1)) = 0 then (if ((2 : Int32) * v15) ≤ (M2 56 0) then (j89 ()) else (j90 (1 : Int32))) else (j89 ())))) : Option ((Int32 × Mem) ⊕ (Mem)))) ((0 : Int32), M)).bind (un1 fun (M32 : Mem) => some M32)
theorem iX7_grow_X7 : ∀ w ∈ wsX70, w ∈ wsX7_grow := by decide +kernel
theorem kX7_grow_86 : Cond.fieldLink RX7 86 "PartitionPlayModel" "now" "[I" ∈ wsX7_grow := by decide +kernel
theorem kX7_grow_92 : Cond.fieldLink RX7 92 "PartitionPlayModel" "shown" "[I" ∈ wsX7_grow := by decide +kernel
theorem kX7_grow_95 : Cond.fieldLink RX7 95 "PartitionPlayModel" "isDown" "[Z" ∈ wsX7_grow := by decide +kernel
theorem kX7_grow_98 : Cond.fieldLink RX7 98 "PartitionPlayModel" "grew" "[Z" ∈ wsX7_grow := by decide +kernel
theorem kX7_grow_101 : Cond.fieldLink RX7 101 "PartitionPlayModel" "n" "I" ∈ wsX7_grow := by decide +kernel
abbrev rmX7_grow : Room := { frames := 0, cells := 0, slots := 0, locals := 0 }
set_option maxRecDepth 100000 in
set_option maxHeartbeats 4000000 in
theorem c_X7_grow (l : Launch) (D : va_G) (cI cZ : ClassId) (ad : Nat → Nat) (M : Mem) (M' : Mem) (hf : fX7_grow M = some M') : MetV l yX7_grow wsX7_grow rmX7_grow D cI cZ ad [.ref (ad 56)] M M' := by
  refine met_v (cc := cX7_grow) (nL := 4) (ret := none) (own := RX7) (by decide) rfl rfl (Nat.le_of_ble_eq_true rfl) ?_
  intro p e s m args below meth c A G hr hlocks
  unfold fX7_grow at hf
  show Wk p l e (headSpec wsX7_grow rmX7_grow).room s m args below meth c D cI cZ ad A 4 0 0 (QV below D cI cZ ad A args s M') M 0 [(0, .ref (ad 56))] []
  refine wk_iconst (v := (0 : Int32)) G dX7_grow_0 (by decide) ?_
  refine wk_istore_n (lv' := [(1, .int (0 : Int32)), (0, .ref (ad 56))]) G dX7_grow_1 rfl (by decide) rfl ?_
  refine wk_sub [1, 0] rfl ?_
  obtain ⟨q33, q34, hf⟩ := bd_of hf
  have Cq33 : (up1 fun (M32 : Mem) => Wk p l e (headSpec wsX7_grow rmX7_grow).room s m args below meth c D cI cZ ad A 4 0 0 (QV below D cI cZ ad A args s M') M32 120 [] []) q33 := by
    obtain ⟨M32, rfl⟩ : ∃ z, z = q33 := ⟨_, rfl⟩
    replace hf := un1_of hf
    show Wk p l e (headSpec wsX7_grow rmX7_grow).room s m args below meth c D cI cZ ad A 4 0 0 (QV below D cI cZ ad A args s M') M32 120 [] []
    exact wk_rv G hr hlocks dX7_grow_120 (Option.some.inj hf)
  have Lq33 : (up2 fun (v1 : Int32) (M2 : Mem) => Wk p l e (headSpec wsX7_grow rmX7_grow).room s m args below meth c D cI cZ ad A 4 0 0 (QV below D cI cZ ad A args s M') M2 2 [(0, .ref (ad 56)), (1, .int v1)] []) ((0 : Int32), M) := by
    refine loop_P (C := (up1 fun (M32 : Mem) => Wk p l e (headSpec wsX7_grow rmX7_grow).room s m args below meth c D cI cZ ad A 4 0 0 (QV below D cI cZ ad A args s M') M32 120 [] [])) ?_ fu ((0 : Int32), M) q33 q34 Cq33
    clear hf Cq33 q34
    rintro ⟨v1, M2⟩ o hf hI hE
    replace hf := un2_of hf
    show Wk p l e (headSpec wsX7_grow rmX7_grow).room s m args below meth c D cI cZ ad A 4 0 0 (QV below D cI cZ ad A args s M') M2 2 [(0, .ref (ad 56)), (1, .int v1)] []
    refine wk_iload_n G 1 dX7_grow_2 rfl rfl ?_
    refine wk_aload_n G 0 dX7_grow_3 rfl rfl ?_
    refine wk_get (ci := 7) (v := .int (M2 56 0)) G iX7_grow_X7 56 (by decide) (ck56 cI cZ ad (M2 56)) rfl 0 (Nat.le_of_ble_eq_true rfl) kX7_grow_101 rfl dX7_grow_4 ?_
    refine wk_icmp_ge (tgt := 120) G dX7_grow_7 (by decide) (fun c3 => ?_) (fun c3 => ?_)
    · replace hf := it_t c3 hf
      refine wk_sub [] rfl ?_
      exact hE _ (Option.some.inj hf).symm
    · replace hf := it_f c3 hf
      refine wk_iconst (v := (0 : Int32)) G dX7_grow_10 (by decide) ?_
      refine wk_istore_n (lv' := [(2, .int (0 : Int32)), (0, .ref (ad 56)), (1, .int v1)]) G dX7_grow_11 rfl (by decide) rfl ?_
      refine wk_iconst (v := (0 : Int32)) G dX7_grow_12 (by decide) ?_
      refine wk_istore_n (lv' := [(3, .int (0 : Int32)), (2, .int (0 : Int32)), (0, .ref (ad 56)), (1, .int v1)]) G dX7_grow_13 rfl (by decide) rfl ?_
      refine wk_sub [2, 3, 1, 0] rfl ?_
      obtain ⟨q30, q31, hf⟩ := bd_of hf
      have Cq30 : (up1 fun (v15 : Int32) => Wk p l e (headSpec wsX7_grow rmX7_grow).room s m args below meth c D cI cZ ad A 4 0 0 (QV below D cI cZ ad A args s M') M2 61 [(0, .ref (ad 56)), (1, .int v1), (2, .int v15)] []) q30 := by
        obtain ⟨v15, rfl⟩ : ∃ z, z = q30 := ⟨_, rfl⟩
        replace hf := un1_of hf
        show Wk p l e (headSpec wsX7_grow rmX7_grow).room s m args below meth c D cI cZ ad A 4 0 0 (QV below D cI cZ ad A args s M') M2 61 [(0, .ref (ad 56)), (1, .int v1), (2, .int v15)] []
        refine wk_aload_n G 0 dX7_grow_61 rfl rfl ?_
        refine wk_get (ci := 7) (v := .ref (ad 86)) G iX7_grow_X7 56 (by decide) (ck56 cI cZ ad (M2 56)) rfl 32 (Nat.le_of_ble_eq_true rfl) kX7_grow_98 rfl dX7_grow_62 ?_
        refine wk_iload_n G 1 dX7_grow_65 rfl rfl ?_
        refine wk_aload_n G 0 dX7_grow_66 rfl rfl ?_
        refine wk_get (ci := 7) (v := .ref (ad 85)) G iX7_grow_X7 56 (by decide) (ck56 cI cZ ad (M2 56)) rfl 31 (Nat.le_of_ble_eq_true rfl) kX7_grow_95 rfl dX7_grow_67 ?_
        refine wk_iload_n G 1 dX7_grow_70 rfl rfl ?_
        obtain ⟨h16, hf⟩ := gd_of hf
        refine wk_zald G 85 (by decide) (ck85 cI cZ ad) h16 dX7_grow_71 ?_
        obtain ⟨j90, ej90, hf⟩ := nm_ex hf
        have J90 : ∀ (v17 : Int32), j90 v17 = some o → Wk p l e (headSpec wsX7_grow rmX7_grow).room s m args below meth c D cI cZ ad A 4 0 0 (QV below D cI cZ ad A args s M') M2 90 [(0, .ref (ad 56)), (1, .int v1)] [.int v17, .int v1, .ref (ad 86)] := by
          intro v17 hf
          replace hf := jn1 ej90 hf
          obtain ⟨h18, hf⟩ := gd_of hf
          obtain ⟨M19, eM19, hf⟩ := nm_ex hf
          refine wk_zast G 86 (by decide) (ck86 cI cZ ad) h18 dX7_grow_90 eM19 ?_
          refine wk_aload_n G 0 dX7_grow_91 rfl rfl ?_
          refine wk_get (ci := 7) (v := .ref (ad 82)) G iX7_grow_X7 56 (by decide) (ck56 cI cZ ad (M19 56)) rfl 28 (Nat.le_of_ble_eq_true rfl) kX7_grow_86 rfl dX7_grow_92 ?_
          refine wk_iload_n G 1 dX7_grow_95 rfl rfl ?_
          refine wk_dup2 G dX7_grow_96 rfl rfl ?_
          obtain ⟨h20, hf⟩ := gd_of hf
          refine wk_iald G 82 (by decide) (ck82 cI cZ ad) h20 dX7_grow_97 ?_
          refine wk_aload_n G 0 dX7_grow_98 rfl rfl ?_
          refine wk_get (ci := 7) (v := .ref (ad 86)) G iX7_grow_X7 56 (by decide) (ck56 cI cZ ad (M19 56)) rfl 32 (Nat.le_of_ble_eq_true rfl) kX7_grow_98 rfl dX7_grow_99 ?_
          refine wk_iload_n G 1 dX7_grow_102 rfl rfl ?_
          obtain ⟨h21, hf⟩ := gd_of hf
          refine wk_zald G 86 (by decide) (ck86 cI cZ ad) h21 dX7_grow_103 ?_
          obtain ⟨j112, ej112, hf⟩ := nm_ex hf
          have J112 : ∀ (v22 : Int32), j112 v22 = some o → Wk p l e (headSpec wsX7_grow rmX7_grow).room s m args below meth c D cI cZ ad A 4 0 0 (QV below D cI cZ ad A args s M') M19 112 [(0, .ref (ad 56)), (1, .int v1)] [.int v22, .int (M19 82 (Int32.toNatClampNeg v1)), .int v1, .ref (ad 82)] := by
            intro v22 hf
            replace hf := jn1 ej112 hf
            refine wk_iadd G dX7_grow_112 ?_
            obtain ⟨h23, hf⟩ := gd_of hf
            obtain ⟨M24, eM24, hf⟩ := nm_ex hf
            refine wk_iast G 82 (by decide) (ck82 cI cZ ad) h23 dX7_grow_113 eM24 ?_
            obtain ⟨v25, ev25, hf⟩ := nm_ex hf
            refine wk_iinc (v := v25) (lv' := [(1, .int v25), (0, .ref (ad 56))]) G 1 dX7_grow_114 rfl (by rw [ev25]; rfl) (by decide) rfl ?_
            refine wk_goto (tgt := 2) G dX7_grow_117 (by decide) ?_
            refine wk_sub [1, 0] rfl ?_
            exact hI _ (Option.some.inj hf).symm
          refine wk_if_eq (tgt := 111) G dX7_grow_104 (by decide) (fun c26 => ?_) (fun c26 => ?_)
          · replace hf := it_t c26 hf
            refine wk_iconst (v := (0 : Int32)) G dX7_grow_111 (by decide) ?_
            exact J112 (0 : Int32) hf
          · replace hf := it_f c26 hf
            refine wk_iconst (v := (1 : Int32)) G dX7_grow_107 (by decide) ?_
            refine wk_goto (tgt := 112) G dX7_grow_108 (by decide) ?_
            exact J112 (1 : Int32) hf
        obtain ⟨j89, ej89, hf⟩ := nm_ex hf
        have J89 : ∀ (u27 : Unit), j89 u27 = some o → Wk p l e (headSpec wsX7_grow rmX7_grow).room s m args below meth c D cI cZ ad A 4 0 0 (QV below D cI cZ ad A args s M') M2 89 [(0, .ref (ad 56)), (1, .int v1)] [.int v1, .ref (ad 86)] := by
          intro u27 hf
          replace hf := jn1 ej89 hf
          refine wk_iconst (v := (0 : Int32)) G dX7_grow_89 (by decide) ?_
          exact J90 (0 : Int32) hf
        refine wk_if_ne (tgt := 89) G dX7_grow_72 (by decide) (fun c28 => ?_) (fun c28 => ?_)
        · replace hf := it_f c28 hf
          refine wk_sub [0, 1] rfl ?_
          exact J89 () hf
        · replace hf := it_t c28 hf
          refine wk_iconst (v := (2 : Int32)) G dX7_grow_75 (by decide) ?_
          refine wk_iload_n G 2 dX7_grow_76 rfl rfl ?_
          refine wk_imul G dX7_grow_77 ?_
          refine wk_aload_n G 0 dX7_grow_78 rfl rfl ?_
          refine wk_get (ci := 7) (v := .int (M2 56 0)) G iX7_grow_X7 56 (by decide) (ck56 cI cZ ad (M2 56)) rfl 0 (Nat.le_of_ble_eq_true rfl) kX7_grow_101 rfl dX7_grow_79 ?_
          refine wk_icmp_le (tgt := 89) G dX7_grow_82 (by decide) (fun c29 => ?_) (fun c29 => ?_)
          · replace hf := it_t c29 hf
            refine wk_sub [0, 1] rfl ?_
            exact J89 () hf
          · replace hf := it_f c29 hf
            refine wk_iconst (v := (1 : Int32)) G dX7_grow_85 (by decide) ?_
            refine wk_goto (tgt := 90) G dX7_grow_86 (by decide) ?_
            refine wk_sub [0, 1] rfl ?_
            exact J90 (1 : Int32) hf
      have Lq30 : (up2 fun (v4 : Int32) (v5 : Int32) => Wk p l e (headSpec wsX7_grow rmX7_grow).room s m args below meth c D cI cZ ad A 4 0 0 (QV below D cI cZ ad A args s M') M2 14 [(0, .ref (ad 56)), (1, .int v1), (2, .int v4), (3, .int v5)] []) ((0 : Int32), (0 : Int32)) := by
        refine loop_P (C := (up1 fun (v15 : Int32) => Wk p l e (headSpec wsX7_grow rmX7_grow).room s m args below meth c D cI cZ ad A 4 0 0 (QV below D cI cZ ad A args s M') M2 61 [(0, .ref (ad 56)), (1, .int v1), (2, .int v15)] [])) ?_ fu ((0 : Int32), (0 : Int32)) q30 q31 Cq30
        clear hf Cq30 q31
        rintro ⟨v4, v5⟩ o hf hI hE
        replace hf := un2_of hf
        show Wk p l e (headSpec wsX7_grow rmX7_grow).room s m args below meth c D cI cZ ad A 4 0 0 (QV below D cI cZ ad A args s M') M2 14 [(0, .ref (ad 56)), (1, .int v1), (2, .int v4), (3, .int v5)] []
        refine wk_iload_n G 3 dX7_grow_14 rfl rfl ?_
        refine wk_aload_n G 0 dX7_grow_15 rfl rfl ?_
        refine wk_get (ci := 7) (v := .int (M2 56 0)) G iX7_grow_X7 56 (by decide) (ck56 cI cZ ad (M2 56)) rfl 0 (Nat.le_of_ble_eq_true rfl) kX7_grow_101 rfl dX7_grow_16 ?_
        refine wk_icmp_ge (tgt := 61) G dX7_grow_19 (by decide) (fun c6 => ?_) (fun c6 => ?_)
        · replace hf := it_t c6 hf
          refine wk_sub [0, 1, 2] rfl ?_
          exact hE _ (Option.some.inj hf).symm
        · replace hf := it_f c6 hf
          refine wk_iload_n G 2 dX7_grow_22 rfl rfl ?_
          refine wk_iload_n G 3 dX7_grow_23 rfl rfl ?_
          refine wk_iload_n G 1 dX7_grow_24 rfl rfl ?_
          obtain ⟨j53, ej53, hf⟩ := nm_ex hf
          have J53 : ∀ (v7 : Int32), j53 v7 = some o → Wk p l e (headSpec wsX7_grow rmX7_grow).room s m args below meth c D cI cZ ad A 4 0 0 (QV below D cI cZ ad A args s M') M2 53 [(0, .ref (ad 56)), (1, .int v1), (3, .int v5)] [.int v7, .int v4] := by
            intro v7 hf
            replace hf := jn1 ej53 hf
            refine wk_iadd G dX7_grow_53 ?_
            obtain ⟨v8, ev8, hf⟩ := nm_ex hf
            refine wk_nme ev8 ?_
            refine wk_istore_n (lv' := [(2, .int v8), (0, .ref (ad 56)), (1, .int v1), (3, .int v5)]) G dX7_grow_54 rfl (by decide) rfl ?_
            obtain ⟨v9, ev9, hf⟩ := nm_ex hf
            refine wk_iinc (v := v9) (lv' := [(3, .int v9), (2, .int v8), (0, .ref (ad 56)), (1, .int v1)]) G 3 dX7_grow_55 rfl (by rw [ev9]; rfl) (by decide) rfl ?_
            refine wk_goto (tgt := 14) G dX7_grow_58 (by decide) ?_
            refine wk_sub [2, 3, 1, 0] rfl ?_
            exact hI _ (Option.some.inj hf).symm
          obtain ⟨j48, ej48, hf⟩ := nm_ex hf
          have J48 : ∀ (u10 : Unit), j48 u10 = some o → Wk p l e (headSpec wsX7_grow rmX7_grow).room s m args below meth c D cI cZ ad A 4 0 0 (QV below D cI cZ ad A args s M') M2 48 [(0, .ref (ad 56)), (1, .int v1), (3, .int v5)] [.int v4] := by
            intro u10 hf
            replace hf := jn1 ej48 hf
            refine wk_iconst (v := (1 : Int32)) G dX7_grow_48 (by decide) ?_
            refine wk_goto (tgt := 53) G dX7_grow_49 (by decide) ?_
            exact J53 (1 : Int32) hf
          refine wk_icmp_eq (tgt := 48) G dX7_grow_25 (by decide) (fun c11 => ?_) (fun c11 => ?_)
          · replace hf := it_t c11 hf
            refine wk_sub [0, 1, 3] rfl ?_
            exact J48 () hf
          · replace hf := it_f c11 hf
            refine wk_aload_n G 0 dX7_grow_28 rfl rfl ?_
            refine wk_get (ci := 7) (v := .ref (ad 84)) G iX7_grow_X7 56 (by decide) (ck56 cI cZ ad (M2 56)) rfl 30 (Nat.le_of_ble_eq_true rfl) kX7_grow_92 rfl dX7_grow_29 ?_
            refine wk_bipush (v := (7 : Int32)) G dX7_grow_32 (by decide) ?_
            refine wk_iload_n G 1 dX7_grow_34 rfl rfl ?_
            refine wk_imul G dX7_grow_35 ?_
            refine wk_iload_n G 3 dX7_grow_36 rfl rfl ?_
            refine wk_iadd G dX7_grow_37 ?_
            obtain ⟨h12, hf⟩ := gd_of hf
            refine wk_iald G 84 (by decide) (ck84 cI cZ ad) h12 dX7_grow_38 ?_
            refine wk_aload_n G 0 dX7_grow_39 rfl rfl ?_
            refine wk_get (ci := 7) (v := .ref (ad 82)) G iX7_grow_X7 56 (by decide) (ck56 cI cZ ad (M2 56)) rfl 28 (Nat.le_of_ble_eq_true rfl) kX7_grow_86 rfl dX7_grow_40 ?_
            refine wk_iload_n G 1 dX7_grow_43 rfl rfl ?_
            obtain ⟨h13, hf⟩ := gd_of hf
            refine wk_iald G 82 (by decide) (ck82 cI cZ ad) h13 dX7_grow_44 ?_
            refine wk_icmp_lt (tgt := 52) G dX7_grow_45 (by decide) (fun c14 => ?_) (fun c14 => ?_)
            · replace hf := it_t c14 hf
              refine wk_iconst (v := (0 : Int32)) G dX7_grow_52 (by decide) ?_
              refine wk_sub [0, 1, 3] rfl ?_
              exact J53 (0 : Int32) hf
            · replace hf := it_f c14 hf
              refine wk_sub [0, 1, 3] rfl ?_
              exact J48 () hf
      exact Lq30
  exact Lq33
def fX7_send (x1 : Int32) (x2 : Int32) (x3 : Int32) (x4 : Int32) (M : Mem) : Option Mem := gd x1 2 (nm ((M 66 (Int32.toNatClampNeg x1))) fun (v2 : Int32) => gd x1 2 (nm (st M 66 (Int32.toNatClampNeg x1) (v2 + (1 : Int32))) fun (M4 : Mem) => nm ((((1200 : Int32) * x1) + v2)) fun (v5 : Int32) => gd v5 2400 (nm (st M4 74 (Int32.toNatClampNeg v5) x3) fun (M7 : Mem) => gd v5 2400 (nm (st M7 75 (Int32.toNatClampNeg v5) x4) fun (M9 : Mem) => gd v5 2400 (nm (st M9 76 (Int32.toNatClampNeg v5) x2) fun (M11 : Mem) => gd x3 7 (nm (fun (v13 : Int32) => gd v5 2400 (nm (st M11 77 (Int32.toNatClampNeg v5) v13) fun (M15 : Mem) => gd x3 7 (gd v5 2400 (nm (st M15 78 (Int32.toNatClampNeg v5) (M15 83 (Int32.toNatClampNeg x3))) fun (M18 : Mem) => gd v5 2400 (nm (st M18 80 (Int32.toNatClampNeg v5) (0 : Int32)) fun (M20 : Mem) => gd (((7 : Int32) * x3) + x4) 49 (gd v5 2400 (nm (st M20 79 (Int32.toNatClampNeg v5) (x2 + (M20 58 (Int32.toNatClampNeg (((7 : Int32) * x3) + x4))))) fun (M23 : Mem) => nm (fun (v24 : Int32) => (loop fu (un2 fun (v25 : Int32) (M26 : Mem) => (if (6 : Int32) ≤ v25 then (some (.inr M26)) else (gd (((6 : Int32) * v5) + v25) 14400 (nm (st M26 81 (Int32.toNatClampNeg (((6 : Int32) * v5) + v25)) (0 : Int32)) fun (M29 : Mem) => nm (v25 + (1 : Int32)) fun (v30 : Int32) => some (.inl (v30, M29)))) : Option ((Int32 × Mem) ⊕ (Mem)))) ((0 : Int32), M23)).bind (un1 fun (M31 : Mem) => (loop fu (un3 fun (v32 : Int32) (v33 : Int32) (M34 : Mem) => (if (M34 56 4) ≤ v33 then (some (.inr (v32, M34))) else (gd v33 20 (nm (fun (v37 : Int32) (M38 : Mem) => nm (v33 + (1 : Int32)) fun (v39 : Int32) => some (.inl (v37, v39, M38))) fun j327 => if (M34 64 (Int32.toNatClampNeg v33)) = 0 then (gd v33 20 (if (M34 60 (Int32.toNatClampNeg v33)) ≤ (3 : Int32) then (j327 v32 M34) else (gd v33 20 (if (M34 62 (Int32.toNatClampNeg v33)) = v2 then (nm (fun (v45 : Int32) => gd v5 2400 (gd v33 20 (nm (fun (v48 : Int32) => gd v5 2400 (nm (st M34 79 (Int32.toNatClampNeg v5) ((M34 79 (Int32.toNatClampNeg v5)) + v48)) fun (M50 : Mem) => gd v33 20 (nm ((((6 : Int32) * v5) + (M50 63 (Int32.toNatClampNeg v33)))) fun (v52 : Int32) => gd v52 14400 (gd v33 20 (nm (fun (v55 : Int32) => gd v52 14400 (nm (st M50 81 (Int32.toNatClampNeg v52) ((M50 81 (Int32.toNatClampNeg v52)) + v55)) fun (M57 : Mem) => j327 v45 M57)) fun j325 => if (M50 60 (Int32.toNatClampNeg v33)) = (5 : Int32) then (j325 (1 : Int32)) else (j325 (0 : Int32))))))) fun j288 => if (M34 60 (Int32.toNatClampNeg v33)) = (6 : Int32) then (gd v33 20 (j288 (M34 63 (Int32.toNatClampNeg v33)))) else (j288 (0 : Int32))))) fun j255 => nm (fun (u61 : Unit) => j255 (1 : Int32)) fun j250 => if v32 = 0 then (gd v33 20 (if (M34 60 (Int32.toNatClampNeg v33)) = (4 : Int32) then (j250 ()) else (j255 (0 : Int32)))) else (j250 ())) else (j327 v32 M34))))) else (j327 v32 M34))) : Option ((Int32 × Int32 × Mem) ⊕ (Int32 × Mem)))) (v24, (0 : Int32), M31)).bind (un2 fun (v65 : Int32) (M66 : Mem) => if v65 = 0 then (some M66) else (gd v5 2400 (nm (st M66 79 (Int32.toNatClampNeg v5) (-1 : Int32)) fun (M69 : Mem) => gd x1 2 (gd x1 2 (nm (st M69 67 (Int32.toNatClampNeg x1) ((M69 67 (Int32.toNatClampNeg x1)) + (1 : Int32))) fun (M72 : Mem) => some M72))))))) fun j157 => nm (fun (u77 : Unit) => j157 (0 : Int32)) fun j156 => if (5 : Int32) ≤ v2 then (j156 ()) else (if (((M23 56 10) >>> (v2 &&& 31)) &&& (1 : Int32)) = (1 : Int32) then (j157 (1 : Int32)) else (j156 ()))))))))) fun j90 => if (M11 57 (Int32.toNatClampNeg x3)) = (3 : Int32) then (j90 (0 : Int32)) else (gd x3 7 (gd x3 7 (nm (fun (v83 : Int32) => j90 ((M11 82 (Int32.toNatClampNeg x3)) + v83)) fun j89 => if (M11 57 (Int32.toNatClampNeg x3)) = (1 : Int32) then (j89 (3 : Int32)) else (j89 (0 : Int32)))))))))))
theorem iX7_send_X7 : ∀ w ∈ wsX70, w ∈ wsX7_send := by decide +kernel
theorem kX7_send_7 : Cond.fieldLink RX7 7 "PartitionPlayModel" "behaviour" "[I" ∈ wsX7_send := by decide +kernel
theorem kX7_send_13 : Cond.fieldLink RX7 13 "PartitionPlayModel" "delay" "[I" ∈ wsX7_send := by decide +kernel
theorem kX7_send_19 : Cond.fieldLink RX7 19 "PartitionPlayModel" "kind" "[I" ∈ wsX7_send := by decide +kernel
theorem kX7_send_25 : Cond.fieldLink RX7 25 "PartitionPlayModel" "first" "[I" ∈ wsX7_send := by decide +kernel
theorem kX7_send_28 : Cond.fieldLink RX7 28 "PartitionPlayModel" "second" "[I" ∈ wsX7_send := by decide +kernel
theorem kX7_send_31 : Cond.fieldLink RX7 31 "PartitionPlayModel" "isOut" "[Z" ∈ wsX7_send := by decide +kernel
theorem kX7_send_38 : Cond.fieldLink RX7 38 "PartitionPlayModel" "letters" "[I" ∈ wsX7_send := by decide +kernel
theorem kX7_send_41 : Cond.fieldLink RX7 41 "PartitionPlayModel" "lost" "[I" ∈ wsX7_send := by decide +kernel
theorem kX7_send_62 : Cond.fieldLink RX7 62 "PartitionPlayModel" "from" "[I" ∈ wsX7_send := by decide +kernel
theorem kX7_send_65 : Cond.fieldLink RX7 65 "PartitionPlayModel" "to" "[I" ∈ wsX7_send := by decide +kernel
theorem kX7_send_68 : Cond.fieldLink RX7 68 "PartitionPlayModel" "sent" "[I" ∈ wsX7_send := by decide +kernel
theorem kX7_send_71 : Cond.fieldLink RX7 71 "PartitionPlayModel" "height" "[I" ∈ wsX7_send := by decide +kernel
theorem kX7_send_74 : Cond.fieldLink RX7 74 "PartitionPlayModel" "carried" "[I" ∈ wsX7_send := by decide +kernel
theorem kX7_send_77 : Cond.fieldLink RX7 77 "PartitionPlayModel" "comes" "[I" ∈ wsX7_send := by decide +kernel
theorem kX7_send_80 : Cond.fieldLink RX7 80 "PartitionPlayModel" "often" "[I" ∈ wsX7_send := by decide +kernel
theorem kX7_send_83 : Cond.fieldLink RX7 83 "PartitionPlayModel" "doubles" "[I" ∈ wsX7_send := by decide +kernel
theorem kX7_send_86 : Cond.fieldLink RX7 86 "PartitionPlayModel" "now" "[I" ∈ wsX7_send := by decide +kernel
theorem kX7_send_89 : Cond.fieldLink RX7 89 "PartitionPlayModel" "knows" "[I" ∈ wsX7_send := by decide +kernel
theorem kX7_send_117 : Cond.fieldLink RX7 117 "PartitionPlayModel" "events" "I" ∈ wsX7_send := by decide +kernel
theorem kX7_send_135 : Cond.fieldLink RX7 135 "PartitionPlayModel" "lostToo" "I" ∈ wsX7_send := by decide +kernel
abbrev rmX7_send : Room := { frames := 0, cells := 0, slots := 0, locals := 0 }
set_option maxRecDepth 100000 in
set_option maxHeartbeats 4000000 in
theorem c_X7_send (l : Launch) (D : va_G) (cI cZ : ClassId) (ad : Nat → Nat) (x1 : Int32) (x2 : Int32) (x3 : Int32) (x4 : Int32) (M : Mem) (M' : Mem) (hf : fX7_send x1 x2 x3 x4 M = some M') : MetV l yX7_send wsX7_send rmX7_send D cI cZ ad [.ref (ad 56), .int x1, .int x2, .int x3, .int x4] M M' := by
  refine met_v (cc := cX7_send) (nL := 9) (ret := none) (own := RX7) (by decide) rfl rfl (Nat.le_of_ble_eq_true rfl) ?_
  intro p e s m args below meth c A G hr hlocks
  unfold fX7_send at hf
  show Wk p l e (headSpec wsX7_send rmX7_send).room s m args below meth c D cI cZ ad A 9 0 0 (QV below D cI cZ ad A args s M') M 0 [(0, .ref (ad 56)), (1, .int x1), (2, .int x2), (3, .int x3), (4, .int x4)] []
  refine wk_aload_n G 0 dX7_send_0 rfl rfl ?_
  refine wk_get (ci := 7) (v := .ref (ad 66)) G iX7_send_X7 56 (by decide) (ck56 cI cZ ad (M 56)) rfl 12 (Nat.le_of_ble_eq_true rfl) kX7_send_38 rfl dX7_send_1 ?_
  refine wk_iload_n G 1 dX7_send_4 rfl rfl ?_
  refine wk_dup2 G dX7_send_5 rfl rfl ?_
  obtain ⟨h1, hf⟩ := gd_of hf
  refine wk_iald G 66 (by decide) (ck66 cI cZ ad) h1 dX7_send_6 ?_
  obtain ⟨v2, ev2, hf⟩ := nm_ex hf
  refine wk_nme ev2 ?_
  refine wk_dup_x2 G dX7_send_7 rfl rfl rfl ?_
  refine wk_iconst (v := (1 : Int32)) G dX7_send_8 (by decide) ?_
  refine wk_iadd G dX7_send_9 ?_
  obtain ⟨h3, hf⟩ := gd_of hf
  obtain ⟨M4, eM4, hf⟩ := nm_ex hf
  refine wk_iast G 66 (by decide) (ck66 cI cZ ad) h3 dX7_send_10 eM4 ?_
  refine wk_istore (lv' := [(5, .int v2), (0, .ref (ad 56)), (1, .int x1), (2, .int x2), (3, .int x3), (4, .int x4)]) G dX7_send_11 (by decide) rfl ?_
  refine wk_sipush (v := (1200 : Int32)) G dX7_send_13 (by decide) ?_
  refine wk_iload_n G 2 dX7_send_16 rfl rfl ?_
  refine wk_imul G dX7_send_17 ?_
  refine wk_iload G 0 dX7_send_18 rfl ?_
  refine wk_iadd G dX7_send_20 ?_
  obtain ⟨v5, ev5, hf⟩ := nm_ex hf
  refine wk_nme ev5 ?_
  refine wk_istore (lv' := [(6, .int v5), (5, .int v2), (0, .ref (ad 56)), (1, .int x1), (2, .int x2), (3, .int x3), (4, .int x4)]) G dX7_send_21 (by decide) rfl ?_
  refine wk_aload_n G 2 dX7_send_23 rfl rfl ?_
  refine wk_get (ci := 7) (v := .ref (ad 74)) G iX7_send_X7 56 (by decide) (ck56 cI cZ ad (M4 56)) rfl 20 (Nat.le_of_ble_eq_true rfl) kX7_send_62 rfl dX7_send_24 ?_
  refine wk_iload G 0 dX7_send_27 rfl ?_
  refine wk_iload_n G 5 dX7_send_29 rfl rfl ?_
  obtain ⟨h6, hf⟩ := gd_of hf
  obtain ⟨M7, eM7, hf⟩ := nm_ex hf
  refine wk_iast G 74 (by decide) (ck74 cI cZ ad) h6 dX7_send_30 eM7 ?_
  refine wk_aload_n G 2 dX7_send_31 rfl rfl ?_
  refine wk_get (ci := 7) (v := .ref (ad 75)) G iX7_send_X7 56 (by decide) (ck56 cI cZ ad (M7 56)) rfl 21 (Nat.le_of_ble_eq_true rfl) kX7_send_65 rfl dX7_send_32 ?_
  refine wk_iload G 0 dX7_send_35 rfl ?_
  refine wk_iload G 6 dX7_send_37 rfl ?_
  obtain ⟨h8, hf⟩ := gd_of hf
  obtain ⟨M9, eM9, hf⟩ := nm_ex hf
  refine wk_iast G 75 (by decide) (ck75 cI cZ ad) h8 dX7_send_39 eM9 ?_
  refine wk_aload_n G 2 dX7_send_40 rfl rfl ?_
  refine wk_get (ci := 7) (v := .ref (ad 76)) G iX7_send_X7 56 (by decide) (ck56 cI cZ ad (M9 56)) rfl 22 (Nat.le_of_ble_eq_true rfl) kX7_send_68 rfl dX7_send_41 ?_
  refine wk_iload G 0 dX7_send_44 rfl ?_
  refine wk_iload_n G 4 dX7_send_46 rfl rfl ?_
  obtain ⟨h10, hf⟩ := gd_of hf
  obtain ⟨M11, eM11, hf⟩ := nm_ex hf
  refine wk_iast G 76 (by decide) (ck76 cI cZ ad) h10 dX7_send_47 eM11 ?_
  refine wk_aload_n G 2 dX7_send_48 rfl rfl ?_
  refine wk_get (ci := 7) (v := .ref (ad 77)) G iX7_send_X7 56 (by decide) (ck56 cI cZ ad (M11 56)) rfl 23 (Nat.le_of_ble_eq_true rfl) kX7_send_71 rfl dX7_send_49 ?_
  refine wk_iload G 0 dX7_send_52 rfl ?_
  refine wk_aload_n G 2 dX7_send_54 rfl rfl ?_
  refine wk_get (ci := 7) (v := .ref (ad 57)) G iX7_send_X7 56 (by decide) (ck56 cI cZ ad (M11 56)) rfl 1 (Nat.le_of_ble_eq_true rfl) kX7_send_7 rfl dX7_send_55 ?_
  refine wk_iload_n G 5 dX7_send_58 rfl rfl ?_
  obtain ⟨h12, hf⟩ := gd_of hf
  refine wk_iald G 57 (by decide) (ck57 cI cZ ad) h12 dX7_send_59 ?_
  refine wk_iconst (v := (3 : Int32)) G dX7_send_60 (by decide) ?_
  obtain ⟨j90, ej90, hf⟩ := nm_ex hf
  have J90 : ∀ (v13 : Int32), j90 v13 = some M' → Wk p l e (headSpec wsX7_send rmX7_send).room s m args below meth c D cI cZ ad A 9 0 0 (QV below D cI cZ ad A args s M') M11 90 [(0, .ref (ad 56)), (1, .int x1), (2, .int x2), (3, .int x3), (4, .int x4), (5, .int v2), (6, .int v5)] [.int v13, .int v5, .ref (ad 77)] := by
    intro v13 hf
    replace hf := jn1 ej90 hf
    obtain ⟨h14, hf⟩ := gd_of hf
    obtain ⟨M15, eM15, hf⟩ := nm_ex hf
    refine wk_iast G 77 (by decide) (ck77 cI cZ ad) h14 dX7_send_90 eM15 ?_
    refine wk_aload_n G 0 dX7_send_91 rfl rfl ?_
    refine wk_get (ci := 7) (v := .ref (ad 78)) G iX7_send_X7 56 (by decide) (ck56 cI cZ ad (M15 56)) rfl 24 (Nat.le_of_ble_eq_true rfl) kX7_send_74 rfl dX7_send_92 ?_
    refine wk_iload G 6 dX7_send_95 rfl ?_
    refine wk_aload_n G 0 dX7_send_97 rfl rfl ?_
    refine wk_get (ci := 7) (v := .ref (ad 83)) G iX7_send_X7 56 (by decide) (ck56 cI cZ ad (M15 56)) rfl 29 (Nat.le_of_ble_eq_true rfl) kX7_send_89 rfl dX7_send_98 ?_
    refine wk_iload_n G 3 dX7_send_101 rfl rfl ?_
    obtain ⟨h16, hf⟩ := gd_of hf
    refine wk_iald G 83 (by decide) (ck83 cI cZ ad) h16 dX7_send_102 ?_
    obtain ⟨h17, hf⟩ := gd_of hf
    obtain ⟨M18, eM18, hf⟩ := nm_ex hf
    refine wk_iast G 78 (by decide) (ck78 cI cZ ad) h17 dX7_send_103 eM18 ?_
    refine wk_aload_n G 0 dX7_send_104 rfl rfl ?_
    refine wk_get (ci := 7) (v := .ref (ad 80)) G iX7_send_X7 56 (by decide) (ck56 cI cZ ad (M18 56)) rfl 26 (Nat.le_of_ble_eq_true rfl) kX7_send_80 rfl dX7_send_105 ?_
    refine wk_iload G 6 dX7_send_108 rfl ?_
    refine wk_iconst (v := (0 : Int32)) G dX7_send_110 (by decide) ?_
    obtain ⟨h19, hf⟩ := gd_of hf
    obtain ⟨M20, eM20, hf⟩ := nm_ex hf
    refine wk_iast G 80 (by decide) (ck80 cI cZ ad) h19 dX7_send_111 eM20 ?_
    refine wk_aload_n G 0 dX7_send_112 rfl rfl ?_
    refine wk_get (ci := 7) (v := .ref (ad 79)) G iX7_send_X7 56 (by decide) (ck56 cI cZ ad (M20 56)) rfl 25 (Nat.le_of_ble_eq_true rfl) kX7_send_77 rfl dX7_send_113 ?_
    refine wk_iload G 6 dX7_send_116 rfl ?_
    refine wk_iload_n G 2 dX7_send_118 rfl rfl ?_
    refine wk_aload_n G 0 dX7_send_119 rfl rfl ?_
    refine wk_get (ci := 7) (v := .ref (ad 58)) G iX7_send_X7 56 (by decide) (ck56 cI cZ ad (M20 56)) rfl 2 (Nat.le_of_ble_eq_true rfl) kX7_send_13 rfl dX7_send_120 ?_
    refine wk_bipush (v := (7 : Int32)) G dX7_send_123 (by decide) ?_
    refine wk_iload_n G 3 dX7_send_125 rfl rfl ?_
    refine wk_imul G dX7_send_126 ?_
    refine wk_iload G 4 dX7_send_127 rfl ?_
    refine wk_iadd G dX7_send_129 ?_
    obtain ⟨h21, hf⟩ := gd_of hf
    refine wk_iald G 58 (by decide) (ck58 cI cZ ad) h21 dX7_send_130 ?_
    refine wk_iadd G dX7_send_131 ?_
    obtain ⟨h22, hf⟩ := gd_of hf
    obtain ⟨M23, eM23, hf⟩ := nm_ex hf
    refine wk_iast G 79 (by decide) (ck79 cI cZ ad) h22 dX7_send_132 eM23 ?_
    refine wk_iload G 5 dX7_send_133 rfl ?_
    refine wk_iconst (v := (5 : Int32)) G dX7_send_135 (by decide) ?_
    obtain ⟨j157, ej157, hf⟩ := nm_ex hf
    have J157 : ∀ (v24 : Int32), j157 v24 = some M' → Wk p l e (headSpec wsX7_send rmX7_send).room s m args below meth c D cI cZ ad A 9 0 0 (QV below D cI cZ ad A args s M') M23 157 [(0, .ref (ad 56)), (1, .int x1), (5, .int v2), (6, .int v5)] [.int v24] := by
      intro v24 hf
      replace hf := jn1 ej157 hf
      refine wk_istore (lv' := [(7, .int v24), (0, .ref (ad 56)), (1, .int x1), (5, .int v2), (6, .int v5)]) G dX7_send_157 (by decide) rfl ?_
      refine wk_iconst (v := (0 : Int32)) G dX7_send_159 (by decide) ?_
      refine wk_istore (lv' := [(8, .int (0 : Int32)), (7, .int v24), (0, .ref (ad 56)), (1, .int x1), (5, .int v2), (6, .int v5)]) G dX7_send_160 (by decide) rfl ?_
      refine wk_sub [2, 3, 4, 5, 1, 0] rfl ?_
      obtain ⟨q75, q76, hf⟩ := bd_of hf
      have Cq75 : (up1 fun (M31 : Mem) => Wk p l e (headSpec wsX7_send rmX7_send).room s m args below meth c D cI cZ ad A 9 0 0 (QV below D cI cZ ad A args s M') M31 189 [(0, .ref (ad 56)), (1, .int x1), (5, .int v2), (6, .int v5), (7, .int v24)] []) q75 := by
        obtain ⟨M31, rfl⟩ : ∃ z, z = q75 := ⟨_, rfl⟩
        replace hf := un1_of hf
        show Wk p l e (headSpec wsX7_send rmX7_send).room s m args below meth c D cI cZ ad A 9 0 0 (QV below D cI cZ ad A args s M') M31 189 [(0, .ref (ad 56)), (1, .int x1), (5, .int v2), (6, .int v5), (7, .int v24)] []
        refine wk_iconst (v := (0 : Int32)) G dX7_send_189 (by decide) ?_
        refine wk_istore (lv' := [(8, .int (0 : Int32)), (0, .ref (ad 56)), (1, .int x1), (5, .int v2), (6, .int v5), (7, .int v24)]) G dX7_send_190 (by decide) rfl ?_
        refine wk_sub [1, 2, 3, 4, 5, 0] rfl ?_
        obtain ⟨q73, q74, hf⟩ := bd_of hf
        have Cq73 : (up2 fun (v65 : Int32) (M66 : Mem) => Wk p l e (headSpec wsX7_send rmX7_send).room s m args below meth c D cI cZ ad A 9 0 0 (QV below D cI cZ ad A args s M') M66 333 [(0, .ref (ad 56)), (1, .int x1), (6, .int v5), (7, .int v65)] []) q73 := by
          obtain ⟨v65, M66⟩ := q73
          replace hf := un2_of hf
          show Wk p l e (headSpec wsX7_send rmX7_send).room s m args below meth c D cI cZ ad A 9 0 0 (QV below D cI cZ ad A args s M') M66 333 [(0, .ref (ad 56)), (1, .int x1), (6, .int v5), (7, .int v65)] []
          refine wk_iload G 3 dX7_send_333 rfl ?_
          refine wk_if_eq (tgt := 356) G dX7_send_335 (by decide) (fun c67 => ?_) (fun c67 => ?_)
          · replace hf := it_t c67 hf
            exact wk_rv G hr hlocks dX7_send_356 (Option.some.inj hf)
          · replace hf := it_f c67 hf
            refine wk_aload_n G 0 dX7_send_338 rfl rfl ?_
            refine wk_get (ci := 7) (v := .ref (ad 79)) G iX7_send_X7 56 (by decide) (ck56 cI cZ ad (M66 56)) rfl 25 (Nat.le_of_ble_eq_true rfl) kX7_send_77 rfl dX7_send_339 ?_
            refine wk_iload G 2 dX7_send_342 rfl ?_
            refine wk_iconst (v := (-1 : Int32)) G dX7_send_344 (by decide) ?_
            obtain ⟨h68, hf⟩ := gd_of hf
            obtain ⟨M69, eM69, hf⟩ := nm_ex hf
            refine wk_iast G 79 (by decide) (ck79 cI cZ ad) h68 dX7_send_345 eM69 ?_
            refine wk_aload_n G 0 dX7_send_346 rfl rfl ?_
            refine wk_get (ci := 7) (v := .ref (ad 67)) G iX7_send_X7 56 (by decide) (ck56 cI cZ ad (M69 56)) rfl 13 (Nat.le_of_ble_eq_true rfl) kX7_send_41 rfl dX7_send_347 ?_
            refine wk_iload_n G 1 dX7_send_350 rfl rfl ?_
            refine wk_dup2 G dX7_send_351 rfl rfl ?_
            obtain ⟨h70, hf⟩ := gd_of hf
            refine wk_iald G 67 (by decide) (ck67 cI cZ ad) h70 dX7_send_352 ?_
            refine wk_iconst (v := (1 : Int32)) G dX7_send_353 (by decide) ?_
            refine wk_iadd G dX7_send_354 ?_
            obtain ⟨h71, hf⟩ := gd_of hf
            obtain ⟨M72, eM72, hf⟩ := nm_ex hf
            refine wk_iast G 67 (by decide) (ck67 cI cZ ad) h71 dX7_send_355 eM72 ?_
            exact wk_rv G hr hlocks dX7_send_356 (Option.some.inj hf)
        have Lq73 : (up3 fun (v32 : Int32) (v33 : Int32) (M34 : Mem) => Wk p l e (headSpec wsX7_send rmX7_send).room s m args below meth c D cI cZ ad A 9 0 0 (QV below D cI cZ ad A args s M') M34 192 [(0, .ref (ad 56)), (1, .int x1), (5, .int v2), (6, .int v5), (7, .int v32), (8, .int v33)] []) (v24, (0 : Int32), M31) := by
          refine loop_P (C := (up2 fun (v65 : Int32) (M66 : Mem) => Wk p l e (headSpec wsX7_send rmX7_send).room s m args below meth c D cI cZ ad A 9 0 0 (QV below D cI cZ ad A args s M') M66 333 [(0, .ref (ad 56)), (1, .int x1), (6, .int v5), (7, .int v65)] [])) ?_ fu (v24, (0 : Int32), M31) q73 q74 Cq73
          clear hf Cq73 q74
          rintro ⟨v32, v33, M34⟩ o hf hI hE
          replace hf := un3_of hf
          show Wk p l e (headSpec wsX7_send rmX7_send).room s m args below meth c D cI cZ ad A 9 0 0 (QV below D cI cZ ad A args s M') M34 192 [(0, .ref (ad 56)), (1, .int x1), (5, .int v2), (6, .int v5), (7, .int v32), (8, .int v33)] []
          refine wk_iload G 5 dX7_send_192 rfl ?_
          refine wk_aload_n G 0 dX7_send_194 rfl rfl ?_
          refine wk_get (ci := 7) (v := .int (M34 56 4)) G iX7_send_X7 56 (by decide) (ck56 cI cZ ad (M34 56)) rfl 4 (Nat.le_of_ble_eq_true rfl) kX7_send_117 rfl dX7_send_195 ?_
          refine wk_icmp_ge (tgt := 333) G dX7_send_198 (by decide) (fun c35 => ?_) (fun c35 => ?_)
          · replace hf := it_t c35 hf
            refine wk_sub [0, 1, 3, 4] rfl ?_
            exact hE _ (Option.some.inj hf).symm
          · replace hf := it_f c35 hf
            refine wk_aload_n G 0 dX7_send_201 rfl rfl ?_
            refine wk_get (ci := 7) (v := .ref (ad 64)) G iX7_send_X7 56 (by decide) (ck56 cI cZ ad (M34 56)) rfl 9 (Nat.le_of_ble_eq_true rfl) kX7_send_31 rfl dX7_send_202 ?_
            refine wk_iload G 5 dX7_send_205 rfl ?_
            obtain ⟨h36, hf⟩ := gd_of hf
            refine wk_zald G 64 (by decide) (ck64 cI cZ ad) h36 dX7_send_207 ?_
            obtain ⟨j327, ej327, hf⟩ := nm_ex hf
            have J327 : ∀ (v37 : Int32) (M38 : Mem), j327 v37 M38 = some o → Wk p l e (headSpec wsX7_send rmX7_send).room s m args below meth c D cI cZ ad A 9 0 0 (QV below D cI cZ ad A args s M') M38 327 [(0, .ref (ad 56)), (1, .int x1), (5, .int v2), (6, .int v5), (7, .int v37), (8, .int v33)] [] := by
              intro v37 M38 hf
              replace hf := jn2 ej327 hf
              obtain ⟨v39, ev39, hf⟩ := nm_ex hf
              refine wk_iinc (v := v39) (lv' := [(8, .int v39), (0, .ref (ad 56)), (1, .int x1), (5, .int v2), (6, .int v5), (7, .int v37)]) G 5 dX7_send_327 rfl (by rw [ev39]; rfl) (by decide) rfl ?_
              refine wk_goto (tgt := 192) G dX7_send_330 (by decide) ?_
              refine wk_sub [1, 2, 3, 4, 5, 0] rfl ?_
              exact hI _ (Option.some.inj hf).symm
            refine wk_if_ne (tgt := 327) G dX7_send_208 (by decide) (fun c40 => ?_) (fun c40 => ?_)
            · replace hf := it_f c40 hf
              exact J327 v32 M34 hf
            · replace hf := it_t c40 hf
              refine wk_aload_n G 0 dX7_send_211 rfl rfl ?_
              refine wk_get (ci := 7) (v := .ref (ad 60)) G iX7_send_X7 56 (by decide) (ck56 cI cZ ad (M34 56)) rfl 5 (Nat.le_of_ble_eq_true rfl) kX7_send_19 rfl dX7_send_212 ?_
              refine wk_iload G 5 dX7_send_215 rfl ?_
              obtain ⟨h41, hf⟩ := gd_of hf
              refine wk_iald G 60 (by decide) (ck60 cI cZ ad) h41 dX7_send_217 ?_
              refine wk_iconst (v := (3 : Int32)) G dX7_send_218 (by decide) ?_
              refine wk_icmp_le (tgt := 327) G dX7_send_219 (by decide) (fun c42 => ?_) (fun c42 => ?_)
              · replace hf := it_t c42 hf
                exact J327 v32 M34 hf
              · replace hf := it_f c42 hf
                refine wk_aload_n G 0 dX7_send_222 rfl rfl ?_
                refine wk_get (ci := 7) (v := .ref (ad 62)) G iX7_send_X7 56 (by decide) (ck56 cI cZ ad (M34 56)) rfl 7 (Nat.le_of_ble_eq_true rfl) kX7_send_25 rfl dX7_send_223 ?_
                refine wk_iload G 5 dX7_send_226 rfl ?_
                obtain ⟨h43, hf⟩ := gd_of hf
                refine wk_iald G 62 (by decide) (ck62 cI cZ ad) h43 dX7_send_228 ?_
                refine wk_iload G 2 dX7_send_229 rfl ?_
                refine wk_icmp_ne (tgt := 327) G dX7_send_231 (by decide) (fun c44 => ?_) (fun c44 => ?_)
                · replace hf := it_f c44 hf
                  exact J327 v32 M34 hf
                · replace hf := it_t c44 hf
                  refine wk_iload G 4 dX7_send_234 rfl ?_
                  obtain ⟨j255, ej255, hf⟩ := nm_ex hf
                  have J255 : ∀ (v45 : Int32), j255 v45 = some o → Wk p l e (headSpec wsX7_send rmX7_send).room s m args below meth c D cI cZ ad A 9 0 0 (QV below D cI cZ ad A args s M') M34 255 [(0, .ref (ad 56)), (1, .int x1), (5, .int v2), (6, .int v5), (8, .int v33)] [.int v45] := by
                    intro v45 hf
                    replace hf := jn1 ej255 hf
                    refine wk_istore (lv' := [(7, .int v45), (0, .ref (ad 56)), (1, .int x1), (5, .int v2), (6, .int v5), (8, .int v33)]) G dX7_send_255 (by decide) rfl ?_
                    refine wk_aload_n G 1 dX7_send_257 rfl rfl ?_
                    refine wk_get (ci := 7) (v := .ref (ad 79)) G iX7_send_X7 56 (by decide) (ck56 cI cZ ad (M34 56)) rfl 25 (Nat.le_of_ble_eq_true rfl) kX7_send_77 rfl dX7_send_258 ?_
                    refine wk_iload G 4 dX7_send_261 rfl ?_
                    refine wk_dup2 G dX7_send_263 rfl rfl ?_
                    obtain ⟨h46, hf⟩ := gd_of hf
                    refine wk_iald G 79 (by decide) (ck79 cI cZ ad) h46 dX7_send_264 ?_
                    refine wk_aload_n G 1 dX7_send_265 rfl rfl ?_
                    refine wk_get (ci := 7) (v := .ref (ad 60)) G iX7_send_X7 56 (by decide) (ck56 cI cZ ad (M34 56)) rfl 5 (Nat.le_of_ble_eq_true rfl) kX7_send_19 rfl dX7_send_266 ?_
                    refine wk_iload G 5 dX7_send_269 rfl ?_
                    obtain ⟨h47, hf⟩ := gd_of hf
                    refine wk_iald G 60 (by decide) (ck60 cI cZ ad) h47 dX7_send_271 ?_
                    refine wk_bipush (v := (6 : Int32)) G dX7_send_272 (by decide) ?_
                    obtain ⟨j288, ej288, hf⟩ := nm_ex hf
                    have J288 : ∀ (v48 : Int32), j288 v48 = some o → Wk p l e (headSpec wsX7_send rmX7_send).room s m args below meth c D cI cZ ad A 9 0 0 (QV below D cI cZ ad A args s M') M34 288 [(0, .ref (ad 56)), (1, .int x1), (5, .int v2), (6, .int v5), (7, .int v45), (8, .int v33)] [.int v48, .int (M34 79 (Int32.toNatClampNeg v5)), .int v5, .ref (ad 79)] := by
                      intro v48 hf
                      replace hf := jn1 ej288 hf
                      refine wk_iadd G dX7_send_288 ?_
                      obtain ⟨h49, hf⟩ := gd_of hf
                      obtain ⟨M50, eM50, hf⟩ := nm_ex hf
                      refine wk_iast G 79 (by decide) (ck79 cI cZ ad) h49 dX7_send_289 eM50 ?_
                      refine wk_aload_n G 0 dX7_send_290 rfl rfl ?_
                      refine wk_get (ci := 7) (v := .ref (ad 81)) G iX7_send_X7 56 (by decide) (ck56 cI cZ ad (M50 56)) rfl 27 (Nat.le_of_ble_eq_true rfl) kX7_send_83 rfl dX7_send_291 ?_
                      refine wk_bipush (v := (6 : Int32)) G dX7_send_294 (by decide) ?_
                      refine wk_iload G 3 dX7_send_296 rfl ?_
                      refine wk_imul G dX7_send_298 ?_
                      refine wk_aload_n G 0 dX7_send_299 rfl rfl ?_
                      refine wk_get (ci := 7) (v := .ref (ad 63)) G iX7_send_X7 56 (by decide) (ck56 cI cZ ad (M50 56)) rfl 8 (Nat.le_of_ble_eq_true rfl) kX7_send_28 rfl dX7_send_300 ?_
                      refine wk_iload G 5 dX7_send_303 rfl ?_
                      obtain ⟨h51, hf⟩ := gd_of hf
                      refine wk_iald G 63 (by decide) (ck63 cI cZ ad) h51 dX7_send_305 ?_
                      refine wk_iadd G dX7_send_306 ?_
                      obtain ⟨v52, ev52, hf⟩ := nm_ex hf
                      refine wk_nme ev52 ?_
                      refine wk_dup2 G dX7_send_307 rfl rfl ?_
                      obtain ⟨h53, hf⟩ := gd_of hf
                      refine wk_iald G 81 (by decide) (ck81 cI cZ ad) h53 dX7_send_308 ?_
                      refine wk_aload_n G 0 dX7_send_309 rfl rfl ?_
                      refine wk_get (ci := 7) (v := .ref (ad 60)) G iX7_send_X7 56 (by decide) (ck56 cI cZ ad (M50 56)) rfl 5 (Nat.le_of_ble_eq_true rfl) kX7_send_19 rfl dX7_send_310 ?_
                      refine wk_iload G 5 dX7_send_313 rfl ?_
                      obtain ⟨h54, hf⟩ := gd_of hf
                      refine wk_iald G 60 (by decide) (ck60 cI cZ ad) h54 dX7_send_315 ?_
                      refine wk_iconst (v := (5 : Int32)) G dX7_send_316 (by decide) ?_
                      obtain ⟨j325, ej325, hf⟩ := nm_ex hf
                      have J325 : ∀ (v55 : Int32), j325 v55 = some o → Wk p l e (headSpec wsX7_send rmX7_send).room s m args below meth c D cI cZ ad A 9 0 0 (QV below D cI cZ ad A args s M') M50 325 [(0, .ref (ad 56)), (1, .int x1), (5, .int v2), (6, .int v5), (7, .int v45), (8, .int v33)] [.int v55, .int (M50 81 (Int32.toNatClampNeg v52)), .int v52, .ref (ad 81)] := by
                        intro v55 hf
                        replace hf := jn1 ej325 hf
                        refine wk_iadd G dX7_send_325 ?_
                        obtain ⟨h56, hf⟩ := gd_of hf
                        obtain ⟨M57, eM57, hf⟩ := nm_ex hf
                        refine wk_iast G 81 (by decide) (ck81 cI cZ ad) h56 dX7_send_326 eM57 ?_
                        exact J327 v45 M57 hf
                      refine wk_icmp_ne (tgt := 324) G dX7_send_317 (by decide) (fun c58 => ?_) (fun c58 => ?_)
                      · replace hf := it_f c58 hf
                        refine wk_iconst (v := (0 : Int32)) G dX7_send_324 (by decide) ?_
                        exact J325 (0 : Int32) hf
                      · replace hf := it_t c58 hf
                        refine wk_iconst (v := (1 : Int32)) G dX7_send_320 (by decide) ?_
                        refine wk_goto (tgt := 325) G dX7_send_321 (by decide) ?_
                        exact J325 (1 : Int32) hf
                    refine wk_icmp_ne (tgt := 287) G dX7_send_274 (by decide) (fun c59 => ?_) (fun c59 => ?_)
                    · replace hf := it_f c59 hf
                      refine wk_iconst (v := (0 : Int32)) G dX7_send_287 (by decide) ?_
                      refine wk_sub [1, 2, 3, 4, 0, 5] rfl ?_
                      exact J288 (0 : Int32) hf
                    · replace hf := it_t c59 hf
                      refine wk_aload_n G 1 dX7_send_277 rfl rfl ?_
                      refine wk_get (ci := 7) (v := .ref (ad 63)) G iX7_send_X7 56 (by decide) (ck56 cI cZ ad (M34 56)) rfl 8 (Nat.le_of_ble_eq_true rfl) kX7_send_28 rfl dX7_send_278 ?_
                      refine wk_iload G 5 dX7_send_281 rfl ?_
                      obtain ⟨h60, hf⟩ := gd_of hf
                      refine wk_iald G 63 (by decide) (ck63 cI cZ ad) h60 dX7_send_283 ?_
                      refine wk_goto (tgt := 288) G dX7_send_284 (by decide) ?_
                      refine wk_sub [1, 2, 3, 4, 0, 5] rfl ?_
                      exact J288 (M34 63 (Int32.toNatClampNeg v33)) hf
                  obtain ⟨j250, ej250, hf⟩ := nm_ex hf
                  have J250 : ∀ (u61 : Unit), j250 u61 = some o → Wk p l e (headSpec wsX7_send rmX7_send).room s m args below meth c D cI cZ ad A 9 0 0 (QV below D cI cZ ad A args s M') M34 250 [(0, .ref (ad 56)), (1, .int x1), (5, .int v2), (6, .int v5), (8, .int v33)] [] := by
                    intro u61 hf
                    replace hf := jn1 ej250 hf
                    refine wk_iconst (v := (1 : Int32)) G dX7_send_250 (by decide) ?_
                    refine wk_goto (tgt := 255) G dX7_send_251 (by decide) ?_
                    exact J255 (1 : Int32) hf
                  refine wk_if_ne (tgt := 250) G dX7_send_236 (by decide) (fun c62 => ?_) (fun c62 => ?_)
                  · replace hf := it_f c62 hf
                    refine wk_sub [0, 1, 2, 3, 5] rfl ?_
                    exact J250 () hf
                  · replace hf := it_t c62 hf
                    refine wk_aload_n G 0 dX7_send_239 rfl rfl ?_
                    refine wk_get (ci := 7) (v := .ref (ad 60)) G iX7_send_X7 56 (by decide) (ck56 cI cZ ad (M34 56)) rfl 5 (Nat.le_of_ble_eq_true rfl) kX7_send_19 rfl dX7_send_240 ?_
                    refine wk_iload G 5 dX7_send_243 rfl ?_
                    obtain ⟨h63, hf⟩ := gd_of hf
                    refine wk_iald G 60 (by decide) (ck60 cI cZ ad) h63 dX7_send_245 ?_
                    refine wk_iconst (v := (4 : Int32)) G dX7_send_246 (by decide) ?_
                    refine wk_icmp_ne (tgt := 254) G dX7_send_247 (by decide) (fun c64 => ?_) (fun c64 => ?_)
                    · replace hf := it_f c64 hf
                      refine wk_iconst (v := (0 : Int32)) G dX7_send_254 (by decide) ?_
                      refine wk_sub [0, 1, 2, 3, 5] rfl ?_
                      exact J255 (0 : Int32) hf
                    · replace hf := it_t c64 hf
                      refine wk_sub [0, 1, 2, 3, 5] rfl ?_
                      exact J250 () hf
        exact Lq73
      have Lq75 : (up2 fun (v25 : Int32) (M26 : Mem) => Wk p l e (headSpec wsX7_send rmX7_send).room s m args below meth c D cI cZ ad A 9 0 0 (QV below D cI cZ ad A args s M') M26 162 [(0, .ref (ad 56)), (1, .int x1), (5, .int v2), (6, .int v5), (7, .int v24), (8, .int v25)] []) ((0 : Int32), M23) := by
        refine loop_P (C := (up1 fun (M31 : Mem) => Wk p l e (headSpec wsX7_send rmX7_send).room s m args below meth c D cI cZ ad A 9 0 0 (QV below D cI cZ ad A args s M') M31 189 [(0, .ref (ad 56)), (1, .int x1), (5, .int v2), (6, .int v5), (7, .int v24)] [])) ?_ fu ((0 : Int32), M23) q75 q76 Cq75
        clear hf Cq75 q76
        rintro ⟨v25, M26⟩ o hf hI hE
        replace hf := un2_of hf
        show Wk p l e (headSpec wsX7_send rmX7_send).room s m args below meth c D cI cZ ad A 9 0 0 (QV below D cI cZ ad A args s M') M26 162 [(0, .ref (ad 56)), (1, .int x1), (5, .int v2), (6, .int v5), (7, .int v24), (8, .int v25)] []
        refine wk_iload G 5 dX7_send_162 rfl ?_
        refine wk_bipush (v := (6 : Int32)) G dX7_send_164 (by decide) ?_
        refine wk_icmp_ge (tgt := 189) G dX7_send_166 (by decide) (fun c27 => ?_) (fun c27 => ?_)
        · replace hf := it_t c27 hf
          refine wk_sub [0, 1, 2, 3, 4] rfl ?_
          exact hE _ (Option.some.inj hf).symm
        · replace hf := it_f c27 hf
          refine wk_aload_n G 0 dX7_send_169 rfl rfl ?_
          refine wk_get (ci := 7) (v := .ref (ad 81)) G iX7_send_X7 56 (by decide) (ck56 cI cZ ad (M26 56)) rfl 27 (Nat.le_of_ble_eq_true rfl) kX7_send_83 rfl dX7_send_170 ?_
          refine wk_bipush (v := (6 : Int32)) G dX7_send_173 (by decide) ?_
          refine wk_iload G 3 dX7_send_175 rfl ?_
          refine wk_imul G dX7_send_177 ?_
          refine wk_iload G 5 dX7_send_178 rfl ?_
          refine wk_iadd G dX7_send_180 ?_
          refine wk_iconst (v := (0 : Int32)) G dX7_send_181 (by decide) ?_
          obtain ⟨h28, hf⟩ := gd_of hf
          obtain ⟨M29, eM29, hf⟩ := nm_ex hf
          refine wk_iast G 81 (by decide) (ck81 cI cZ ad) h28 dX7_send_182 eM29 ?_
          obtain ⟨v30, ev30, hf⟩ := nm_ex hf
          refine wk_iinc (v := v30) (lv' := [(8, .int v30), (0, .ref (ad 56)), (1, .int x1), (5, .int v2), (6, .int v5), (7, .int v24)]) G 5 dX7_send_183 rfl (by rw [ev30]; rfl) (by decide) rfl ?_
          refine wk_goto (tgt := 162) G dX7_send_186 (by decide) ?_
          refine wk_sub [1, 2, 3, 4, 5, 0] rfl ?_
          exact hI _ (Option.some.inj hf).symm
      exact Lq75
    obtain ⟨j156, ej156, hf⟩ := nm_ex hf
    have J156 : ∀ (u77 : Unit), j156 u77 = some M' → Wk p l e (headSpec wsX7_send rmX7_send).room s m args below meth c D cI cZ ad A 9 0 0 (QV below D cI cZ ad A args s M') M23 156 [(0, .ref (ad 56)), (1, .int x1), (5, .int v2), (6, .int v5)] [] := by
      intro u77 hf
      replace hf := jn1 ej156 hf
      refine wk_iconst (v := (0 : Int32)) G dX7_send_156 (by decide) ?_
      exact J157 (0 : Int32) hf
    refine wk_icmp_ge (tgt := 156) G dX7_send_136 (by decide) (fun c78 => ?_) (fun c78 => ?_)
    · replace hf := it_t c78 hf
      refine wk_sub [0, 1, 5, 6] rfl ?_
      exact J156 () hf
    · replace hf := it_f c78 hf
      refine wk_aload_n G 0 dX7_send_139 rfl rfl ?_
      refine wk_get (ci := 7) (v := .int (M23 56 10)) G iX7_send_X7 56 (by decide) (ck56 cI cZ ad (M23 56)) rfl 10 (Nat.le_of_ble_eq_true rfl) kX7_send_135 rfl dX7_send_140 ?_
      refine wk_iload G 5 dX7_send_143 rfl ?_
      refine wk_ishr G dX7_send_145 ?_
      refine wk_iconst (v := (1 : Int32)) G dX7_send_146 (by decide) ?_
      refine wk_iand G dX7_send_147 ?_
      refine wk_iconst (v := (1 : Int32)) G dX7_send_148 (by decide) ?_
      refine wk_icmp_ne (tgt := 156) G dX7_send_149 (by decide) (fun c79 => ?_) (fun c79 => ?_)
      · replace hf := it_f c79 hf
        refine wk_sub [0, 1, 5, 6] rfl ?_
        exact J156 () hf
      · replace hf := it_t c79 hf
        refine wk_iconst (v := (1 : Int32)) G dX7_send_152 (by decide) ?_
        refine wk_goto (tgt := 157) G dX7_send_153 (by decide) ?_
        refine wk_sub [0, 1, 5, 6] rfl ?_
        exact J157 (1 : Int32) hf
  refine wk_icmp_ne (tgt := 68) G dX7_send_61 (by decide) (fun c80 => ?_) (fun c80 => ?_)
  · replace hf := it_f c80 hf
    refine wk_aload_n G 2 dX7_send_68 rfl rfl ?_
    refine wk_get (ci := 7) (v := .ref (ad 82)) G iX7_send_X7 56 (by decide) (ck56 cI cZ ad (M11 56)) rfl 28 (Nat.le_of_ble_eq_true rfl) kX7_send_86 rfl dX7_send_69 ?_
    refine wk_iload_n G 5 dX7_send_72 rfl rfl ?_
    obtain ⟨h81, hf⟩ := gd_of hf
    refine wk_iald G 82 (by decide) (ck82 cI cZ ad) h81 dX7_send_73 ?_
    refine wk_aload_n G 2 dX7_send_74 rfl rfl ?_
    refine wk_get (ci := 7) (v := .ref (ad 57)) G iX7_send_X7 56 (by decide) (ck56 cI cZ ad (M11 56)) rfl 1 (Nat.le_of_ble_eq_true rfl) kX7_send_7 rfl dX7_send_75 ?_
    refine wk_iload_n G 5 dX7_send_78 rfl rfl ?_
    obtain ⟨h82, hf⟩ := gd_of hf
    refine wk_iald G 57 (by decide) (ck57 cI cZ ad) h82 dX7_send_79 ?_
    refine wk_iconst (v := (1 : Int32)) G dX7_send_80 (by decide) ?_
    obtain ⟨j89, ej89, hf⟩ := nm_ex hf
    have J89 : ∀ (v83 : Int32), j89 v83 = some M' → Wk p l e (headSpec wsX7_send rmX7_send).room s m args below meth c D cI cZ ad A 9 0 0 (QV below D cI cZ ad A args s M') M11 89 [(0, .ref (ad 56)), (1, .int x1), (2, .int x2), (3, .int x3), (4, .int x4), (5, .int v2), (6, .int v5)] [.int v83, .int (M11 82 (Int32.toNatClampNeg x3)), .int v5, .ref (ad 77)] := by
      intro v83 hf
      replace hf := jn1 ej89 hf
      refine wk_iadd G dX7_send_89 ?_
      exact J90 ((M11 82 (Int32.toNatClampNeg x3)) + v83) hf
    refine wk_icmp_ne (tgt := 88) G dX7_send_81 (by decide) (fun c84 => ?_) (fun c84 => ?_)
    · replace hf := it_f c84 hf
      refine wk_iconst (v := (0 : Int32)) G dX7_send_88 (by decide) ?_
      refine wk_sub [2, 3, 4, 5, 6, 1, 0] rfl ?_
      exact J89 (0 : Int32) hf
    · replace hf := it_t c84 hf
      refine wk_iconst (v := (3 : Int32)) G dX7_send_84 (by decide) ?_
      refine wk_goto (tgt := 89) G dX7_send_85 (by decide) ?_
      refine wk_sub [2, 3, 4, 5, 6, 1, 0] rfl ?_
      exact J89 (3 : Int32) hf
  · replace hf := it_t c80 hf
    refine wk_iconst (v := (0 : Int32)) G dX7_send_64 (by decide) ?_
    refine wk_goto (tgt := 90) G dX7_send_65 (by decide) ?_
    refine wk_sub [2, 3, 4, 5, 6, 1, 0] rfl ?_
    exact J90 (0 : Int32) hf
def fX7_isRule (M : Mem) : Option Int32 := (loop fu (un2 fun (v1 : Int32) (v2 : Int32) => (if (M 56 0) ≤ v2 then (some (.inr v1)) else (gd v2 7 (nm (fun (v5 : Int32) => nm (v2 + (1 : Int32)) fun (v6 : Int32) => some (.inl (v5, v6))) fun j41 => nm (fun (u7 : Unit) => j41 v1) fun j40 => if (M 57 (Int32.toNatClampNeg v2)) = 0 then (gd v2 7 (if (M 82 (Int32.toNatClampNeg v2)) ≤ v1 then (j40 ()) else (gd v2 7 (j41 (M 82 (Int32.toNatClampNeg v2)))))) else (j40 ()))) : Option ((Int32 × Int32) ⊕ (Int32)))) ((0 : Int32), (0 : Int32))).bind (un1 fun (v12 : Int32) => (loop fu (un2 fun (v13 : Int32) (v14 : Int32) => (if (M 56 0) ≤ v14 then (some (.inr v13)) else (gd v14 7 (nm (fun (v17 : Int32) => nm ((v13 + v17)) fun (v18 : Int32) => nm (v14 + (1 : Int32)) fun (v19 : Int32) => some (.inl (v18, v19))) fun j78 => if (M 82 (Int32.toNatClampNeg v14)) < (v12 - (1 : Int32)) then (j78 (0 : Int32)) else (j78 (1 : Int32)))) : Option ((Int32 × Int32) ⊕ (Int32)))) ((0 : Int32), (0 : Int32))).bind (un1 fun (v21 : Int32) => nm (fun (u22 : Unit) => some (1 : Int32)) fun j100 => if v12 = 0 then (j100 ()) else (if ((2 : Int32) * v21) ≤ (M 56 0) then (some (0 : Int32)) else (j100 ()))))
theorem iX7_isRule_X7 : ∀ w ∈ wsX70, w ∈ wsX7_isRule := by decide +kernel
theorem kX7_isRule_7 : Cond.fieldLink RX7 7 "PartitionPlayModel" "behaviour" "[I" ∈ wsX7_isRule := by decide +kernel
theorem kX7_isRule_86 : Cond.fieldLink RX7 86 "PartitionPlayModel" "now" "[I" ∈ wsX7_isRule := by decide +kernel
theorem kX7_isRule_101 : Cond.fieldLink RX7 101 "PartitionPlayModel" "n" "I" ∈ wsX7_isRule := by decide +kernel
abbrev rmX7_isRule : Room := { frames := 0, cells := 0, slots := 0, locals := 0 }
set_option maxRecDepth 100000 in
set_option maxHeartbeats 4000000 in
theorem c_X7_isRule (l : Launch) (D : va_G) (cI cZ : ClassId) (ad : Nat → Nat) (M : Mem) (r : Int32) (hf : fX7_isRule M = some r) : MetI l yX7_isRule wsX7_isRule rmX7_isRule D cI cZ ad [.ref (ad 56)] M r M := by
  refine met_i (cc := cX7_isRule) (nL := 4) (ret := (some .boolean)) (own := RX7) (by decide) rfl rfl (Nat.le_of_ble_eq_true rfl) ?_
  intro p e s m args below meth c A G hr hlocks
  unfold fX7_isRule at hf
  show Wk p l e (headSpec wsX7_isRule rmX7_isRule).room s m args below meth c D cI cZ ad A 4 0 0 (QI below D cI cZ ad A args s r M) M 0 [(0, .ref (ad 56))] []
  refine wk_iconst (v := (0 : Int32)) G dX7_isRule_0 (by decide) ?_
  refine wk_istore_n (lv' := [(1, .int (0 : Int32)), (0, .ref (ad 56))]) G dX7_isRule_1 rfl (by decide) rfl ?_
  refine wk_iconst (v := (0 : Int32)) G dX7_isRule_2 (by decide) ?_
  refine wk_istore_n (lv' := [(2, .int (0 : Int32)), (1, .int (0 : Int32)), (0, .ref (ad 56))]) G dX7_isRule_3 rfl (by decide) rfl ?_
  refine wk_sub [2, 1, 0] rfl ?_
  obtain ⟨q27, q28, hf⟩ := bd_of hf
  have Cq27 : (up1 fun (v12 : Int32) => Wk p l e (headSpec wsX7_isRule rmX7_isRule).room s m args below meth c D cI cZ ad A 4 0 0 (QI below D cI cZ ad A args s r M) M 48 [(0, .ref (ad 56)), (1, .int v12)] []) q27 := by
    obtain ⟨v12, rfl⟩ : ∃ z, z = q27 := ⟨_, rfl⟩
    replace hf := un1_of hf
    show Wk p l e (headSpec wsX7_isRule rmX7_isRule).room s m args below meth c D cI cZ ad A 4 0 0 (QI below D cI cZ ad A args s r M) M 48 [(0, .ref (ad 56)), (1, .int v12)] []
    refine wk_iconst (v := (0 : Int32)) G dX7_isRule_48 (by decide) ?_
    refine wk_istore_n (lv' := [(2, .int (0 : Int32)), (0, .ref (ad 56)), (1, .int v12)]) G dX7_isRule_49 rfl (by decide) rfl ?_
    refine wk_iconst (v := (0 : Int32)) G dX7_isRule_50 (by decide) ?_
    refine wk_istore_n (lv' := [(3, .int (0 : Int32)), (2, .int (0 : Int32)), (0, .ref (ad 56)), (1, .int v12)]) G dX7_isRule_51 rfl (by decide) rfl ?_
    refine wk_sub [2, 3, 1, 0] rfl ?_
    obtain ⟨q25, q26, hf⟩ := bd_of hf
    have Cq25 : (up1 fun (v21 : Int32) => Wk p l e (headSpec wsX7_isRule rmX7_isRule).room s m args below meth c D cI cZ ad A 4 0 0 (QI below D cI cZ ad A args s r M) M 86 [(0, .ref (ad 56)), (1, .int v12), (2, .int v21)] []) q25 := by
      obtain ⟨v21, rfl⟩ : ∃ z, z = q25 := ⟨_, rfl⟩
      replace hf := un1_of hf
      show Wk p l e (headSpec wsX7_isRule rmX7_isRule).room s m args below meth c D cI cZ ad A 4 0 0 (QI below D cI cZ ad A args s r M) M 86 [(0, .ref (ad 56)), (1, .int v12), (2, .int v21)] []
      refine wk_iload_n G 1 dX7_isRule_86 rfl rfl ?_
      obtain ⟨j100, ej100, hf⟩ := nm_ex hf
      have J100 : ∀ (u22 : Unit), j100 u22 = some r → Wk p l e (headSpec wsX7_isRule rmX7_isRule).room s m args below meth c D cI cZ ad A 4 0 0 (QI below D cI cZ ad A args s r M) M 100 [] [] := by
        intro u22 hf
        replace hf := jn1 ej100 hf
        refine wk_iconst (v := (1 : Int32)) G dX7_isRule_100 (by decide) ?_
        refine wk_goto (tgt := 105) G dX7_isRule_101 (by decide) ?_
        exact wk_rz G hr hlocks (Or.inr rfl) dX7_isRule_105 (congrArg (fun z => (z, M)) (Option.some.inj hf))
      refine wk_if_eq (tgt := 100) G dX7_isRule_87 (by decide) (fun c23 => ?_) (fun c23 => ?_)
      · replace hf := it_t c23 hf
        refine wk_sub [] rfl ?_
        exact J100 () hf
      · replace hf := it_f c23 hf
        refine wk_iconst (v := (2 : Int32)) G dX7_isRule_90 (by decide) ?_
        refine wk_iload_n G 2 dX7_isRule_91 rfl rfl ?_
        refine wk_imul G dX7_isRule_92 ?_
        refine wk_aload_n G 0 dX7_isRule_93 rfl rfl ?_
        refine wk_get (ci := 7) (v := .int (M 56 0)) G iX7_isRule_X7 56 (by decide) (ck56 cI cZ ad (M 56)) rfl 0 (Nat.le_of_ble_eq_true rfl) kX7_isRule_101 rfl dX7_isRule_94 ?_
        refine wk_icmp_le (tgt := 104) G dX7_isRule_97 (by decide) (fun c24 => ?_) (fun c24 => ?_)
        · replace hf := it_t c24 hf
          refine wk_iconst (v := (0 : Int32)) G dX7_isRule_104 (by decide) ?_
          exact wk_rz G hr hlocks (Or.inl rfl) dX7_isRule_105 (congrArg (fun z => (z, M)) (Option.some.inj hf))
        · replace hf := it_f c24 hf
          refine wk_sub [] rfl ?_
          exact J100 () hf
    have Lq25 : (up2 fun (v13 : Int32) (v14 : Int32) => Wk p l e (headSpec wsX7_isRule rmX7_isRule).room s m args below meth c D cI cZ ad A 4 0 0 (QI below D cI cZ ad A args s r M) M 52 [(0, .ref (ad 56)), (1, .int v12), (2, .int v13), (3, .int v14)] []) ((0 : Int32), (0 : Int32)) := by
      refine loop_P (C := (up1 fun (v21 : Int32) => Wk p l e (headSpec wsX7_isRule rmX7_isRule).room s m args below meth c D cI cZ ad A 4 0 0 (QI below D cI cZ ad A args s r M) M 86 [(0, .ref (ad 56)), (1, .int v12), (2, .int v21)] [])) ?_ fu ((0 : Int32), (0 : Int32)) q25 q26 Cq25
      clear hf Cq25 q26
      rintro ⟨v13, v14⟩ o hf hI hE
      replace hf := un2_of hf
      show Wk p l e (headSpec wsX7_isRule rmX7_isRule).room s m args below meth c D cI cZ ad A 4 0 0 (QI below D cI cZ ad A args s r M) M 52 [(0, .ref (ad 56)), (1, .int v12), (2, .int v13), (3, .int v14)] []
      refine wk_iload_n G 3 dX7_isRule_52 rfl rfl ?_
      refine wk_aload_n G 0 dX7_isRule_53 rfl rfl ?_
      refine wk_get (ci := 7) (v := .int (M 56 0)) G iX7_isRule_X7 56 (by decide) (ck56 cI cZ ad (M 56)) rfl 0 (Nat.le_of_ble_eq_true rfl) kX7_isRule_101 rfl dX7_isRule_54 ?_
      refine wk_icmp_ge (tgt := 86) G dX7_isRule_57 (by decide) (fun c15 => ?_) (fun c15 => ?_)
      · replace hf := it_t c15 hf
        refine wk_sub [0, 1, 2] rfl ?_
        exact hE _ (Option.some.inj hf).symm
      · replace hf := it_f c15 hf
        refine wk_iload_n G 2 dX7_isRule_60 rfl rfl ?_
        refine wk_aload_n G 0 dX7_isRule_61 rfl rfl ?_
        refine wk_get (ci := 7) (v := .ref (ad 82)) G iX7_isRule_X7 56 (by decide) (ck56 cI cZ ad (M 56)) rfl 28 (Nat.le_of_ble_eq_true rfl) kX7_isRule_86 rfl dX7_isRule_62 ?_
        refine wk_iload_n G 3 dX7_isRule_65 rfl rfl ?_
        obtain ⟨h16, hf⟩ := gd_of hf
        refine wk_iald G 82 (by decide) (ck82 cI cZ ad) h16 dX7_isRule_66 ?_
        refine wk_iload_n G 1 dX7_isRule_67 rfl rfl ?_
        refine wk_iconst (v := (1 : Int32)) G dX7_isRule_68 (by decide) ?_
        refine wk_isub G dX7_isRule_69 ?_
        obtain ⟨j78, ej78, hf⟩ := nm_ex hf
        have J78 : ∀ (v17 : Int32), j78 v17 = some o → Wk p l e (headSpec wsX7_isRule rmX7_isRule).room s m args below meth c D cI cZ ad A 4 0 0 (QI below D cI cZ ad A args s r M) M 78 [(0, .ref (ad 56)), (1, .int v12), (3, .int v14)] [.int v17, .int v13] := by
          intro v17 hf
          replace hf := jn1 ej78 hf
          refine wk_iadd G dX7_isRule_78 ?_
          obtain ⟨v18, ev18, hf⟩ := nm_ex hf
          refine wk_nme ev18 ?_
          refine wk_istore_n (lv' := [(2, .int v18), (0, .ref (ad 56)), (1, .int v12), (3, .int v14)]) G dX7_isRule_79 rfl (by decide) rfl ?_
          obtain ⟨v19, ev19, hf⟩ := nm_ex hf
          refine wk_iinc (v := v19) (lv' := [(3, .int v19), (2, .int v18), (0, .ref (ad 56)), (1, .int v12)]) G 3 dX7_isRule_80 rfl (by rw [ev19]; rfl) (by decide) rfl ?_
          refine wk_goto (tgt := 52) G dX7_isRule_83 (by decide) ?_
          refine wk_sub [2, 3, 1, 0] rfl ?_
          exact hI _ (Option.some.inj hf).symm
        refine wk_icmp_lt (tgt := 77) G dX7_isRule_70 (by decide) (fun c20 => ?_) (fun c20 => ?_)
        · replace hf := it_t c20 hf
          refine wk_iconst (v := (0 : Int32)) G dX7_isRule_77 (by decide) ?_
          refine wk_sub [0, 1, 3] rfl ?_
          exact J78 (0 : Int32) hf
        · replace hf := it_f c20 hf
          refine wk_iconst (v := (1 : Int32)) G dX7_isRule_73 (by decide) ?_
          refine wk_goto (tgt := 78) G dX7_isRule_74 (by decide) ?_
          refine wk_sub [0, 1, 3] rfl ?_
          exact J78 (1 : Int32) hf
    exact Lq25
  have Lq27 : (up2 fun (v1 : Int32) (v2 : Int32) => Wk p l e (headSpec wsX7_isRule rmX7_isRule).room s m args below meth c D cI cZ ad A 4 0 0 (QI below D cI cZ ad A args s r M) M 4 [(0, .ref (ad 56)), (1, .int v1), (2, .int v2)] []) ((0 : Int32), (0 : Int32)) := by
    refine loop_P (C := (up1 fun (v12 : Int32) => Wk p l e (headSpec wsX7_isRule rmX7_isRule).room s m args below meth c D cI cZ ad A 4 0 0 (QI below D cI cZ ad A args s r M) M 48 [(0, .ref (ad 56)), (1, .int v12)] [])) ?_ fu ((0 : Int32), (0 : Int32)) q27 q28 Cq27
    clear hf Cq27 q28
    rintro ⟨v1, v2⟩ o hf hI hE
    replace hf := un2_of hf
    show Wk p l e (headSpec wsX7_isRule rmX7_isRule).room s m args below meth c D cI cZ ad A 4 0 0 (QI below D cI cZ ad A args s r M) M 4 [(0, .ref (ad 56)), (1, .int v1), (2, .int v2)] []
    refine wk_iload_n G 2 dX7_isRule_4 rfl rfl ?_
    refine wk_aload_n G 0 dX7_isRule_5 rfl rfl ?_
    refine wk_get (ci := 7) (v := .int (M 56 0)) G iX7_isRule_X7 56 (by decide) (ck56 cI cZ ad (M 56)) rfl 0 (Nat.le_of_ble_eq_true rfl) kX7_isRule_101 rfl dX7_isRule_6 ?_
    refine wk_icmp_ge (tgt := 48) G dX7_isRule_9 (by decide) (fun c3 => ?_) (fun c3 => ?_)
    · replace hf := it_t c3 hf
      refine wk_sub [0, 1] rfl ?_
      exact hE _ (Option.some.inj hf).symm
    · replace hf := it_f c3 hf
      refine wk_aload_n G 0 dX7_isRule_12 rfl rfl ?_
      refine wk_get (ci := 7) (v := .ref (ad 57)) G iX7_isRule_X7 56 (by decide) (ck56 cI cZ ad (M 56)) rfl 1 (Nat.le_of_ble_eq_true rfl) kX7_isRule_7 rfl dX7_isRule_13 ?_
      refine wk_iload_n G 2 dX7_isRule_16 rfl rfl ?_
      obtain ⟨h4, hf⟩ := gd_of hf
      refine wk_iald G 57 (by decide) (ck57 cI cZ ad) h4 dX7_isRule_17 ?_
      obtain ⟨j41, ej41, hf⟩ := nm_ex hf
      have J41 : ∀ (v5 : Int32), j41 v5 = some o → Wk p l e (headSpec wsX7_isRule rmX7_isRule).room s m args below meth c D cI cZ ad A 4 0 0 (QI below D cI cZ ad A args s r M) M 41 [(0, .ref (ad 56)), (2, .int v2)] [.int v5] := by
        intro v5 hf
        replace hf := jn1 ej41 hf
        refine wk_istore_n (lv' := [(1, .int v5), (0, .ref (ad 56)), (2, .int v2)]) G dX7_isRule_41 rfl (by decide) rfl ?_
        obtain ⟨v6, ev6, hf⟩ := nm_ex hf
        refine wk_iinc (v := v6) (lv' := [(2, .int v6), (1, .int v5), (0, .ref (ad 56))]) G 2 dX7_isRule_42 rfl (by rw [ev6]; rfl) (by decide) rfl ?_
        refine wk_goto (tgt := 4) G dX7_isRule_45 (by decide) ?_
        refine wk_sub [2, 1, 0] rfl ?_
        exact hI _ (Option.some.inj hf).symm
      obtain ⟨j40, ej40, hf⟩ := nm_ex hf
      have J40 : ∀ (u7 : Unit), j40 u7 = some o → Wk p l e (headSpec wsX7_isRule rmX7_isRule).room s m args below meth c D cI cZ ad A 4 0 0 (QI below D cI cZ ad A args s r M) M 40 [(0, .ref (ad 56)), (1, .int v1), (2, .int v2)] [] := by
        intro u7 hf
        replace hf := jn1 ej40 hf
        refine wk_iload_n G 1 dX7_isRule_40 rfl rfl ?_
        refine wk_sub [0, 2] rfl ?_
        exact J41 v1 hf
      refine wk_if_ne (tgt := 40) G dX7_isRule_18 (by decide) (fun c8 => ?_) (fun c8 => ?_)
      · replace hf := it_f c8 hf
        exact J40 () hf
      · replace hf := it_t c8 hf
        refine wk_aload_n G 0 dX7_isRule_21 rfl rfl ?_
        refine wk_get (ci := 7) (v := .ref (ad 82)) G iX7_isRule_X7 56 (by decide) (ck56 cI cZ ad (M 56)) rfl 28 (Nat.le_of_ble_eq_true rfl) kX7_isRule_86 rfl dX7_isRule_22 ?_
        refine wk_iload_n G 2 dX7_isRule_25 rfl rfl ?_
        obtain ⟨h9, hf⟩ := gd_of hf
        refine wk_iald G 82 (by decide) (ck82 cI cZ ad) h9 dX7_isRule_26 ?_
        refine wk_iload_n G 1 dX7_isRule_27 rfl rfl ?_
        refine wk_icmp_le (tgt := 40) G dX7_isRule_28 (by decide) (fun c10 => ?_) (fun c10 => ?_)
        · replace hf := it_t c10 hf
          exact J40 () hf
        · replace hf := it_f c10 hf
          refine wk_aload_n G 0 dX7_isRule_31 rfl rfl ?_
          refine wk_get (ci := 7) (v := .ref (ad 82)) G iX7_isRule_X7 56 (by decide) (ck56 cI cZ ad (M 56)) rfl 28 (Nat.le_of_ble_eq_true rfl) kX7_isRule_86 rfl dX7_isRule_32 ?_
          refine wk_iload_n G 2 dX7_isRule_35 rfl rfl ?_
          obtain ⟨h11, hf⟩ := gd_of hf
          refine wk_iald G 82 (by decide) (ck82 cI cZ ad) h11 dX7_isRule_36 ?_
          refine wk_goto (tgt := 41) G dX7_isRule_37 (by decide) ?_
          refine wk_sub [0, 2] rfl ?_
          exact J41 (M 82 (Int32.toNatClampNeg v2)) hf
  exact Lq27
def fX7_run (x1 : Int32) (x2 : Int32) (M : Mem) : Option Mem := gd x1 2 (nm (st M 65 (Int32.toNatClampNeg x1) x2) fun (M2 : Mem) => gd x1 2 (nm (st M2 66 (Int32.toNatClampNeg x1) (0 : Int32)) fun (M4 : Mem) => gd x1 2 (nm (st M4 67 (Int32.toNatClampNeg x1) (0 : Int32)) fun (M6 : Mem) => gd x1 2 (nm (st M6 68 (Int32.toNatClampNeg x1) (0 : Int32)) fun (M8 : Mem) => gd x1 2 (nm (st M8 69 (Int32.toNatClampNeg x1) (0 : Int32)) fun (M10 : Mem) => gd x1 2 (nm (st M10 70 (Int32.toNatClampNeg x1) (-1 : Int32)) fun (M12 : Mem) => nm (st M12 56 33 (0 : Int32)) fun (M13 : Mem) => (loop fu (un2 fun (v14 : Int32) (M15 : Mem) => (if (7 : Int32) ≤ v14 then (some (.inr M15)) else (gd v14 7 (nm (st M15 82 (Int32.toNatClampNeg v14) (0 : Int32)) fun (M18 : Mem) => gd v14 7 (gd v14 7 (nm (st M18 83 (Int32.toNatClampNeg v14) (M18 59 (Int32.toNatClampNeg v14))) fun (M21 : Mem) => gd v14 7 (nm (st M21 85 (Int32.toNatClampNeg v14) (vp_nar .boolean (0 : Int32))) fun (M23 : Mem) => nm (v14 + (1 : Int32)) fun (v24 : Int32) => some (.inl (v24, M23))))))) : Option ((Int32 × Mem) ⊕ (Mem)))) ((0 : Int32), M13)).bind (un1 fun (M25 : Mem) => (loop fu (un2 fun (v26 : Int32) (M27 : Mem) => (if (49 : Int32) ≤ v26 then (some (.inr M27)) else (gd v26 49 (nm (st M27 84 (Int32.toNatClampNeg v26) (0 : Int32)) fun (M30 : Mem) => nm (v26 + (1 : Int32)) fun (v31 : Int32) => some (.inl (v31, M30)))) : Option ((Int32 × Mem) ⊕ (Mem)))) ((0 : Int32), M25)).bind (un1 fun (M32 : Mem) => (loop fu (un2 fun (v33 : Int32) (M34 : Mem) => (if x2 ≤ v33 then (some (.inr M34)) else ((fX7_happen v33 M34).bind (fun (M36 : Mem) => (fX7_takeIn x1 v33 M36).bind (fun (M38 : Mem) => (fX7_grow M38).bind (fun (M40 : Mem) => (loop fu (un2 fun (v42 : Int32) (M43 : Mem) => (if (M43 56 0) ≤ v42 then (some (.inr M43)) else (gd v42 7 (nm (fun (M46 : Mem) => gd v42 7 (gd ((((420 : Int32) * x1) + ((7 : Int32) * v33)) + v42) 840 (nm (st M46 71 (Int32.toNatClampNeg ((((420 : Int32) * x1) + ((7 : Int32) * v33)) + v42)) (M46 82 (Int32.toNatClampNeg v42))) fun (M49 : Mem) => nm (v42 + (1 : Int32)) fun (v50 : Int32) => some (.inl (v50, M49))))) fun j214 => if (M43 85 (Int32.toNatClampNeg v42)) = 0 then (gd v42 7 (if (M43 57 (Int32.toNatClampNeg v42)) = (2 : Int32) then (j214 M43) else (gd v42 7 (nm (fun (u55 : Unit) => (loop fu (un2 fun (v56 : Int32) (M57 : Mem) => (if (M57 56 0) ≤ v56 then (some (.inr M57)) else (nm (fun (M59 : Mem) => nm (v56 + (1 : Int32)) fun (v60 : Int32) => some (.inl (v60, M59))) fun j208 => if v56 = v42 then (j208 M57) else ((fX7_send x1 v33 v42 v56 M57).bind (fun (M62 : Mem) => j208 M62))) : Option ((Int32 × Mem) ⊕ (Mem)))) ((0 : Int32), M43)).bind (un1 fun (M64 : Mem) => j214 M64)) fun j179 => if (M43 86 (Int32.toNatClampNeg v42)) = 0 then (if (v33 - v33 / (4 : Int32) * (4 : Int32)) = 0 then (j179 ()) else (j214 M43)) else (j179 ()))))) else (j214 M43))) : Option ((Int32 × Mem) ⊕ (Mem)))) ((0 : Int32), M40)).bind (un1 fun (M69 : Mem) => (fX7_isRule M69).bind (fun (r70 : Int32) => gd (((60 : Int32) * x1) + v33) 120 (nm (st M69 72 (Int32.toNatClampNeg (((60 : Int32) * x1) + v33)) (vp_nar .boolean r70)) fun (M73 : Mem) => gd x1 2 (nm (fun (v75 : Int32) => gd x1 2 (nm (st M73 70 (Int32.toNatClampNeg x1) v75) fun (M77 : Mem) => nm (v33 + (1 : Int32)) fun (v78 : Int32) => some (.inl (v78, M77)))) fun j291 => nm (fun (u79 : Unit) => gd x1 2 (j291 (M73 70 (Int32.toNatClampNeg x1)))) fun j285 => if 0 ≤ (M73 70 (Int32.toNatClampNeg x1)) then (j285 ()) else ((fX7_isRule M73).bind (fun (r82 : Int32) => if r82 = 0 then (j291 v33) else (j285 ()))))))))))) : Option ((Int32 × Mem) ⊕ (Mem)))) ((0 : Int32), M32)).bind (un1 fun (M87 : Mem) => (loop fu (un2 fun (v88 : Int32) (M89 : Mem) => (if (7 : Int32) ≤ v88 then (some (.inr M89)) else (gd v88 7 (gd (((7 : Int32) * x1) + v88) 14 (nm (st M89 73 (Int32.toNatClampNeg (((7 : Int32) * x1) + v88)) (M89 83 (Int32.toNatClampNeg v88))) fun (M93 : Mem) => nm (v88 + (1 : Int32)) fun (v94 : Int32) => some (.inl (v94, M93))))) : Option ((Int32 × Mem) ⊕ (Mem)))) ((0 : Int32), M87)).bind (un1 fun (M95 : Mem) => some M95))))))))))
theorem iX7_run_X7 : ∀ w ∈ wsX70, w ∈ wsX7_run := by decide +kernel
theorem kX7_run_7 : Cond.fieldLink RX7 7 "PartitionPlayModel" "behaviour" "[I" ∈ wsX7_run := by decide +kernel
theorem kX7_run_16 : Cond.fieldLink RX7 16 "PartitionPlayModel" "rumours" "[I" ∈ wsX7_run := by decide +kernel
theorem kX7_run_35 : Cond.fieldLink RX7 35 "PartitionPlayModel" "turns" "[I" ∈ wsX7_run := by decide +kernel
theorem kX7_run_38 : Cond.fieldLink RX7 38 "PartitionPlayModel" "letters" "[I" ∈ wsX7_run := by decide +kernel
theorem kX7_run_41 : Cond.fieldLink RX7 41 "PartitionPlayModel" "lost" "[I" ∈ wsX7_run := by decide +kernel
theorem kX7_run_44 : Cond.fieldLink RX7 44 "PartitionPlayModel" "taken" "[I" ∈ wsX7_run := by decide +kernel
theorem kX7_run_47 : Cond.fieldLink RX7 47 "PartitionPlayModel" "gone" "[I" ∈ wsX7_run := by decide +kernel
theorem kX7_run_50 : Cond.fieldLink RX7 50 "PartitionPlayModel" "failed" "[I" ∈ wsX7_run := by decide +kernel
theorem kX7_run_53 : Cond.fieldLink RX7 53 "PartitionPlayModel" "heights" "[I" ∈ wsX7_run := by decide +kernel
theorem kX7_run_56 : Cond.fieldLink RX7 56 "PartitionPlayModel" "held" "[Z" ∈ wsX7_run := by decide +kernel
theorem kX7_run_59 : Cond.fieldLink RX7 59 "PartitionPlayModel" "known" "[I" ∈ wsX7_run := by decide +kernel
theorem kX7_run_86 : Cond.fieldLink RX7 86 "PartitionPlayModel" "now" "[I" ∈ wsX7_run := by decide +kernel
theorem kX7_run_89 : Cond.fieldLink RX7 89 "PartitionPlayModel" "knows" "[I" ∈ wsX7_run := by decide +kernel
theorem kX7_run_92 : Cond.fieldLink RX7 92 "PartitionPlayModel" "shown" "[I" ∈ wsX7_run := by decide +kernel
theorem kX7_run_95 : Cond.fieldLink RX7 95 "PartitionPlayModel" "isDown" "[Z" ∈ wsX7_run := by decide +kernel
theorem kX7_run_98 : Cond.fieldLink RX7 98 "PartitionPlayModel" "grew" "[Z" ∈ wsX7_run := by decide +kernel
theorem kX7_run_101 : Cond.fieldLink RX7 101 "PartitionPlayModel" "n" "I" ∈ wsX7_run := by decide +kernel
theorem kX7_run_124 : Cond.fieldLink RX7 124 "PartitionPlayModel" "group" "I" ∈ wsX7_run := by decide +kernel
abbrev rmX7_run : Room := { frames := 3, cells := 0, slots := 0, locals := 73 }
set_option maxRecDepth 100000 in
set_option maxHeartbeats 4000000 in
theorem c_X7_run (l : Launch) (D : va_G) (cI cZ : ClassId) (ad : Nat → Nat) (x1 : Int32) (x2 : Int32) (M : Mem) (M' : Mem) (hf : fX7_run x1 x2 M = some M') : MetV l yX7_run wsX7_run rmX7_run D cI cZ ad [.ref (ad 56), .int x1, .int x2] M M' := by
  refine met_v (cc := cX7_run) (nL := 6) (ret := none) (own := RX7) (by decide) rfl rfl (Nat.le_of_ble_eq_true rfl) ?_
  intro p e s m args below meth c A G hr hlocks
  unfold fX7_run at hf
  show Wk p l e (headSpec wsX7_run rmX7_run).room s m args below meth c D cI cZ ad A 6 0 0 (QV below D cI cZ ad A args s M') M 0 [(0, .ref (ad 56)), (1, .int x1), (2, .int x2)] []
  refine wk_aload_n G 0 dX7_run_0 rfl rfl ?_
  refine wk_get (ci := 7) (v := .ref (ad 65)) G iX7_run_X7 56 (by decide) (ck56 cI cZ ad (M 56)) rfl 11 (Nat.le_of_ble_eq_true rfl) kX7_run_35 rfl dX7_run_1 ?_
  refine wk_iload_n G 1 dX7_run_4 rfl rfl ?_
  refine wk_iload_n G 2 dX7_run_5 rfl rfl ?_
  obtain ⟨h1, hf⟩ := gd_of hf
  obtain ⟨M2, eM2, hf⟩ := nm_ex hf
  refine wk_iast G 65 (by decide) (ck65 cI cZ ad) h1 dX7_run_6 eM2 ?_
  refine wk_aload_n G 0 dX7_run_7 rfl rfl ?_
  refine wk_get (ci := 7) (v := .ref (ad 66)) G iX7_run_X7 56 (by decide) (ck56 cI cZ ad (M2 56)) rfl 12 (Nat.le_of_ble_eq_true rfl) kX7_run_38 rfl dX7_run_8 ?_
  refine wk_iload_n G 1 dX7_run_11 rfl rfl ?_
  refine wk_iconst (v := (0 : Int32)) G dX7_run_12 (by decide) ?_
  obtain ⟨h3, hf⟩ := gd_of hf
  obtain ⟨M4, eM4, hf⟩ := nm_ex hf
  refine wk_iast G 66 (by decide) (ck66 cI cZ ad) h3 dX7_run_13 eM4 ?_
  refine wk_aload_n G 0 dX7_run_14 rfl rfl ?_
  refine wk_get (ci := 7) (v := .ref (ad 67)) G iX7_run_X7 56 (by decide) (ck56 cI cZ ad (M4 56)) rfl 13 (Nat.le_of_ble_eq_true rfl) kX7_run_41 rfl dX7_run_15 ?_
  refine wk_iload_n G 1 dX7_run_18 rfl rfl ?_
  refine wk_iconst (v := (0 : Int32)) G dX7_run_19 (by decide) ?_
  obtain ⟨h5, hf⟩ := gd_of hf
  obtain ⟨M6, eM6, hf⟩ := nm_ex hf
  refine wk_iast G 67 (by decide) (ck67 cI cZ ad) h5 dX7_run_20 eM6 ?_
  refine wk_aload_n G 0 dX7_run_21 rfl rfl ?_
  refine wk_get (ci := 7) (v := .ref (ad 68)) G iX7_run_X7 56 (by decide) (ck56 cI cZ ad (M6 56)) rfl 14 (Nat.le_of_ble_eq_true rfl) kX7_run_44 rfl dX7_run_22 ?_
  refine wk_iload_n G 1 dX7_run_25 rfl rfl ?_
  refine wk_iconst (v := (0 : Int32)) G dX7_run_26 (by decide) ?_
  obtain ⟨h7, hf⟩ := gd_of hf
  obtain ⟨M8, eM8, hf⟩ := nm_ex hf
  refine wk_iast G 68 (by decide) (ck68 cI cZ ad) h7 dX7_run_27 eM8 ?_
  refine wk_aload_n G 0 dX7_run_28 rfl rfl ?_
  refine wk_get (ci := 7) (v := .ref (ad 69)) G iX7_run_X7 56 (by decide) (ck56 cI cZ ad (M8 56)) rfl 15 (Nat.le_of_ble_eq_true rfl) kX7_run_47 rfl dX7_run_29 ?_
  refine wk_iload_n G 1 dX7_run_32 rfl rfl ?_
  refine wk_iconst (v := (0 : Int32)) G dX7_run_33 (by decide) ?_
  obtain ⟨h9, hf⟩ := gd_of hf
  obtain ⟨M10, eM10, hf⟩ := nm_ex hf
  refine wk_iast G 69 (by decide) (ck69 cI cZ ad) h9 dX7_run_34 eM10 ?_
  refine wk_aload_n G 0 dX7_run_35 rfl rfl ?_
  refine wk_get (ci := 7) (v := .ref (ad 70)) G iX7_run_X7 56 (by decide) (ck56 cI cZ ad (M10 56)) rfl 16 (Nat.le_of_ble_eq_true rfl) kX7_run_50 rfl dX7_run_36 ?_
  refine wk_iload_n G 1 dX7_run_39 rfl rfl ?_
  refine wk_iconst (v := (-1 : Int32)) G dX7_run_40 (by decide) ?_
  obtain ⟨h11, hf⟩ := gd_of hf
  obtain ⟨M12, eM12, hf⟩ := nm_ex hf
  refine wk_iast G 70 (by decide) (ck70 cI cZ ad) h11 dX7_run_41 eM12 ?_
  refine wk_aload_n G 0 dX7_run_42 rfl rfl ?_
  refine wk_iconst (v := (0 : Int32)) G dX7_run_43 (by decide) ?_
  obtain ⟨M13, eM13, hf⟩ := nm_ex hf
  refine wk_put (ci := 7) G iX7_run_X7 tyX7 tyX7_ok nmX7 56 (by decide) (ck56 cI cZ ad (M12 56)) rfl 33 (Nat.le_of_ble_eq_true rfl) kX7_run_124 rfl (by decide +kernel) (Nat.le_of_ble_eq_true rfl) (cp56_33 cI cZ ad (M12 56) (0 : Int32)) dX7_run_44 eM13 ?_
  refine wk_iconst (v := (0 : Int32)) G dX7_run_47 (by decide) ?_
  refine wk_istore_n (lv' := [(3, .int (0 : Int32)), (0, .ref (ad 56)), (1, .int x1), (2, .int x2)]) G dX7_run_48 rfl (by decide) rfl ?_
  refine wk_sub [1, 2, 3, 0] rfl ?_
  obtain ⟨q102, q103, hf⟩ := bd_of hf
  have Cq102 : (up1 fun (M25 : Mem) => Wk p l e (headSpec wsX7_run rmX7_run).room s m args below meth c D cI cZ ad A 6 0 0 (QV below D cI cZ ad A args s M') M25 87 [(0, .ref (ad 56)), (1, .int x1), (2, .int x2)] []) q102 := by
    obtain ⟨M25, rfl⟩ : ∃ z, z = q102 := ⟨_, rfl⟩
    replace hf := un1_of hf
    show Wk p l e (headSpec wsX7_run rmX7_run).room s m args below meth c D cI cZ ad A 6 0 0 (QV below D cI cZ ad A args s M') M25 87 [(0, .ref (ad 56)), (1, .int x1), (2, .int x2)] []
    refine wk_iconst (v := (0 : Int32)) G dX7_run_87 (by decide) ?_
    refine wk_istore_n (lv' := [(3, .int (0 : Int32)), (0, .ref (ad 56)), (1, .int x1), (2, .int x2)]) G dX7_run_88 rfl (by decide) rfl ?_
    refine wk_sub [1, 2, 3, 0] rfl ?_
    obtain ⟨q100, q101, hf⟩ := bd_of hf
    have Cq100 : (up1 fun (M32 : Mem) => Wk p l e (headSpec wsX7_run rmX7_run).room s m args below meth c D cI cZ ad A 6 0 0 (QV below D cI cZ ad A args s M') M32 108 [(0, .ref (ad 56)), (1, .int x1), (2, .int x2)] []) q100 := by
      obtain ⟨M32, rfl⟩ : ∃ z, z = q100 := ⟨_, rfl⟩
      replace hf := un1_of hf
      show Wk p l e (headSpec wsX7_run rmX7_run).room s m args below meth c D cI cZ ad A 6 0 0 (QV below D cI cZ ad A args s M') M32 108 [(0, .ref (ad 56)), (1, .int x1), (2, .int x2)] []
      refine wk_iconst (v := (0 : Int32)) G dX7_run_108 (by decide) ?_
      refine wk_istore_n (lv' := [(3, .int (0 : Int32)), (0, .ref (ad 56)), (1, .int x1), (2, .int x2)]) G dX7_run_109 rfl (by decide) rfl ?_
      refine wk_sub [1, 2, 3, 0] rfl ?_
      obtain ⟨q98, q99, hf⟩ := bd_of hf
      have Cq98 : (up1 fun (M87 : Mem) => Wk p l e (headSpec wsX7_run rmX7_run).room s m args below meth c D cI cZ ad A 6 0 0 (QV below D cI cZ ad A args s M') M87 298 [(0, .ref (ad 56)), (1, .int x1)] []) q98 := by
        obtain ⟨M87, rfl⟩ : ∃ z, z = q98 := ⟨_, rfl⟩
        replace hf := un1_of hf
        show Wk p l e (headSpec wsX7_run rmX7_run).room s m args below meth c D cI cZ ad A 6 0 0 (QV below D cI cZ ad A args s M') M87 298 [(0, .ref (ad 56)), (1, .int x1)] []
        refine wk_iconst (v := (0 : Int32)) G dX7_run_298 (by decide) ?_
        refine wk_istore_n (lv' := [(3, .int (0 : Int32)), (0, .ref (ad 56)), (1, .int x1)]) G dX7_run_299 rfl (by decide) rfl ?_
        refine wk_sub [1, 2, 0] rfl ?_
        obtain ⟨q96, q97, hf⟩ := bd_of hf
        have Cq96 : (up1 fun (M95 : Mem) => Wk p l e (headSpec wsX7_run rmX7_run).room s m args below meth c D cI cZ ad A 6 0 0 (QV below D cI cZ ad A args s M') M95 329 [] []) q96 := by
          obtain ⟨M95, rfl⟩ : ∃ z, z = q96 := ⟨_, rfl⟩
          replace hf := un1_of hf
          show Wk p l e (headSpec wsX7_run rmX7_run).room s m args below meth c D cI cZ ad A 6 0 0 (QV below D cI cZ ad A args s M') M95 329 [] []
          exact wk_rv G hr hlocks dX7_run_329 (Option.some.inj hf)
        have Lq96 : (up2 fun (v88 : Int32) (M89 : Mem) => Wk p l e (headSpec wsX7_run rmX7_run).room s m args below meth c D cI cZ ad A 6 0 0 (QV below D cI cZ ad A args s M') M89 300 [(0, .ref (ad 56)), (1, .int x1), (3, .int v88)] []) ((0 : Int32), M87) := by
          refine loop_P (C := (up1 fun (M95 : Mem) => Wk p l e (headSpec wsX7_run rmX7_run).room s m args below meth c D cI cZ ad A 6 0 0 (QV below D cI cZ ad A args s M') M95 329 [] [])) ?_ fu ((0 : Int32), M87) q96 q97 Cq96
          clear hf Cq96 q97
          rintro ⟨v88, M89⟩ o hf hI hE
          replace hf := un2_of hf
          show Wk p l e (headSpec wsX7_run rmX7_run).room s m args below meth c D cI cZ ad A 6 0 0 (QV below D cI cZ ad A args s M') M89 300 [(0, .ref (ad 56)), (1, .int x1), (3, .int v88)] []
          refine wk_iload_n G 2 dX7_run_300 rfl rfl ?_
          refine wk_bipush (v := (7 : Int32)) G dX7_run_301 (by decide) ?_
          refine wk_icmp_ge (tgt := 329) G dX7_run_303 (by decide) (fun c90 => ?_) (fun c90 => ?_)
          · replace hf := it_t c90 hf
            refine wk_sub [] rfl ?_
            exact hE _ (Option.some.inj hf).symm
          · replace hf := it_f c90 hf
            refine wk_aload_n G 0 dX7_run_306 rfl rfl ?_
            refine wk_get (ci := 7) (v := .ref (ad 73)) G iX7_run_X7 56 (by decide) (ck56 cI cZ ad (M89 56)) rfl 19 (Nat.le_of_ble_eq_true rfl) kX7_run_59 rfl dX7_run_307 ?_
            refine wk_bipush (v := (7 : Int32)) G dX7_run_310 (by decide) ?_
            refine wk_iload_n G 1 dX7_run_312 rfl rfl ?_
            refine wk_imul G dX7_run_313 ?_
            refine wk_iload_n G 2 dX7_run_314 rfl rfl ?_
            refine wk_iadd G dX7_run_315 ?_
            refine wk_aload_n G 0 dX7_run_316 rfl rfl ?_
            refine wk_get (ci := 7) (v := .ref (ad 83)) G iX7_run_X7 56 (by decide) (ck56 cI cZ ad (M89 56)) rfl 29 (Nat.le_of_ble_eq_true rfl) kX7_run_89 rfl dX7_run_317 ?_
            refine wk_iload_n G 2 dX7_run_320 rfl rfl ?_
            obtain ⟨h91, hf⟩ := gd_of hf
            refine wk_iald G 83 (by decide) (ck83 cI cZ ad) h91 dX7_run_321 ?_
            obtain ⟨h92, hf⟩ := gd_of hf
            obtain ⟨M93, eM93, hf⟩ := nm_ex hf
            refine wk_iast G 73 (by decide) (ck73 cI cZ ad) h92 dX7_run_322 eM93 ?_
            obtain ⟨v94, ev94, hf⟩ := nm_ex hf
            refine wk_iinc (v := v94) (lv' := [(3, .int v94), (0, .ref (ad 56)), (1, .int x1)]) G 2 dX7_run_323 rfl (by rw [ev94]; rfl) (by decide) rfl ?_
            refine wk_goto (tgt := 300) G dX7_run_326 (by decide) ?_
            refine wk_sub [1, 2, 0] rfl ?_
            exact hI _ (Option.some.inj hf).symm
        exact Lq96
      have Lq98 : (up2 fun (v33 : Int32) (M34 : Mem) => Wk p l e (headSpec wsX7_run rmX7_run).room s m args below meth c D cI cZ ad A 6 0 0 (QV below D cI cZ ad A args s M') M34 110 [(0, .ref (ad 56)), (1, .int x1), (2, .int x2), (3, .int v33)] []) ((0 : Int32), M32) := by
        refine loop_P (C := (up1 fun (M87 : Mem) => Wk p l e (headSpec wsX7_run rmX7_run).room s m args below meth c D cI cZ ad A 6 0 0 (QV below D cI cZ ad A args s M') M87 298 [(0, .ref (ad 56)), (1, .int x1)] [])) ?_ fu ((0 : Int32), M32) q98 q99 Cq98
        clear hf Cq98 q99
        rintro ⟨v33, M34⟩ o hf hI hE
        replace hf := un2_of hf
        show Wk p l e (headSpec wsX7_run rmX7_run).room s m args below meth c D cI cZ ad A 6 0 0 (QV below D cI cZ ad A args s M') M34 110 [(0, .ref (ad 56)), (1, .int x1), (2, .int x2), (3, .int v33)] []
        refine wk_iload_n G 3 dX7_run_110 rfl rfl ?_
        refine wk_iload_n G 2 dX7_run_111 rfl rfl ?_
        refine wk_icmp_ge (tgt := 298) G dX7_run_112 (by decide) (fun c35 => ?_) (fun c35 => ?_)
        · replace hf := it_t c35 hf
          refine wk_sub [0, 1] rfl ?_
          exact hE _ (Option.some.inj hf).symm
        · replace hf := it_f c35 hf
          refine wk_aload_n G 0 dX7_run_115 rfl rfl ?_
          refine wk_iload_n G 3 dX7_run_116 rfl rfl ?_
          obtain ⟨M36, q37, hf⟩ := bd_of hf
          refine wk_callVv (As := [.int v33]) (rest := []) (ci := 7) G 56 (by decide) (c_X7_happen l D cI cZ ad v33 M34 M36 q37) (cwV 1 G.2.2.2.2.1 gX7_run_X7_happen rfl rfl rfl (by decide +kernel) ⟨Nat.le_of_ble_eq_true rfl, Nat.le_of_ble_eq_true rfl⟩) (ck56 cI cZ ad (M34 56)) rfl rfl rfl (Nat.le_of_ble_eq_true rfl) dX7_run_117 ⟨Nat.le_of_ble_eq_true rfl, Nat.le_of_ble_eq_true rfl⟩ ?_
          refine wk_aload_n G 0 dX7_run_120 rfl rfl ?_
          refine wk_iload_n G 1 dX7_run_121 rfl rfl ?_
          refine wk_iload_n G 3 dX7_run_122 rfl rfl ?_
          obtain ⟨M38, q39, hf⟩ := bd_of hf
          refine wk_callVv (As := [.int x1, .int v33]) (rest := []) (ci := 7) G 56 (by decide) (c_X7_takeIn l D cI cZ ad x1 v33 M36 M38 q39) (cwV 2 G.2.2.2.2.1 gX7_run_X7_takeIn rfl rfl rfl (by decide +kernel) ⟨Nat.le_of_ble_eq_true rfl, Nat.le_of_ble_eq_true rfl⟩) (ck56 cI cZ ad (M36 56)) rfl rfl rfl (Nat.le_of_ble_eq_true rfl) dX7_run_123 ⟨Nat.le_of_ble_eq_true rfl, Nat.le_of_ble_eq_true rfl⟩ ?_
          refine wk_aload_n G 0 dX7_run_126 rfl rfl ?_
          obtain ⟨M40, q41, hf⟩ := bd_of hf
          refine wk_callVv (As := []) (rest := []) (ci := 7) G 56 (by decide) (c_X7_grow l D cI cZ ad M38 M40 q41) (cwV 0 G.2.2.2.2.1 gX7_run_X7_grow rfl rfl rfl (by decide +kernel) ⟨Nat.le_of_ble_eq_true rfl, Nat.le_of_ble_eq_true rfl⟩) (ck56 cI cZ ad (M38 56)) rfl rfl rfl (Nat.le_of_ble_eq_true rfl) dX7_run_127 ⟨Nat.le_of_ble_eq_true rfl, Nat.le_of_ble_eq_true rfl⟩ ?_
          refine wk_iconst (v := (0 : Int32)) G dX7_run_130 (by decide) ?_
          refine wk_istore (lv' := [(4, .int (0 : Int32)), (0, .ref (ad 56)), (1, .int x1), (2, .int x2), (3, .int v33)]) G dX7_run_131 (by decide) rfl ?_
          refine wk_sub [1, 2, 3, 4, 0] rfl ?_
          obtain ⟨q85, q86, hf⟩ := bd_of hf
          have Cq85 : (up1 fun (M69 : Mem) => Wk p l e (headSpec wsX7_run rmX7_run).room s m args below meth c D cI cZ ad A 6 0 0 (QV below D cI cZ ad A args s M') M69 245 [(0, .ref (ad 56)), (1, .int x1), (2, .int x2), (3, .int v33)] []) q85 := by
            obtain ⟨M69, rfl⟩ : ∃ z, z = q85 := ⟨_, rfl⟩
            replace hf := un1_of hf
            show Wk p l e (headSpec wsX7_run rmX7_run).room s m args below meth c D cI cZ ad A 6 0 0 (QV below D cI cZ ad A args s M') M69 245 [(0, .ref (ad 56)), (1, .int x1), (2, .int x2), (3, .int v33)] []
            refine wk_aload_n G 0 dX7_run_245 rfl rfl ?_
            refine wk_get (ci := 7) (v := .ref (ad 72)) G iX7_run_X7 56 (by decide) (ck56 cI cZ ad (M69 56)) rfl 18 (Nat.le_of_ble_eq_true rfl) kX7_run_56 rfl dX7_run_246 ?_
            refine wk_bipush (v := (60 : Int32)) G dX7_run_249 (by decide) ?_
            refine wk_iload_n G 1 dX7_run_251 rfl rfl ?_
            refine wk_imul G dX7_run_252 ?_
            refine wk_iload_n G 3 dX7_run_253 rfl rfl ?_
            refine wk_iadd G dX7_run_254 ?_
            refine wk_aload_n G 0 dX7_run_255 rfl rfl ?_
            obtain ⟨r70, q71, hf⟩ := bd_of hf
            refine wk_callVi (As := []) (rest := [.int (((60 : Int32) * x1) + v33), .ref (ad 72)]) (ci := 7) G 56 (by decide) (c_X7_isRule l D cI cZ ad M69 r70 q71) (cwV 0 G.2.2.2.2.1 gX7_run_X7_isRule rfl rfl rfl (by decide +kernel) ⟨Nat.le_of_ble_eq_true rfl, Nat.le_of_ble_eq_true rfl⟩) (ck56 cI cZ ad (M69 56)) rfl rfl rfl (Nat.le_of_ble_eq_true rfl) dX7_run_256 ⟨Nat.le_of_ble_eq_true rfl, Nat.le_of_ble_eq_true rfl⟩ ?_
            obtain ⟨h72, hf⟩ := gd_of hf
            obtain ⟨M73, eM73, hf⟩ := nm_ex hf
            refine wk_zast G 72 (by decide) (ck72 cI cZ ad) h72 dX7_run_259 eM73 ?_
            refine wk_aload_n G 0 dX7_run_260 rfl rfl ?_
            refine wk_get (ci := 7) (v := .ref (ad 70)) G iX7_run_X7 56 (by decide) (ck56 cI cZ ad (M73 56)) rfl 16 (Nat.le_of_ble_eq_true rfl) kX7_run_50 rfl dX7_run_261 ?_
            refine wk_iload_n G 1 dX7_run_264 rfl rfl ?_
            refine wk_aload_n G 0 dX7_run_265 rfl rfl ?_
            refine wk_get (ci := 7) (v := .ref (ad 70)) G iX7_run_X7 56 (by decide) (ck56 cI cZ ad (M73 56)) rfl 16 (Nat.le_of_ble_eq_true rfl) kX7_run_50 rfl dX7_run_266 ?_
            refine wk_iload_n G 1 dX7_run_269 rfl rfl ?_
            obtain ⟨h74, hf⟩ := gd_of hf
            refine wk_iald G 70 (by decide) (ck70 cI cZ ad) h74 dX7_run_270 ?_
            obtain ⟨j291, ej291, hf⟩ := nm_ex hf
            have J291 : ∀ (v75 : Int32), j291 v75 = some o → Wk p l e (headSpec wsX7_run rmX7_run).room s m args below meth c D cI cZ ad A 6 0 0 (QV below D cI cZ ad A args s M') M73 291 [(0, .ref (ad 56)), (1, .int x1), (2, .int x2), (3, .int v33)] [.int v75, .int x1, .ref (ad 70)] := by
              intro v75 hf
              replace hf := jn1 ej291 hf
              obtain ⟨h76, hf⟩ := gd_of hf
              obtain ⟨M77, eM77, hf⟩ := nm_ex hf
              refine wk_iast G 70 (by decide) (ck70 cI cZ ad) h76 dX7_run_291 eM77 ?_
              obtain ⟨v78, ev78, hf⟩ := nm_ex hf
              refine wk_iinc (v := v78) (lv' := [(3, .int v78), (0, .ref (ad 56)), (1, .int x1), (2, .int x2)]) G 3 dX7_run_292 rfl (by rw [ev78]; rfl) (by decide) rfl ?_
              refine wk_goto (tgt := 110) G dX7_run_295 (by decide) ?_
              refine wk_sub [1, 2, 3, 0] rfl ?_
              exact hI _ (Option.some.inj hf).symm
            obtain ⟨j285, ej285, hf⟩ := nm_ex hf
            have J285 : ∀ (u79 : Unit), j285 u79 = some o → Wk p l e (headSpec wsX7_run rmX7_run).room s m args below meth c D cI cZ ad A 6 0 0 (QV below D cI cZ ad A args s M') M73 285 [(0, .ref (ad 56)), (1, .int x1), (2, .int x2), (3, .int v33)] [.int x1, .ref (ad 70)] := by
              intro u79 hf
              replace hf := jn1 ej285 hf
              refine wk_aload_n G 0 dX7_run_285 rfl rfl ?_
              refine wk_get (ci := 7) (v := .ref (ad 70)) G iX7_run_X7 56 (by decide) (ck56 cI cZ ad (M73 56)) rfl 16 (Nat.le_of_ble_eq_true rfl) kX7_run_50 rfl dX7_run_286 ?_
              refine wk_iload_n G 1 dX7_run_289 rfl rfl ?_
              obtain ⟨h80, hf⟩ := gd_of hf
              refine wk_iald G 70 (by decide) (ck70 cI cZ ad) h80 dX7_run_290 ?_
              exact J291 (M73 70 (Int32.toNatClampNeg x1)) hf
            refine wk_if_ge (tgt := 285) G dX7_run_271 (by decide) (fun c81 => ?_) (fun c81 => ?_)
            · replace hf := it_t c81 hf
              exact J285 () hf
            · replace hf := it_f c81 hf
              refine wk_aload_n G 0 dX7_run_274 rfl rfl ?_
              obtain ⟨r82, q83, hf⟩ := bd_of hf
              refine wk_callVi (As := []) (rest := [.int x1, .ref (ad 70)]) (ci := 7) G 56 (by decide) (c_X7_isRule l D cI cZ ad M73 r82 q83) (cwV 0 G.2.2.2.2.1 gX7_run_X7_isRule rfl rfl rfl (by decide +kernel) ⟨Nat.le_of_ble_eq_true rfl, Nat.le_of_ble_eq_true rfl⟩) (ck56 cI cZ ad (M73 56)) rfl rfl rfl (Nat.le_of_ble_eq_true rfl) dX7_run_275 ⟨Nat.le_of_ble_eq_true rfl, Nat.le_of_ble_eq_true rfl⟩ ?_
              refine wk_if_ne (tgt := 285) G dX7_run_278 (by decide) (fun c84 => ?_) (fun c84 => ?_)
              · replace hf := it_f c84 hf
                exact J285 () hf
              · replace hf := it_t c84 hf
                refine wk_iload_n G 3 dX7_run_281 rfl rfl ?_
                refine wk_goto (tgt := 291) G dX7_run_282 (by decide) ?_
                exact J291 v33 hf
          have Lq85 : (up2 fun (v42 : Int32) (M43 : Mem) => Wk p l e (headSpec wsX7_run rmX7_run).room s m args below meth c D cI cZ ad A 6 0 0 (QV below D cI cZ ad A args s M') M43 133 [(0, .ref (ad 56)), (1, .int x1), (2, .int x2), (3, .int v33), (4, .int v42)] []) ((0 : Int32), M40) := by
            refine loop_P (C := (up1 fun (M69 : Mem) => Wk p l e (headSpec wsX7_run rmX7_run).room s m args below meth c D cI cZ ad A 6 0 0 (QV below D cI cZ ad A args s M') M69 245 [(0, .ref (ad 56)), (1, .int x1), (2, .int x2), (3, .int v33)] [])) ?_ fu ((0 : Int32), M40) q85 q86 Cq85
            clear hf Cq85 q86
            rintro ⟨v42, M43⟩ o hf hI hE
            replace hf := un2_of hf
            show Wk p l e (headSpec wsX7_run rmX7_run).room s m args below meth c D cI cZ ad A 6 0 0 (QV below D cI cZ ad A args s M') M43 133 [(0, .ref (ad 56)), (1, .int x1), (2, .int x2), (3, .int v33), (4, .int v42)] []
            refine wk_iload G 4 dX7_run_133 rfl ?_
            refine wk_aload_n G 0 dX7_run_135 rfl rfl ?_
            refine wk_get (ci := 7) (v := .int (M43 56 0)) G iX7_run_X7 56 (by decide) (ck56 cI cZ ad (M43 56)) rfl 0 (Nat.le_of_ble_eq_true rfl) kX7_run_101 rfl dX7_run_136 ?_
            refine wk_icmp_ge (tgt := 245) G dX7_run_139 (by decide) (fun c44 => ?_) (fun c44 => ?_)
            · replace hf := it_t c44 hf
              refine wk_sub [0, 1, 2, 3] rfl ?_
              exact hE _ (Option.some.inj hf).symm
            · replace hf := it_f c44 hf
              refine wk_aload_n G 0 dX7_run_142 rfl rfl ?_
              refine wk_get (ci := 7) (v := .ref (ad 85)) G iX7_run_X7 56 (by decide) (ck56 cI cZ ad (M43 56)) rfl 31 (Nat.le_of_ble_eq_true rfl) kX7_run_95 rfl dX7_run_143 ?_
              refine wk_iload G 4 dX7_run_146 rfl ?_
              obtain ⟨h45, hf⟩ := gd_of hf
              refine wk_zald G 85 (by decide) (ck85 cI cZ ad) h45 dX7_run_148 ?_
              obtain ⟨j214, ej214, hf⟩ := nm_ex hf
              have J214 : ∀ (M46 : Mem), j214 M46 = some o → Wk p l e (headSpec wsX7_run rmX7_run).room s m args below meth c D cI cZ ad A 6 0 0 (QV below D cI cZ ad A args s M') M46 214 [(0, .ref (ad 56)), (1, .int x1), (2, .int x2), (3, .int v33), (4, .int v42)] [] := by
                intro M46 hf
                replace hf := jn1 ej214 hf
                refine wk_aload_n G 0 dX7_run_214 rfl rfl ?_
                refine wk_get (ci := 7) (v := .ref (ad 71)) G iX7_run_X7 56 (by decide) (ck56 cI cZ ad (M46 56)) rfl 17 (Nat.le_of_ble_eq_true rfl) kX7_run_53 rfl dX7_run_215 ?_
                refine wk_sipush (v := (420 : Int32)) G dX7_run_218 (by decide) ?_
                refine wk_iload_n G 1 dX7_run_221 rfl rfl ?_
                refine wk_imul G dX7_run_222 ?_
                refine wk_bipush (v := (7 : Int32)) G dX7_run_223 (by decide) ?_
                refine wk_iload_n G 3 dX7_run_225 rfl rfl ?_
                refine wk_imul G dX7_run_226 ?_
                refine wk_iadd G dX7_run_227 ?_
                refine wk_iload G 4 dX7_run_228 rfl ?_
                refine wk_iadd G dX7_run_230 ?_
                refine wk_aload_n G 0 dX7_run_231 rfl rfl ?_
                refine wk_get (ci := 7) (v := .ref (ad 82)) G iX7_run_X7 56 (by decide) (ck56 cI cZ ad (M46 56)) rfl 28 (Nat.le_of_ble_eq_true rfl) kX7_run_86 rfl dX7_run_232 ?_
                refine wk_iload G 4 dX7_run_235 rfl ?_
                obtain ⟨h47, hf⟩ := gd_of hf
                refine wk_iald G 82 (by decide) (ck82 cI cZ ad) h47 dX7_run_237 ?_
                obtain ⟨h48, hf⟩ := gd_of hf
                obtain ⟨M49, eM49, hf⟩ := nm_ex hf
                refine wk_iast G 71 (by decide) (ck71 cI cZ ad) h48 dX7_run_238 eM49 ?_
                obtain ⟨v50, ev50, hf⟩ := nm_ex hf
                refine wk_iinc (v := v50) (lv' := [(4, .int v50), (0, .ref (ad 56)), (1, .int x1), (2, .int x2), (3, .int v33)]) G 4 dX7_run_239 rfl (by rw [ev50]; rfl) (by decide) rfl ?_
                refine wk_goto (tgt := 133) G dX7_run_242 (by decide) ?_
                refine wk_sub [1, 2, 3, 4, 0] rfl ?_
                exact hI _ (Option.some.inj hf).symm
              refine wk_if_ne (tgt := 214) G dX7_run_149 (by decide) (fun c51 => ?_) (fun c51 => ?_)
              · replace hf := it_f c51 hf
                exact J214 M43 hf
              · replace hf := it_t c51 hf
                refine wk_aload_n G 0 dX7_run_152 rfl rfl ?_
                refine wk_get (ci := 7) (v := .ref (ad 57)) G iX7_run_X7 56 (by decide) (ck56 cI cZ ad (M43 56)) rfl 1 (Nat.le_of_ble_eq_true rfl) kX7_run_7 rfl dX7_run_153 ?_
                refine wk_iload G 4 dX7_run_156 rfl ?_
                obtain ⟨h52, hf⟩ := gd_of hf
                refine wk_iald G 57 (by decide) (ck57 cI cZ ad) h52 dX7_run_158 ?_
                refine wk_iconst (v := (2 : Int32)) G dX7_run_159 (by decide) ?_
                refine wk_icmp_eq (tgt := 214) G dX7_run_160 (by decide) (fun c53 => ?_) (fun c53 => ?_)
                · replace hf := it_t c53 hf
                  exact J214 M43 hf
                · replace hf := it_f c53 hf
                  refine wk_aload_n G 0 dX7_run_163 rfl rfl ?_
                  refine wk_get (ci := 7) (v := .ref (ad 86)) G iX7_run_X7 56 (by decide) (ck56 cI cZ ad (M43 56)) rfl 32 (Nat.le_of_ble_eq_true rfl) kX7_run_98 rfl dX7_run_164 ?_
                  refine wk_iload G 4 dX7_run_167 rfl ?_
                  obtain ⟨h54, hf⟩ := gd_of hf
                  refine wk_zald G 86 (by decide) (ck86 cI cZ ad) h54 dX7_run_169 ?_
                  obtain ⟨j179, ej179, hf⟩ := nm_ex hf
                  have J179 : ∀ (u55 : Unit), j179 u55 = some o → Wk p l e (headSpec wsX7_run rmX7_run).room s m args below meth c D cI cZ ad A 6 0 0 (QV below D cI cZ ad A args s M') M43 179 [(0, .ref (ad 56)), (1, .int x1), (2, .int x2), (3, .int v33), (4, .int v42)] [] := by
                    intro u55 hf
                    replace hf := jn1 ej179 hf
                    refine wk_iconst (v := (0 : Int32)) G dX7_run_179 (by decide) ?_
                    refine wk_istore (lv' := [(5, .int (0 : Int32)), (0, .ref (ad 56)), (1, .int x1), (2, .int x2), (3, .int v33), (4, .int v42)]) G dX7_run_180 (by decide) rfl ?_
                    refine wk_sub [1, 2, 3, 4, 5, 0] rfl ?_
                    obtain ⟨q65, q66, hf⟩ := bd_of hf
                    have Cq65 : (up1 fun (M64 : Mem) => Wk p l e (headSpec wsX7_run rmX7_run).room s m args below meth c D cI cZ ad A 6 0 0 (QV below D cI cZ ad A args s M') M64 214 [(0, .ref (ad 56)), (1, .int x1), (2, .int x2), (3, .int v33), (4, .int v42)] []) q65 := by
                      obtain ⟨M64, rfl⟩ : ∃ z, z = q65 := ⟨_, rfl⟩
                      replace hf := un1_of hf
                      show Wk p l e (headSpec wsX7_run rmX7_run).room s m args below meth c D cI cZ ad A 6 0 0 (QV below D cI cZ ad A args s M') M64 214 [(0, .ref (ad 56)), (1, .int x1), (2, .int x2), (3, .int v33), (4, .int v42)] []
                      exact J214 M64 hf
                    have Lq65 : (up2 fun (v56 : Int32) (M57 : Mem) => Wk p l e (headSpec wsX7_run rmX7_run).room s m args below meth c D cI cZ ad A 6 0 0 (QV below D cI cZ ad A args s M') M57 182 [(0, .ref (ad 56)), (1, .int x1), (2, .int x2), (3, .int v33), (4, .int v42), (5, .int v56)] []) ((0 : Int32), M43) := by
                      refine loop_P (C := (up1 fun (M64 : Mem) => Wk p l e (headSpec wsX7_run rmX7_run).room s m args below meth c D cI cZ ad A 6 0 0 (QV below D cI cZ ad A args s M') M64 214 [(0, .ref (ad 56)), (1, .int x1), (2, .int x2), (3, .int v33), (4, .int v42)] [])) ?_ fu ((0 : Int32), M43) q65 q66 Cq65
                      clear hf Cq65 q66
                      rintro ⟨v56, M57⟩ o hf hI hE
                      replace hf := un2_of hf
                      show Wk p l e (headSpec wsX7_run rmX7_run).room s m args below meth c D cI cZ ad A 6 0 0 (QV below D cI cZ ad A args s M') M57 182 [(0, .ref (ad 56)), (1, .int x1), (2, .int x2), (3, .int v33), (4, .int v42), (5, .int v56)] []
                      refine wk_iload G 5 dX7_run_182 rfl ?_
                      refine wk_aload_n G 0 dX7_run_184 rfl rfl ?_
                      refine wk_get (ci := 7) (v := .int (M57 56 0)) G iX7_run_X7 56 (by decide) (ck56 cI cZ ad (M57 56)) rfl 0 (Nat.le_of_ble_eq_true rfl) kX7_run_101 rfl dX7_run_185 ?_
                      refine wk_icmp_ge (tgt := 214) G dX7_run_188 (by decide) (fun c58 => ?_) (fun c58 => ?_)
                      · replace hf := it_t c58 hf
                        refine wk_sub [0, 1, 2, 3, 4] rfl ?_
                        exact hE _ (Option.some.inj hf).symm
                      · replace hf := it_f c58 hf
                        refine wk_iload G 5 dX7_run_191 rfl ?_
                        refine wk_iload G 4 dX7_run_193 rfl ?_
                        obtain ⟨j208, ej208, hf⟩ := nm_ex hf
                        have J208 : ∀ (M59 : Mem), j208 M59 = some o → Wk p l e (headSpec wsX7_run rmX7_run).room s m args below meth c D cI cZ ad A 6 0 0 (QV below D cI cZ ad A args s M') M59 208 [(0, .ref (ad 56)), (1, .int x1), (2, .int x2), (3, .int v33), (4, .int v42), (5, .int v56)] [] := by
                          intro M59 hf
                          replace hf := jn1 ej208 hf
                          obtain ⟨v60, ev60, hf⟩ := nm_ex hf
                          refine wk_iinc (v := v60) (lv' := [(5, .int v60), (0, .ref (ad 56)), (1, .int x1), (2, .int x2), (3, .int v33), (4, .int v42)]) G 5 dX7_run_208 rfl (by rw [ev60]; rfl) (by decide) rfl ?_
                          refine wk_goto (tgt := 182) G dX7_run_211 (by decide) ?_
                          refine wk_sub [1, 2, 3, 4, 5, 0] rfl ?_
                          exact hI _ (Option.some.inj hf).symm
                        refine wk_icmp_eq (tgt := 208) G dX7_run_195 (by decide) (fun c61 => ?_) (fun c61 => ?_)
                        · replace hf := it_t c61 hf
                          exact J208 M57 hf
                        · replace hf := it_f c61 hf
                          refine wk_aload_n G 0 dX7_run_198 rfl rfl ?_
                          refine wk_iload_n G 1 dX7_run_199 rfl rfl ?_
                          refine wk_iload_n G 3 dX7_run_200 rfl rfl ?_
                          refine wk_iload G 4 dX7_run_201 rfl ?_
                          refine wk_iload G 5 dX7_run_203 rfl ?_
                          obtain ⟨M62, q63, hf⟩ := bd_of hf
                          refine wk_callVv (As := [.int x1, .int v33, .int v42, .int v56]) (rest := []) (ci := 7) G 56 (by decide) (c_X7_send l D cI cZ ad x1 v33 v42 v56 M57 M62 q63) (cwV 4 G.2.2.2.2.1 gX7_run_X7_send rfl rfl rfl (by decide +kernel) ⟨Nat.le_of_ble_eq_true rfl, Nat.le_of_ble_eq_true rfl⟩) (ck56 cI cZ ad (M57 56)) rfl rfl rfl (Nat.le_of_ble_eq_true rfl) dX7_run_205 ⟨Nat.le_of_ble_eq_true rfl, Nat.le_of_ble_eq_true rfl⟩ ?_
                          exact J208 M62 hf
                    exact Lq65
                  refine wk_if_ne (tgt := 179) G dX7_run_170 (by decide) (fun c67 => ?_) (fun c67 => ?_)
                  · replace hf := it_f c67 hf
                    exact J179 () hf
                  · replace hf := it_t c67 hf
                    refine wk_iload_n G 3 dX7_run_173 rfl rfl ?_
                    refine wk_iconst (v := (4 : Int32)) G dX7_run_174 (by decide) ?_
                    refine wk_irem G dX7_run_175 (by decide) ?_
                    refine wk_if_ne (tgt := 214) G dX7_run_176 (by decide) (fun c68 => ?_) (fun c68 => ?_)
                    · replace hf := it_f c68 hf
                      exact J214 M43 hf
                    · replace hf := it_t c68 hf
                      exact J179 () hf
          exact Lq85
      exact Lq98
    have Lq100 : (up2 fun (v26 : Int32) (M27 : Mem) => Wk p l e (headSpec wsX7_run rmX7_run).room s m args below meth c D cI cZ ad A 6 0 0 (QV below D cI cZ ad A args s M') M27 89 [(0, .ref (ad 56)), (1, .int x1), (2, .int x2), (3, .int v26)] []) ((0 : Int32), M25) := by
      refine loop_P (C := (up1 fun (M32 : Mem) => Wk p l e (headSpec wsX7_run rmX7_run).room s m args below meth c D cI cZ ad A 6 0 0 (QV below D cI cZ ad A args s M') M32 108 [(0, .ref (ad 56)), (1, .int x1), (2, .int x2)] [])) ?_ fu ((0 : Int32), M25) q100 q101 Cq100
      clear hf Cq100 q101
      rintro ⟨v26, M27⟩ o hf hI hE
      replace hf := un2_of hf
      show Wk p l e (headSpec wsX7_run rmX7_run).room s m args below meth c D cI cZ ad A 6 0 0 (QV below D cI cZ ad A args s M') M27 89 [(0, .ref (ad 56)), (1, .int x1), (2, .int x2), (3, .int v26)] []
      refine wk_iload_n G 3 dX7_run_89 rfl rfl ?_
      refine wk_bipush (v := (49 : Int32)) G dX7_run_90 (by decide) ?_
      refine wk_icmp_ge (tgt := 108) G dX7_run_92 (by decide) (fun c28 => ?_) (fun c28 => ?_)
      · replace hf := it_t c28 hf
        refine wk_sub [0, 1, 2] rfl ?_
        exact hE _ (Option.some.inj hf).symm
      · replace hf := it_f c28 hf
        refine wk_aload_n G 0 dX7_run_95 rfl rfl ?_
        refine wk_get (ci := 7) (v := .ref (ad 84)) G iX7_run_X7 56 (by decide) (ck56 cI cZ ad (M27 56)) rfl 30 (Nat.le_of_ble_eq_true rfl) kX7_run_92 rfl dX7_run_96 ?_
        refine wk_iload_n G 3 dX7_run_99 rfl rfl ?_
        refine wk_iconst (v := (0 : Int32)) G dX7_run_100 (by decide) ?_
        obtain ⟨h29, hf⟩ := gd_of hf
        obtain ⟨M30, eM30, hf⟩ := nm_ex hf
        refine wk_iast G 84 (by decide) (ck84 cI cZ ad) h29 dX7_run_101 eM30 ?_
        obtain ⟨v31, ev31, hf⟩ := nm_ex hf
        refine wk_iinc (v := v31) (lv' := [(3, .int v31), (0, .ref (ad 56)), (1, .int x1), (2, .int x2)]) G 3 dX7_run_102 rfl (by rw [ev31]; rfl) (by decide) rfl ?_
        refine wk_goto (tgt := 89) G dX7_run_105 (by decide) ?_
        refine wk_sub [1, 2, 3, 0] rfl ?_
        exact hI _ (Option.some.inj hf).symm
    exact Lq100
  have Lq102 : (up2 fun (v14 : Int32) (M15 : Mem) => Wk p l e (headSpec wsX7_run rmX7_run).room s m args below meth c D cI cZ ad A 6 0 0 (QV below D cI cZ ad A args s M') M15 49 [(0, .ref (ad 56)), (1, .int x1), (2, .int x2), (3, .int v14)] []) ((0 : Int32), M13) := by
    refine loop_P (C := (up1 fun (M25 : Mem) => Wk p l e (headSpec wsX7_run rmX7_run).room s m args below meth c D cI cZ ad A 6 0 0 (QV below D cI cZ ad A args s M') M25 87 [(0, .ref (ad 56)), (1, .int x1), (2, .int x2)] [])) ?_ fu ((0 : Int32), M13) q102 q103 Cq102
    clear hf Cq102 q103
    rintro ⟨v14, M15⟩ o hf hI hE
    replace hf := un2_of hf
    show Wk p l e (headSpec wsX7_run rmX7_run).room s m args below meth c D cI cZ ad A 6 0 0 (QV below D cI cZ ad A args s M') M15 49 [(0, .ref (ad 56)), (1, .int x1), (2, .int x2), (3, .int v14)] []
    refine wk_iload_n G 3 dX7_run_49 rfl rfl ?_
    refine wk_bipush (v := (7 : Int32)) G dX7_run_50 (by decide) ?_
    refine wk_icmp_ge (tgt := 87) G dX7_run_52 (by decide) (fun c16 => ?_) (fun c16 => ?_)
    · replace hf := it_t c16 hf
      refine wk_sub [0, 1, 2] rfl ?_
      exact hE _ (Option.some.inj hf).symm
    · replace hf := it_f c16 hf
      refine wk_aload_n G 0 dX7_run_55 rfl rfl ?_
      refine wk_get (ci := 7) (v := .ref (ad 82)) G iX7_run_X7 56 (by decide) (ck56 cI cZ ad (M15 56)) rfl 28 (Nat.le_of_ble_eq_true rfl) kX7_run_86 rfl dX7_run_56 ?_
      refine wk_iload_n G 3 dX7_run_59 rfl rfl ?_
      refine wk_iconst (v := (0 : Int32)) G dX7_run_60 (by decide) ?_
      obtain ⟨h17, hf⟩ := gd_of hf
      obtain ⟨M18, eM18, hf⟩ := nm_ex hf
      refine wk_iast G 82 (by decide) (ck82 cI cZ ad) h17 dX7_run_61 eM18 ?_
      refine wk_aload_n G 0 dX7_run_62 rfl rfl ?_
      refine wk_get (ci := 7) (v := .ref (ad 83)) G iX7_run_X7 56 (by decide) (ck56 cI cZ ad (M18 56)) rfl 29 (Nat.le_of_ble_eq_true rfl) kX7_run_89 rfl dX7_run_63 ?_
      refine wk_iload_n G 3 dX7_run_66 rfl rfl ?_
      refine wk_aload_n G 0 dX7_run_67 rfl rfl ?_
      refine wk_get (ci := 7) (v := .ref (ad 59)) G iX7_run_X7 56 (by decide) (ck56 cI cZ ad (M18 56)) rfl 3 (Nat.le_of_ble_eq_true rfl) kX7_run_16 rfl dX7_run_68 ?_
      refine wk_iload_n G 3 dX7_run_71 rfl rfl ?_
      obtain ⟨h19, hf⟩ := gd_of hf
      refine wk_iald G 59 (by decide) (ck59 cI cZ ad) h19 dX7_run_72 ?_
      obtain ⟨h20, hf⟩ := gd_of hf
      obtain ⟨M21, eM21, hf⟩ := nm_ex hf
      refine wk_iast G 83 (by decide) (ck83 cI cZ ad) h20 dX7_run_73 eM21 ?_
      refine wk_aload_n G 0 dX7_run_74 rfl rfl ?_
      refine wk_get (ci := 7) (v := .ref (ad 85)) G iX7_run_X7 56 (by decide) (ck56 cI cZ ad (M21 56)) rfl 31 (Nat.le_of_ble_eq_true rfl) kX7_run_95 rfl dX7_run_75 ?_
      refine wk_iload_n G 3 dX7_run_78 rfl rfl ?_
      refine wk_iconst (v := (0 : Int32)) G dX7_run_79 (by decide) ?_
      obtain ⟨h22, hf⟩ := gd_of hf
      obtain ⟨M23, eM23, hf⟩ := nm_ex hf
      refine wk_zast G 85 (by decide) (ck85 cI cZ ad) h22 dX7_run_80 eM23 ?_
      obtain ⟨v24, ev24, hf⟩ := nm_ex hf
      refine wk_iinc (v := v24) (lv' := [(3, .int v24), (0, .ref (ad 56)), (1, .int x1), (2, .int x2)]) G 3 dX7_run_81 rfl (by rw [ev24]; rfl) (by decide) rfl ?_
      refine wk_goto (tgt := 49) G dX7_run_84 (by decide) ?_
      refine wk_sub [1, 2, 3, 0] rfl ?_
      exact hI _ (Option.some.inj hf).symm
  exact Lq102
def fX7_isFailing (M : Mem) : Option (Int32 × Mem) := gd (0 : Int32) 2 ((fX7_run (1 : Int32) (M 65 (Int32.toNatClampNeg (0 : Int32))) M).bind (fun (M2 : Mem) => gd (1 : Int32) 2 (if (M2 70 (Int32.toNatClampNeg (1 : Int32))) < 0 then (some ((0 : Int32), M2)) else (some ((1 : Int32), M2)))))
theorem iX7_isFailing_X7 : ∀ w ∈ wsX70, w ∈ wsX7_isFailing := by decide +kernel
theorem kX7_isFailing_35 : Cond.fieldLink RX7 35 "PartitionPlayModel" "turns" "[I" ∈ wsX7_isFailing := by decide +kernel
theorem kX7_isFailing_50 : Cond.fieldLink RX7 50 "PartitionPlayModel" "failed" "[I" ∈ wsX7_isFailing := by decide +kernel
abbrev rmX7_isFailing : Room := { frames := 4, cells := 0, slots := 0, locals := 98 }
set_option maxRecDepth 100000 in
set_option maxHeartbeats 4000000 in
theorem c_X7_isFailing (l : Launch) (D : va_G) (cI cZ : ClassId) (ad : Nat → Nat) (M : Mem) (r : Int32) (M' : Mem) (hf : fX7_isFailing M = some (r, M')) : MetI l yX7_isFailing wsX7_isFailing rmX7_isFailing D cI cZ ad [.ref (ad 56)] M r M' := by
  refine met_i (cc := cX7_isFailing) (nL := 1) (ret := (some .boolean)) (own := RX7) (by decide) rfl rfl (Nat.le_of_ble_eq_true rfl) ?_
  intro p e s m args below meth c A G hr hlocks
  unfold fX7_isFailing at hf
  show Wk p l e (headSpec wsX7_isFailing rmX7_isFailing).room s m args below meth c D cI cZ ad A 1 0 0 (QI below D cI cZ ad A args s r M') M 0 [(0, .ref (ad 56))] []
  refine wk_aload_n G 0 dX7_isFailing_0 rfl rfl ?_
  refine wk_iconst (v := (1 : Int32)) G dX7_isFailing_1 (by decide) ?_
  refine wk_aload_n G 0 dX7_isFailing_2 rfl rfl ?_
  refine wk_get (ci := 7) (v := .ref (ad 65)) G iX7_isFailing_X7 56 (by decide) (ck56 cI cZ ad (M 56)) rfl 11 (Nat.le_of_ble_eq_true rfl) kX7_isFailing_35 rfl dX7_isFailing_3 ?_
  refine wk_iconst (v := (0 : Int32)) G dX7_isFailing_6 (by decide) ?_
  obtain ⟨h1, hf⟩ := gd_of hf
  refine wk_iald G 65 (by decide) (ck65 cI cZ ad) h1 dX7_isFailing_7 ?_
  obtain ⟨M2, q3, hf⟩ := bd_of hf
  refine wk_callVv (As := [.int (1 : Int32), .int (M 65 (Int32.toNatClampNeg (0 : Int32)))]) (rest := []) (ci := 7) G 56 (by decide) (c_X7_run l D cI cZ ad (1 : Int32) (M 65 (Int32.toNatClampNeg (0 : Int32))) M M2 q3) (cwV 2 G.2.2.2.2.1 gX7_isFailing_X7_run rfl rfl rfl (by decide +kernel) ⟨Nat.le_of_ble_eq_true rfl, Nat.le_of_ble_eq_true rfl⟩) (ck56 cI cZ ad (M 56)) rfl rfl rfl (Nat.le_of_ble_eq_true rfl) dX7_isFailing_8 ⟨Nat.le_of_ble_eq_true rfl, Nat.le_of_ble_eq_true rfl⟩ ?_
  refine wk_aload_n G 0 dX7_isFailing_11 rfl rfl ?_
  refine wk_get (ci := 7) (v := .ref (ad 70)) G iX7_isFailing_X7 56 (by decide) (ck56 cI cZ ad (M2 56)) rfl 16 (Nat.le_of_ble_eq_true rfl) kX7_isFailing_50 rfl dX7_isFailing_12 ?_
  refine wk_iconst (v := (1 : Int32)) G dX7_isFailing_15 (by decide) ?_
  obtain ⟨h4, hf⟩ := gd_of hf
  refine wk_iald G 70 (by decide) (ck70 cI cZ ad) h4 dX7_isFailing_16 ?_
  refine wk_if_lt (tgt := 24) G dX7_isFailing_17 (by decide) (fun c5 => ?_) (fun c5 => ?_)
  · replace hf := it_t c5 hf
    refine wk_iconst (v := (0 : Int32)) G dX7_isFailing_24 (by decide) ?_
    exact wk_rz G hr hlocks (Or.inl rfl) dX7_isFailing_25 (Option.some.inj hf)
  · replace hf := it_f c5 hf
    refine wk_iconst (v := (1 : Int32)) G dX7_isFailing_20 (by decide) ?_
    refine wk_goto (tgt := 25) G dX7_isFailing_21 (by decide) ?_
    exact wk_rz G hr hlocks (Or.inr rfl) dX7_isFailing_25 (Option.some.inj hf)
def fX7_play (x1 : Int32) (M : Mem) : Option (Int32 × Mem) := (fX7_in x1 (1 : Int32) (40 : Int32)).bind (fun (r1 : Int32) => if r1 = 0 then (some ((-3 : Int32), M)) else ((fX7_run (0 : Int32) x1 M).bind (fun (M4 : Mem) => (loop fu (un2 fun (v6 : Int32) (v7 : Int32) => (if (M4 56 0) ≤ v7 then (some (.inr v6)) else (gd v7 7 (nm (fun (v10 : Int32) => nm (v7 + (1 : Int32)) fun (v11 : Int32) => some (.inl (v10, v11))) fun j51 => if (M4 82 (Int32.toNatClampNeg v7)) ≤ v6 then (j51 v6) else (gd v7 7 (j51 (M4 82 (Int32.toNatClampNeg v7)))))) : Option ((Int32 × Int32) ⊕ (Int32)))) ((0 : Int32), (0 : Int32))).bind (un1 fun (v14 : Int32) => some (v14, M4)))))
theorem iX7_play_X7 : ∀ w ∈ wsX70, w ∈ wsX7_play := by decide +kernel
theorem kX7_play_86 : Cond.fieldLink RX7 86 "PartitionPlayModel" "now" "[I" ∈ wsX7_play := by decide +kernel
theorem kX7_play_101 : Cond.fieldLink RX7 101 "PartitionPlayModel" "n" "I" ∈ wsX7_play := by decide +kernel
abbrev rmX7_play : Room := { frames := 4, cells := 0, slots := 0, locals := 98 }
set_option maxRecDepth 100000 in
set_option maxHeartbeats 4000000 in
theorem c_X7_play (l : Launch) (D : va_G) (cI cZ : ClassId) (ad : Nat → Nat) (x1 : Int32) (M : Mem) (r : Int32) (M' : Mem) (hf : fX7_play x1 M = some (r, M')) : MetI l yX7_play wsX7_play rmX7_play D cI cZ ad [.ref (ad 56), .int x1] M r M' := by
  refine met_i (cc := cX7_play) (nL := 4) (ret := (some .int)) (own := RX7) (by decide) rfl rfl (Nat.le_of_ble_eq_true rfl) ?_
  intro p e s m args below meth c A G hr hlocks
  unfold fX7_play at hf
  show Wk p l e (headSpec wsX7_play rmX7_play).room s m args below meth c D cI cZ ad A 4 0 0 (QI below D cI cZ ad A args s r M') M 0 [(0, .ref (ad 56)), (1, .int x1)] []
  refine wk_iload_n G 1 dX7_play_0 rfl rfl ?_
  refine wk_iconst (v := (1 : Int32)) G dX7_play_1 (by decide) ?_
  refine wk_bipush (v := (40 : Int32)) G dX7_play_2 (by decide) ?_
  obtain ⟨r1, q2, hf⟩ := bd_of hf
  refine wk_callSi (As := [.int x1, .int (1 : Int32), .int (40 : Int32)]) (rest := []) G (c_X7_in l D cI cZ ad x1 (1 : Int32) (40 : Int32) M r1 q2) (va_cwS 3 G.2.2.2.2.1 gX7_play_X7_in rfl rfl rfl (by decide +kernel) ⟨Nat.le_of_ble_eq_true rfl, Nat.le_of_ble_eq_true rfl⟩) rfl rfl (Nat.le_of_ble_eq_true rfl) dX7_play_4 ⟨Nat.le_of_ble_eq_true rfl, Nat.le_of_ble_eq_true rfl⟩ ?_
  refine wk_if_ne (tgt := 13) G dX7_play_7 (by decide) (fun c3 => ?_) (fun c3 => ?_)
  · replace hf := it_f c3 hf
    refine wk_aload_n G 0 dX7_play_13 rfl rfl ?_
    refine wk_iconst (v := (0 : Int32)) G dX7_play_14 (by decide) ?_
    refine wk_iload_n G 1 dX7_play_15 rfl rfl ?_
    obtain ⟨M4, q5, hf⟩ := bd_of hf
    refine wk_callVv (As := [.int (0 : Int32), .int x1]) (rest := []) (ci := 7) G 56 (by decide) (c_X7_run l D cI cZ ad (0 : Int32) x1 M M4 q5) (cwV 2 G.2.2.2.2.1 gX7_play_X7_run rfl rfl rfl (by decide +kernel) ⟨Nat.le_of_ble_eq_true rfl, Nat.le_of_ble_eq_true rfl⟩) (ck56 cI cZ ad (M 56)) rfl rfl rfl (Nat.le_of_ble_eq_true rfl) dX7_play_16 ⟨Nat.le_of_ble_eq_true rfl, Nat.le_of_ble_eq_true rfl⟩ ?_
    refine wk_iconst (v := (0 : Int32)) G dX7_play_19 (by decide) ?_
    refine wk_istore_n (lv' := [(2, .int (0 : Int32)), (0, .ref (ad 56)), (1, .int x1)]) G dX7_play_20 rfl (by decide) rfl ?_
    refine wk_iconst (v := (0 : Int32)) G dX7_play_21 (by decide) ?_
    refine wk_istore_n (lv' := [(3, .int (0 : Int32)), (2, .int (0 : Int32)), (0, .ref (ad 56)), (1, .int x1)]) G dX7_play_22 rfl (by decide) rfl ?_
    refine wk_sub [2, 1, 0] rfl ?_
    obtain ⟨q15, q16, hf⟩ := bd_of hf
    have Cq15 : (up1 fun (v14 : Int32) => Wk p l e (headSpec wsX7_play rmX7_play).room s m args below meth c D cI cZ ad A 4 0 0 (QI below D cI cZ ad A args s r M') M4 58 [(2, .int v14)] []) q15 := by
      obtain ⟨v14, rfl⟩ : ∃ z, z = q15 := ⟨_, rfl⟩
      replace hf := un1_of hf
      show Wk p l e (headSpec wsX7_play rmX7_play).room s m args below meth c D cI cZ ad A 4 0 0 (QI below D cI cZ ad A args s r M') M4 58 [(2, .int v14)] []
      refine wk_iload_n G 0 dX7_play_58 rfl rfl ?_
      exact wk_ri G hr hlocks dX7_play_59 (Option.some.inj hf)
    have Lq15 : (up2 fun (v6 : Int32) (v7 : Int32) => Wk p l e (headSpec wsX7_play rmX7_play).room s m args below meth c D cI cZ ad A 4 0 0 (QI below D cI cZ ad A args s r M') M4 23 [(0, .ref (ad 56)), (2, .int v6), (3, .int v7)] []) ((0 : Int32), (0 : Int32)) := by
      refine loop_P (C := (up1 fun (v14 : Int32) => Wk p l e (headSpec wsX7_play rmX7_play).room s m args below meth c D cI cZ ad A 4 0 0 (QI below D cI cZ ad A args s r M') M4 58 [(2, .int v14)] [])) ?_ fu ((0 : Int32), (0 : Int32)) q15 q16 Cq15
      clear hf Cq15 q16
      rintro ⟨v6, v7⟩ o hf hI hE
      replace hf := un2_of hf
      show Wk p l e (headSpec wsX7_play rmX7_play).room s m args below meth c D cI cZ ad A 4 0 0 (QI below D cI cZ ad A args s r M') M4 23 [(0, .ref (ad 56)), (2, .int v6), (3, .int v7)] []
      refine wk_iload_n G 2 dX7_play_23 rfl rfl ?_
      refine wk_aload_n G 0 dX7_play_24 rfl rfl ?_
      refine wk_get (ci := 7) (v := .int (M4 56 0)) G iX7_play_X7 56 (by decide) (ck56 cI cZ ad (M4 56)) rfl 0 (Nat.le_of_ble_eq_true rfl) kX7_play_101 rfl dX7_play_25 ?_
      refine wk_icmp_ge (tgt := 58) G dX7_play_28 (by decide) (fun c8 => ?_) (fun c8 => ?_)
      · replace hf := it_t c8 hf
        refine wk_sub [1] rfl ?_
        exact hE _ (Option.some.inj hf).symm
      · replace hf := it_f c8 hf
        refine wk_aload_n G 0 dX7_play_31 rfl rfl ?_
        refine wk_get (ci := 7) (v := .ref (ad 82)) G iX7_play_X7 56 (by decide) (ck56 cI cZ ad (M4 56)) rfl 28 (Nat.le_of_ble_eq_true rfl) kX7_play_86 rfl dX7_play_32 ?_
        refine wk_iload_n G 2 dX7_play_35 rfl rfl ?_
        obtain ⟨h9, hf⟩ := gd_of hf
        refine wk_iald G 82 (by decide) (ck82 cI cZ ad) h9 dX7_play_36 ?_
        refine wk_iload_n G 1 dX7_play_37 rfl rfl ?_
        obtain ⟨j51, ej51, hf⟩ := nm_ex hf
        have J51 : ∀ (v10 : Int32), j51 v10 = some o → Wk p l e (headSpec wsX7_play rmX7_play).room s m args below meth c D cI cZ ad A 4 0 0 (QI below D cI cZ ad A args s r M') M4 51 [(0, .ref (ad 56)), (3, .int v7)] [.int v10] := by
          intro v10 hf
          replace hf := jn1 ej51 hf
          refine wk_istore_n (lv' := [(2, .int v10), (0, .ref (ad 56)), (3, .int v7)]) G dX7_play_51 rfl (by decide) rfl ?_
          obtain ⟨v11, ev11, hf⟩ := nm_ex hf
          refine wk_iinc (v := v11) (lv' := [(3, .int v11), (2, .int v10), (0, .ref (ad 56))]) G 2 dX7_play_52 rfl (by rw [ev11]; rfl) (by decide) rfl ?_
          refine wk_goto (tgt := 23) G dX7_play_55 (by decide) ?_
          refine wk_sub [2, 1, 0] rfl ?_
          exact hI _ (Option.some.inj hf).symm
        refine wk_icmp_le (tgt := 50) G dX7_play_38 (by decide) (fun c12 => ?_) (fun c12 => ?_)
        · replace hf := it_t c12 hf
          refine wk_iload_n G 1 dX7_play_50 rfl rfl ?_
          refine wk_sub [0, 2] rfl ?_
          exact J51 v6 hf
        · replace hf := it_f c12 hf
          refine wk_aload_n G 0 dX7_play_41 rfl rfl ?_
          refine wk_get (ci := 7) (v := .ref (ad 82)) G iX7_play_X7 56 (by decide) (ck56 cI cZ ad (M4 56)) rfl 28 (Nat.le_of_ble_eq_true rfl) kX7_play_86 rfl dX7_play_42 ?_
          refine wk_iload_n G 2 dX7_play_45 rfl rfl ?_
          obtain ⟨h13, hf⟩ := gd_of hf
          refine wk_iald G 82 (by decide) (ck82 cI cZ ad) h13 dX7_play_46 ?_
          refine wk_goto (tgt := 51) G dX7_play_47 (by decide) ?_
          refine wk_sub [0, 2] rfl ?_
          exact J51 (M4 82 (Int32.toNatClampNeg v7)) hf
    exact Lq15
  · replace hf := it_t c3 hf
    refine wk_bipush (v := (-3 : Int32)) G dX7_play_10 (by decide) ?_
    exact wk_ri G hr hlocks dX7_play_12 (Option.some.inj hf)
def fX7_isTurn (x1 : Int32) (M : Mem) : Option Int32 := gd (0 : Int32) 2 ((fX7_in x1 (0 : Int32) ((M 65 (Int32.toNatClampNeg (0 : Int32))) - (1 : Int32))).bind (fun (r2 : Int32) => gz r2 (some r2)))
theorem iX7_isTurn_X7 : ∀ w ∈ wsX70, w ∈ wsX7_isTurn := by decide +kernel
theorem kX7_isTurn_35 : Cond.fieldLink RX7 35 "PartitionPlayModel" "turns" "[I" ∈ wsX7_isTurn := by decide +kernel
abbrev rmX7_isTurn : Room := { frames := 1, cells := 0, slots := 0, locals := 22 }
set_option maxRecDepth 100000 in
set_option maxHeartbeats 4000000 in
theorem c_X7_isTurn (l : Launch) (D : va_G) (cI cZ : ClassId) (ad : Nat → Nat) (x1 : Int32) (M : Mem) (r : Int32) (hf : fX7_isTurn x1 M = some r) : MetI l yX7_isTurn wsX7_isTurn rmX7_isTurn D cI cZ ad [.ref (ad 56), .int x1] M r M := by
  refine met_i (cc := cX7_isTurn) (nL := 2) (ret := (some .boolean)) (own := RX7) (by decide) rfl rfl (Nat.le_of_ble_eq_true rfl) ?_
  intro p e s m args below meth c A G hr hlocks
  unfold fX7_isTurn at hf
  show Wk p l e (headSpec wsX7_isTurn rmX7_isTurn).room s m args below meth c D cI cZ ad A 2 0 0 (QI below D cI cZ ad A args s r M) M 0 [(0, .ref (ad 56)), (1, .int x1)] []
  refine wk_iload_n G 1 dX7_isTurn_0 rfl rfl ?_
  refine wk_iconst (v := (0 : Int32)) G dX7_isTurn_1 (by decide) ?_
  refine wk_aload_n G 0 dX7_isTurn_2 rfl rfl ?_
  refine wk_get (ci := 7) (v := .ref (ad 65)) G iX7_isTurn_X7 56 (by decide) (ck56 cI cZ ad (M 56)) rfl 11 (Nat.le_of_ble_eq_true rfl) kX7_isTurn_35 rfl dX7_isTurn_3 ?_
  refine wk_iconst (v := (0 : Int32)) G dX7_isTurn_6 (by decide) ?_
  obtain ⟨h1, hf⟩ := gd_of hf
  refine wk_iald G 65 (by decide) (ck65 cI cZ ad) h1 dX7_isTurn_7 ?_
  refine wk_iconst (v := (1 : Int32)) G dX7_isTurn_8 (by decide) ?_
  refine wk_isub G dX7_isTurn_9 ?_
  obtain ⟨r2, q3, hf⟩ := bd_of hf
  refine wk_callSi (As := [.int x1, .int (0 : Int32), .int ((M 65 (Int32.toNatClampNeg (0 : Int32))) - (1 : Int32))]) (rest := []) G (c_X7_in l D cI cZ ad x1 (0 : Int32) ((M 65 (Int32.toNatClampNeg (0 : Int32))) - (1 : Int32)) M r2 q3) (va_cwS 3 G.2.2.2.2.1 gX7_isTurn_X7_in rfl rfl rfl (by decide +kernel) ⟨Nat.le_of_ble_eq_true rfl, Nat.le_of_ble_eq_true rfl⟩) rfl rfl (Nat.le_of_ble_eq_true rfl) dX7_isTurn_10 ⟨Nat.le_of_ble_eq_true rfl, Nat.le_of_ble_eq_true rfl⟩ ?_
  obtain ⟨hz, hf⟩ := gz_of hf
  exact wk_rz G hr hlocks hz dX7_isTurn_13 (congrArg (fun z => (z, M)) (Option.some.inj hf))
def fX7_height (x1 : Int32) (x2 : Int32) (M : Mem) : Option Int32 := (fX7_isTurn x1 M).bind (fun (r1 : Int32) => if r1 = 0 then (some (-2 : Int32)) else ((fX7_isNode x2 M).bind (fun (r4 : Int32) => if r4 = 0 then (some (-2 : Int32)) else (gd (((7 : Int32) * x1) + x2) 840 (some (M 71 (Int32.toNatClampNeg (((7 : Int32) * x1) + x2))))))))
theorem iX7_height_X7 : ∀ w ∈ wsX70, w ∈ wsX7_height := by decide +kernel
theorem kX7_height_53 : Cond.fieldLink RX7 53 "PartitionPlayModel" "heights" "[I" ∈ wsX7_height := by decide +kernel
abbrev rmX7_height : Room := { frames := 2, cells := 0, slots := 0, locals := 43 }
set_option maxRecDepth 100000 in
set_option maxHeartbeats 4000000 in
theorem c_X7_height (l : Launch) (D : va_G) (cI cZ : ClassId) (ad : Nat → Nat) (x1 : Int32) (x2 : Int32) (M : Mem) (r : Int32) (hf : fX7_height x1 x2 M = some r) : MetI l yX7_height wsX7_height rmX7_height D cI cZ ad [.ref (ad 56), .int x1, .int x2] M r M := by
  refine met_i (cc := cX7_height) (nL := 3) (ret := (some .int)) (own := RX7) (by decide) rfl rfl (Nat.le_of_ble_eq_true rfl) ?_
  intro p e s m args below meth c A G hr hlocks
  unfold fX7_height at hf
  show Wk p l e (headSpec wsX7_height rmX7_height).room s m args below meth c D cI cZ ad A 3 0 0 (QI below D cI cZ ad A args s r M) M 0 [(0, .ref (ad 56)), (1, .int x1), (2, .int x2)] []
  refine wk_aload_n G 0 dX7_height_0 rfl rfl ?_
  refine wk_iload_n G 1 dX7_height_1 rfl rfl ?_
  obtain ⟨r1, q2, hf⟩ := bd_of hf
  refine wk_callVi (As := [.int x1]) (rest := []) (ci := 7) G 56 (by decide) (c_X7_isTurn l D cI cZ ad x1 M r1 q2) (cwV 1 G.2.2.2.2.1 gX7_height_X7_isTurn rfl rfl rfl (by decide +kernel) ⟨Nat.le_of_ble_eq_true rfl, Nat.le_of_ble_eq_true rfl⟩) (ck56 cI cZ ad (M 56)) rfl rfl rfl (Nat.le_of_ble_eq_true rfl) dX7_height_2 ⟨Nat.le_of_ble_eq_true rfl, Nat.le_of_ble_eq_true rfl⟩ ?_
  refine wk_if_eq (tgt := 30) G dX7_height_5 (by decide) (fun c3 => ?_) (fun c3 => ?_)
  · replace hf := it_t c3 hf
    refine wk_bipush (v := (-2 : Int32)) G dX7_height_30 (by decide) ?_
    exact wk_ri G hr hlocks dX7_height_32 (congrArg (fun z => (z, M)) (Option.some.inj hf))
  · replace hf := it_f c3 hf
    refine wk_aload_n G 0 dX7_height_8 rfl rfl ?_
    refine wk_iload_n G 2 dX7_height_9 rfl rfl ?_
    obtain ⟨r4, q5, hf⟩ := bd_of hf
    refine wk_callVi (As := [.int x2]) (rest := []) (ci := 7) G 56 (by decide) (c_X7_isNode l D cI cZ ad x2 M r4 q5) (cwV 1 G.2.2.2.2.1 gX7_height_X7_isNode rfl rfl rfl (by decide +kernel) ⟨Nat.le_of_ble_eq_true rfl, Nat.le_of_ble_eq_true rfl⟩) (ck56 cI cZ ad (M 56)) rfl rfl rfl (Nat.le_of_ble_eq_true rfl) dX7_height_10 ⟨Nat.le_of_ble_eq_true rfl, Nat.le_of_ble_eq_true rfl⟩ ?_
    refine wk_if_eq (tgt := 30) G dX7_height_13 (by decide) (fun c6 => ?_) (fun c6 => ?_)
    · replace hf := it_t c6 hf
      refine wk_bipush (v := (-2 : Int32)) G dX7_height_30 (by decide) ?_
      exact wk_ri G hr hlocks dX7_height_32 (congrArg (fun z => (z, M)) (Option.some.inj hf))
    · replace hf := it_f c6 hf
      refine wk_aload_n G 0 dX7_height_16 rfl rfl ?_
      refine wk_get (ci := 7) (v := .ref (ad 71)) G iX7_height_X7 56 (by decide) (ck56 cI cZ ad (M 56)) rfl 17 (Nat.le_of_ble_eq_true rfl) kX7_height_53 rfl dX7_height_17 ?_
      refine wk_bipush (v := (7 : Int32)) G dX7_height_20 (by decide) ?_
      refine wk_iload_n G 1 dX7_height_22 rfl rfl ?_
      refine wk_imul G dX7_height_23 ?_
      refine wk_iload_n G 2 dX7_height_24 rfl rfl ?_
      refine wk_iadd G dX7_height_25 ?_
      obtain ⟨h7, hf⟩ := gd_of hf
      refine wk_iald G 71 (by decide) (ck71 cI cZ ad) h7 dX7_height_26 ?_
      refine wk_goto (tgt := 32) G dX7_height_27 (by decide) ?_
      exact wk_ri G hr hlocks dX7_height_32 (congrArg (fun z => (z, M)) (Option.some.inj hf))
def fX7_holds (x1 : Int32) (M : Mem) : Option Int32 := (fX7_isTurn x1 M).bind (fun (r1 : Int32) => if r1 = 0 then (some (-2 : Int32)) else (gd x1 120 (if (M 72 (Int32.toNatClampNeg x1)) = 0 then (some (0 : Int32)) else (some (1 : Int32)))))
theorem iX7_holds_X7 : ∀ w ∈ wsX70, w ∈ wsX7_holds := by decide +kernel
theorem kX7_holds_56 : Cond.fieldLink RX7 56 "PartitionPlayModel" "held" "[Z" ∈ wsX7_holds := by decide +kernel
abbrev rmX7_holds : Room := { frames := 2, cells := 0, slots := 0, locals := 43 }
set_option maxRecDepth 100000 in
set_option maxHeartbeats 4000000 in
theorem c_X7_holds (l : Launch) (D : va_G) (cI cZ : ClassId) (ad : Nat → Nat) (x1 : Int32) (M : Mem) (r : Int32) (hf : fX7_holds x1 M = some r) : MetI l yX7_holds wsX7_holds rmX7_holds D cI cZ ad [.ref (ad 56), .int x1] M r M := by
  refine met_i (cc := cX7_holds) (nL := 2) (ret := (some .int)) (own := RX7) (by decide) rfl rfl (Nat.le_of_ble_eq_true rfl) ?_
  intro p e s m args below meth c A G hr hlocks
  unfold fX7_holds at hf
  show Wk p l e (headSpec wsX7_holds rmX7_holds).room s m args below meth c D cI cZ ad A 2 0 0 (QI below D cI cZ ad A args s r M) M 0 [(0, .ref (ad 56)), (1, .int x1)] []
  refine wk_aload_n G 0 dX7_holds_0 rfl rfl ?_
  refine wk_iload_n G 1 dX7_holds_1 rfl rfl ?_
  obtain ⟨r1, q2, hf⟩ := bd_of hf
  refine wk_callVi (As := [.int x1]) (rest := []) (ci := 7) G 56 (by decide) (c_X7_isTurn l D cI cZ ad x1 M r1 q2) (cwV 1 G.2.2.2.2.1 gX7_holds_X7_isTurn rfl rfl rfl (by decide +kernel) ⟨Nat.le_of_ble_eq_true rfl, Nat.le_of_ble_eq_true rfl⟩) (ck56 cI cZ ad (M 56)) rfl rfl rfl (Nat.le_of_ble_eq_true rfl) dX7_holds_2 ⟨Nat.le_of_ble_eq_true rfl, Nat.le_of_ble_eq_true rfl⟩ ?_
  refine wk_if_ne (tgt := 13) G dX7_holds_5 (by decide) (fun c3 => ?_) (fun c3 => ?_)
  · replace hf := it_f c3 hf
    refine wk_aload_n G 0 dX7_holds_13 rfl rfl ?_
    refine wk_get (ci := 7) (v := .ref (ad 72)) G iX7_holds_X7 56 (by decide) (ck56 cI cZ ad (M 56)) rfl 18 (Nat.le_of_ble_eq_true rfl) kX7_holds_56 rfl dX7_holds_14 ?_
    refine wk_iload_n G 1 dX7_holds_17 rfl rfl ?_
    obtain ⟨h4, hf⟩ := gd_of hf
    refine wk_zald G 72 (by decide) (ck72 cI cZ ad) h4 dX7_holds_18 ?_
    refine wk_if_eq (tgt := 26) G dX7_holds_19 (by decide) (fun c5 => ?_) (fun c5 => ?_)
    · replace hf := it_t c5 hf
      refine wk_iconst (v := (0 : Int32)) G dX7_holds_26 (by decide) ?_
      exact wk_ri G hr hlocks dX7_holds_27 (congrArg (fun z => (z, M)) (Option.some.inj hf))
    · replace hf := it_f c5 hf
      refine wk_iconst (v := (1 : Int32)) G dX7_holds_22 (by decide) ?_
      refine wk_goto (tgt := 27) G dX7_holds_23 (by decide) ?_
      exact wk_ri G hr hlocks dX7_holds_27 (congrArg (fun z => (z, M)) (Option.some.inj hf))
  · replace hf := it_t c3 hf
    refine wk_bipush (v := (-2 : Int32)) G dX7_holds_8 (by decide) ?_
    refine wk_goto (tgt := 27) G dX7_holds_10 (by decide) ?_
    exact wk_ri G hr hlocks dX7_holds_27 (congrArg (fun z => (z, M)) (Option.some.inj hf))
def fX7_fails (M : Mem) : Option Int32 := gd (0 : Int32) 2 (if (M 65 (Int32.toNatClampNeg (0 : Int32))) = 0 then (some (-4 : Int32)) else (gd (0 : Int32) 2 (some (M 70 (Int32.toNatClampNeg (0 : Int32))))))
theorem iX7_fails_X7 : ∀ w ∈ wsX70, w ∈ wsX7_fails := by decide +kernel
theorem kX7_fails_35 : Cond.fieldLink RX7 35 "PartitionPlayModel" "turns" "[I" ∈ wsX7_fails := by decide +kernel
theorem kX7_fails_50 : Cond.fieldLink RX7 50 "PartitionPlayModel" "failed" "[I" ∈ wsX7_fails := by decide +kernel
abbrev rmX7_fails : Room := { frames := 0, cells := 0, slots := 0, locals := 0 }
set_option maxRecDepth 100000 in
set_option maxHeartbeats 4000000 in
theorem c_X7_fails (l : Launch) (D : va_G) (cI cZ : ClassId) (ad : Nat → Nat) (M : Mem) (r : Int32) (hf : fX7_fails M = some r) : MetI l yX7_fails wsX7_fails rmX7_fails D cI cZ ad [.ref (ad 56)] M r M := by
  refine met_i (cc := cX7_fails) (nL := 1) (ret := (some .int)) (own := RX7) (by decide) rfl rfl (Nat.le_of_ble_eq_true rfl) ?_
  intro p e s m args below meth c A G hr hlocks
  unfold fX7_fails at hf
  show Wk p l e (headSpec wsX7_fails rmX7_fails).room s m args below meth c D cI cZ ad A 1 0 0 (QI below D cI cZ ad A args s r M) M 0 [(0, .ref (ad 56))] []
  refine wk_aload_n G 0 dX7_fails_0 rfl rfl ?_
  refine wk_get (ci := 7) (v := .ref (ad 65)) G iX7_fails_X7 56 (by decide) (ck56 cI cZ ad (M 56)) rfl 11 (Nat.le_of_ble_eq_true rfl) kX7_fails_35 rfl dX7_fails_1 ?_
  refine wk_iconst (v := (0 : Int32)) G dX7_fails_4 (by decide) ?_
  obtain ⟨h1, hf⟩ := gd_of hf
  refine wk_iald G 65 (by decide) (ck65 cI cZ ad) h1 dX7_fails_5 ?_
  refine wk_if_ne (tgt := 14) G dX7_fails_6 (by decide) (fun c2 => ?_) (fun c2 => ?_)
  · replace hf := it_f c2 hf
    refine wk_aload_n G 0 dX7_fails_14 rfl rfl ?_
    refine wk_get (ci := 7) (v := .ref (ad 70)) G iX7_fails_X7 56 (by decide) (ck56 cI cZ ad (M 56)) rfl 16 (Nat.le_of_ble_eq_true rfl) kX7_fails_50 rfl dX7_fails_15 ?_
    refine wk_iconst (v := (0 : Int32)) G dX7_fails_18 (by decide) ?_
    obtain ⟨h3, hf⟩ := gd_of hf
    refine wk_iald G 70 (by decide) (ck70 cI cZ ad) h3 dX7_fails_19 ?_
    exact wk_ri G hr hlocks dX7_fails_20 (congrArg (fun z => (z, M)) (Option.some.inj hf))
  · replace hf := it_t c2 hf
    refine wk_bipush (v := (-4 : Int32)) G dX7_fails_9 (by decide) ?_
    refine wk_goto (tgt := 20) G dX7_fails_11 (by decide) ?_
    exact wk_ri G hr hlocks dX7_fails_20 (congrArg (fun z => (z, M)) (Option.some.inj hf))
def fX7_letter (x1 : Int32) (x2 : Int32) (M : Mem) : Option Int32 := gd (0 : Int32) 2 ((fX7_in x1 (0 : Int32) ((M 66 (Int32.toNatClampNeg (0 : Int32))) - (1 : Int32))).bind (fun (r2 : Int32) => if r2 = 0 then (some (-2 : Int32)) else ((fX7_in x2 (0 : Int32) (6 : Int32)).bind (fun (r5 : Int32) => if r5 = 0 then (some (-2 : Int32)) else (if x2 = 0 then (gd x1 2400 (some (M 74 (Int32.toNatClampNeg x1)))) else (if x2 = (1 : Int32) then (gd x1 2400 (some (M 75 (Int32.toNatClampNeg x1)))) else (if x2 = (2 : Int32) then (gd x1 2400 (some (M 76 (Int32.toNatClampNeg x1)))) else (if x2 = (3 : Int32) then (gd x1 2400 (some (M 77 (Int32.toNatClampNeg x1)))) else (if x2 = (4 : Int32) then (gd x1 2400 (some (M 78 (Int32.toNatClampNeg x1)))) else (if x2 = (5 : Int32) then (gd x1 2400 (some (M 79 (Int32.toNatClampNeg x1)))) else (gd x1 2400 (some (M 80 (Int32.toNatClampNeg x1))))))))))))))
theorem iX7_letter_X7 : ∀ w ∈ wsX70, w ∈ wsX7_letter := by decide +kernel
theorem kX7_letter_38 : Cond.fieldLink RX7 38 "PartitionPlayModel" "letters" "[I" ∈ wsX7_letter := by decide +kernel
theorem kX7_letter_62 : Cond.fieldLink RX7 62 "PartitionPlayModel" "from" "[I" ∈ wsX7_letter := by decide +kernel
theorem kX7_letter_65 : Cond.fieldLink RX7 65 "PartitionPlayModel" "to" "[I" ∈ wsX7_letter := by decide +kernel
theorem kX7_letter_68 : Cond.fieldLink RX7 68 "PartitionPlayModel" "sent" "[I" ∈ wsX7_letter := by decide +kernel
theorem kX7_letter_71 : Cond.fieldLink RX7 71 "PartitionPlayModel" "height" "[I" ∈ wsX7_letter := by decide +kernel
theorem kX7_letter_74 : Cond.fieldLink RX7 74 "PartitionPlayModel" "carried" "[I" ∈ wsX7_letter := by decide +kernel
theorem kX7_letter_77 : Cond.fieldLink RX7 77 "PartitionPlayModel" "comes" "[I" ∈ wsX7_letter := by decide +kernel
theorem kX7_letter_80 : Cond.fieldLink RX7 80 "PartitionPlayModel" "often" "[I" ∈ wsX7_letter := by decide +kernel
abbrev rmX7_letter : Room := { frames := 1, cells := 0, slots := 0, locals := 22 }
set_option maxRecDepth 100000 in
set_option maxHeartbeats 4000000 in
theorem c_X7_letter (l : Launch) (D : va_G) (cI cZ : ClassId) (ad : Nat → Nat) (x1 : Int32) (x2 : Int32) (M : Mem) (r : Int32) (hf : fX7_letter x1 x2 M = some r) : MetI l yX7_letter wsX7_letter rmX7_letter D cI cZ ad [.ref (ad 56), .int x1, .int x2] M r M := by
  refine met_i (cc := cX7_letter) (nL := 3) (ret := (some .int)) (own := RX7) (by decide) rfl rfl (Nat.le_of_ble_eq_true rfl) ?_
  intro p e s m args below meth c A G hr hlocks
  unfold fX7_letter at hf
  show Wk p l e (headSpec wsX7_letter rmX7_letter).room s m args below meth c D cI cZ ad A 3 0 0 (QI below D cI cZ ad A args s r M) M 0 [(0, .ref (ad 56)), (1, .int x1), (2, .int x2)] []
  refine wk_iload_n G 1 dX7_letter_0 rfl rfl ?_
  refine wk_iconst (v := (0 : Int32)) G dX7_letter_1 (by decide) ?_
  refine wk_aload_n G 0 dX7_letter_2 rfl rfl ?_
  refine wk_get (ci := 7) (v := .ref (ad 66)) G iX7_letter_X7 56 (by decide) (ck56 cI cZ ad (M 56)) rfl 12 (Nat.le_of_ble_eq_true rfl) kX7_letter_38 rfl dX7_letter_3 ?_
  refine wk_iconst (v := (0 : Int32)) G dX7_letter_6 (by decide) ?_
  obtain ⟨h1, hf⟩ := gd_of hf
  refine wk_iald G 66 (by decide) (ck66 cI cZ ad) h1 dX7_letter_7 ?_
  refine wk_iconst (v := (1 : Int32)) G dX7_letter_8 (by decide) ?_
  refine wk_isub G dX7_letter_9 ?_
  obtain ⟨r2, q3, hf⟩ := bd_of hf
  refine wk_callSi (As := [.int x1, .int (0 : Int32), .int ((M 66 (Int32.toNatClampNeg (0 : Int32))) - (1 : Int32))]) (rest := []) G (c_X7_in l D cI cZ ad x1 (0 : Int32) ((M 66 (Int32.toNatClampNeg (0 : Int32))) - (1 : Int32)) M r2 q3) (va_cwS 3 G.2.2.2.2.1 gX7_letter_X7_in rfl rfl rfl (by decide +kernel) ⟨Nat.le_of_ble_eq_true rfl, Nat.le_of_ble_eq_true rfl⟩) rfl rfl (Nat.le_of_ble_eq_true rfl) dX7_letter_10 ⟨Nat.le_of_ble_eq_true rfl, Nat.le_of_ble_eq_true rfl⟩ ?_
  refine wk_if_eq (tgt := 26) G dX7_letter_13 (by decide) (fun c4 => ?_) (fun c4 => ?_)
  · replace hf := it_t c4 hf
    refine wk_bipush (v := (-2 : Int32)) G dX7_letter_26 (by decide) ?_
    exact wk_ri G hr hlocks dX7_letter_28 (congrArg (fun z => (z, M)) (Option.some.inj hf))
  · replace hf := it_f c4 hf
    refine wk_iload_n G 2 dX7_letter_16 rfl rfl ?_
    refine wk_iconst (v := (0 : Int32)) G dX7_letter_17 (by decide) ?_
    refine wk_bipush (v := (6 : Int32)) G dX7_letter_18 (by decide) ?_
    obtain ⟨r5, q6, hf⟩ := bd_of hf
    refine wk_callSi (As := [.int x2, .int (0 : Int32), .int (6 : Int32)]) (rest := []) G (c_X7_in l D cI cZ ad x2 (0 : Int32) (6 : Int32) M r5 q6) (va_cwS 3 G.2.2.2.2.1 gX7_letter_X7_in rfl rfl rfl (by decide +kernel) ⟨Nat.le_of_ble_eq_true rfl, Nat.le_of_ble_eq_true rfl⟩) rfl rfl (Nat.le_of_ble_eq_true rfl) dX7_letter_20 ⟨Nat.le_of_ble_eq_true rfl, Nat.le_of_ble_eq_true rfl⟩ ?_
    refine wk_if_ne (tgt := 29) G dX7_letter_23 (by decide) (fun c7 => ?_) (fun c7 => ?_)
    · replace hf := it_f c7 hf
      refine wk_iload_n G 2 dX7_letter_29 rfl rfl ?_
      refine wk_if_ne (tgt := 42) G dX7_letter_30 (by decide) (fun c8 => ?_) (fun c8 => ?_)
      · replace hf := it_f c8 hf
        refine wk_iload_n G 2 dX7_letter_42 rfl rfl ?_
        refine wk_iconst (v := (1 : Int32)) G dX7_letter_43 (by decide) ?_
        refine wk_icmp_ne (tgt := 56) G dX7_letter_44 (by decide) (fun c9 => ?_) (fun c9 => ?_)
        · replace hf := it_f c9 hf
          refine wk_iload_n G 2 dX7_letter_56 rfl rfl ?_
          refine wk_iconst (v := (2 : Int32)) G dX7_letter_57 (by decide) ?_
          refine wk_icmp_ne (tgt := 70) G dX7_letter_58 (by decide) (fun c10 => ?_) (fun c10 => ?_)
          · replace hf := it_f c10 hf
            refine wk_iload_n G 2 dX7_letter_70 rfl rfl ?_
            refine wk_iconst (v := (3 : Int32)) G dX7_letter_71 (by decide) ?_
            refine wk_icmp_ne (tgt := 84) G dX7_letter_72 (by decide) (fun c11 => ?_) (fun c11 => ?_)
            · replace hf := it_f c11 hf
              refine wk_iload_n G 2 dX7_letter_84 rfl rfl ?_
              refine wk_iconst (v := (4 : Int32)) G dX7_letter_85 (by decide) ?_
              refine wk_icmp_ne (tgt := 98) G dX7_letter_86 (by decide) (fun c12 => ?_) (fun c12 => ?_)
              · replace hf := it_f c12 hf
                refine wk_iload_n G 2 dX7_letter_98 rfl rfl ?_
                refine wk_iconst (v := (5 : Int32)) G dX7_letter_99 (by decide) ?_
                refine wk_icmp_ne (tgt := 112) G dX7_letter_100 (by decide) (fun c13 => ?_) (fun c13 => ?_)
                · replace hf := it_f c13 hf
                  refine wk_aload_n G 0 dX7_letter_112 rfl rfl ?_
                  refine wk_get (ci := 7) (v := .ref (ad 80)) G iX7_letter_X7 56 (by decide) (ck56 cI cZ ad (M 56)) rfl 26 (Nat.le_of_ble_eq_true rfl) kX7_letter_80 rfl dX7_letter_113 ?_
                  refine wk_iload_n G 1 dX7_letter_116 rfl rfl ?_
                  obtain ⟨h14, hf⟩ := gd_of hf
                  refine wk_iald G 80 (by decide) (ck80 cI cZ ad) h14 dX7_letter_117 ?_
                  exact wk_ri G hr hlocks dX7_letter_118 (congrArg (fun z => (z, M)) (Option.some.inj hf))
                · replace hf := it_t c13 hf
                  refine wk_aload_n G 0 dX7_letter_103 rfl rfl ?_
                  refine wk_get (ci := 7) (v := .ref (ad 79)) G iX7_letter_X7 56 (by decide) (ck56 cI cZ ad (M 56)) rfl 25 (Nat.le_of_ble_eq_true rfl) kX7_letter_77 rfl dX7_letter_104 ?_
                  refine wk_iload_n G 1 dX7_letter_107 rfl rfl ?_
                  obtain ⟨h15, hf⟩ := gd_of hf
                  refine wk_iald G 79 (by decide) (ck79 cI cZ ad) h15 dX7_letter_108 ?_
                  refine wk_goto (tgt := 118) G dX7_letter_109 (by decide) ?_
                  exact wk_ri G hr hlocks dX7_letter_118 (congrArg (fun z => (z, M)) (Option.some.inj hf))
              · replace hf := it_t c12 hf
                refine wk_aload_n G 0 dX7_letter_89 rfl rfl ?_
                refine wk_get (ci := 7) (v := .ref (ad 78)) G iX7_letter_X7 56 (by decide) (ck56 cI cZ ad (M 56)) rfl 24 (Nat.le_of_ble_eq_true rfl) kX7_letter_74 rfl dX7_letter_90 ?_
                refine wk_iload_n G 1 dX7_letter_93 rfl rfl ?_
                obtain ⟨h16, hf⟩ := gd_of hf
                refine wk_iald G 78 (by decide) (ck78 cI cZ ad) h16 dX7_letter_94 ?_
                refine wk_goto (tgt := 118) G dX7_letter_95 (by decide) ?_
                exact wk_ri G hr hlocks dX7_letter_118 (congrArg (fun z => (z, M)) (Option.some.inj hf))
            · replace hf := it_t c11 hf
              refine wk_aload_n G 0 dX7_letter_75 rfl rfl ?_
              refine wk_get (ci := 7) (v := .ref (ad 77)) G iX7_letter_X7 56 (by decide) (ck56 cI cZ ad (M 56)) rfl 23 (Nat.le_of_ble_eq_true rfl) kX7_letter_71 rfl dX7_letter_76 ?_
              refine wk_iload_n G 1 dX7_letter_79 rfl rfl ?_
              obtain ⟨h17, hf⟩ := gd_of hf
              refine wk_iald G 77 (by decide) (ck77 cI cZ ad) h17 dX7_letter_80 ?_
              refine wk_goto (tgt := 118) G dX7_letter_81 (by decide) ?_
              exact wk_ri G hr hlocks dX7_letter_118 (congrArg (fun z => (z, M)) (Option.some.inj hf))
          · replace hf := it_t c10 hf
            refine wk_aload_n G 0 dX7_letter_61 rfl rfl ?_
            refine wk_get (ci := 7) (v := .ref (ad 76)) G iX7_letter_X7 56 (by decide) (ck56 cI cZ ad (M 56)) rfl 22 (Nat.le_of_ble_eq_true rfl) kX7_letter_68 rfl dX7_letter_62 ?_
            refine wk_iload_n G 1 dX7_letter_65 rfl rfl ?_
            obtain ⟨h18, hf⟩ := gd_of hf
            refine wk_iald G 76 (by decide) (ck76 cI cZ ad) h18 dX7_letter_66 ?_
            refine wk_goto (tgt := 118) G dX7_letter_67 (by decide) ?_
            exact wk_ri G hr hlocks dX7_letter_118 (congrArg (fun z => (z, M)) (Option.some.inj hf))
        · replace hf := it_t c9 hf
          refine wk_aload_n G 0 dX7_letter_47 rfl rfl ?_
          refine wk_get (ci := 7) (v := .ref (ad 75)) G iX7_letter_X7 56 (by decide) (ck56 cI cZ ad (M 56)) rfl 21 (Nat.le_of_ble_eq_true rfl) kX7_letter_65 rfl dX7_letter_48 ?_
          refine wk_iload_n G 1 dX7_letter_51 rfl rfl ?_
          obtain ⟨h19, hf⟩ := gd_of hf
          refine wk_iald G 75 (by decide) (ck75 cI cZ ad) h19 dX7_letter_52 ?_
          refine wk_goto (tgt := 118) G dX7_letter_53 (by decide) ?_
          exact wk_ri G hr hlocks dX7_letter_118 (congrArg (fun z => (z, M)) (Option.some.inj hf))
      · replace hf := it_t c8 hf
        refine wk_aload_n G 0 dX7_letter_33 rfl rfl ?_
        refine wk_get (ci := 7) (v := .ref (ad 74)) G iX7_letter_X7 56 (by decide) (ck56 cI cZ ad (M 56)) rfl 20 (Nat.le_of_ble_eq_true rfl) kX7_letter_62 rfl dX7_letter_34 ?_
        refine wk_iload_n G 1 dX7_letter_37 rfl rfl ?_
        obtain ⟨h20, hf⟩ := gd_of hf
        refine wk_iald G 74 (by decide) (ck74 cI cZ ad) h20 dX7_letter_38 ?_
        refine wk_goto (tgt := 118) G dX7_letter_39 (by decide) ?_
        exact wk_ri G hr hlocks dX7_letter_118 (congrArg (fun z => (z, M)) (Option.some.inj hf))
    · replace hf := it_t c7 hf
      refine wk_bipush (v := (-2 : Int32)) G dX7_letter_26 (by decide) ?_
      exact wk_ri G hr hlocks dX7_letter_28 (congrArg (fun z => (z, M)) (Option.some.inj hf))
def fX7_reached (x1 : Int32) (M : Mem) : Option Int32 := (fX7_in x1 (0 : Int32) (7 : Int32)).bind (fun (r1 : Int32) => if r1 = 0 then (some (-2 : Int32)) else (gd (0 : Int32) 2 (if (M 65 (Int32.toNatClampNeg (0 : Int32))) = 0 then (some (-4 : Int32)) else ((loop fu (un2 fun (v6 : Int32) (v7 : Int32) => (if (M 56 0) ≤ v7 then (some (.inr v6)) else (gd v7 14 (nm ((v6 + (((M 73 (Int32.toNatClampNeg v7)) >>> (x1 &&& 31)) &&& (1 : Int32)))) fun (v10 : Int32) => nm (v7 + (1 : Int32)) fun (v11 : Int32) => some (.inl (v10, v11)))) : Option ((Int32 × Int32) ⊕ (Int32)))) ((0 : Int32), (0 : Int32))).bind (un1 fun (v12 : Int32) => some v12)))))
theorem iX7_reached_X7 : ∀ w ∈ wsX70, w ∈ wsX7_reached := by decide +kernel
theorem kX7_reached_35 : Cond.fieldLink RX7 35 "PartitionPlayModel" "turns" "[I" ∈ wsX7_reached := by decide +kernel
theorem kX7_reached_59 : Cond.fieldLink RX7 59 "PartitionPlayModel" "known" "[I" ∈ wsX7_reached := by decide +kernel
theorem kX7_reached_101 : Cond.fieldLink RX7 101 "PartitionPlayModel" "n" "I" ∈ wsX7_reached := by decide +kernel
abbrev rmX7_reached : Room := { frames := 1, cells := 0, slots := 0, locals := 22 }
set_option maxRecDepth 100000 in
set_option maxHeartbeats 4000000 in
theorem c_X7_reached (l : Launch) (D : va_G) (cI cZ : ClassId) (ad : Nat → Nat) (x1 : Int32) (M : Mem) (r : Int32) (hf : fX7_reached x1 M = some r) : MetI l yX7_reached wsX7_reached rmX7_reached D cI cZ ad [.ref (ad 56), .int x1] M r M := by
  refine met_i (cc := cX7_reached) (nL := 4) (ret := (some .int)) (own := RX7) (by decide) rfl rfl (Nat.le_of_ble_eq_true rfl) ?_
  intro p e s m args below meth c A G hr hlocks
  unfold fX7_reached at hf
  show Wk p l e (headSpec wsX7_reached rmX7_reached).room s m args below meth c D cI cZ ad A 4 0 0 (QI below D cI cZ ad A args s r M) M 0 [(0, .ref (ad 56)), (1, .int x1)] []
  refine wk_iload_n G 1 dX7_reached_0 rfl rfl ?_
  refine wk_iconst (v := (0 : Int32)) G dX7_reached_1 (by decide) ?_
  refine wk_bipush (v := (7 : Int32)) G dX7_reached_2 (by decide) ?_
  obtain ⟨r1, q2, hf⟩ := bd_of hf
  refine wk_callSi (As := [.int x1, .int (0 : Int32), .int (7 : Int32)]) (rest := []) G (c_X7_in l D cI cZ ad x1 (0 : Int32) (7 : Int32) M r1 q2) (va_cwS 3 G.2.2.2.2.1 gX7_reached_X7_in rfl rfl rfl (by decide +kernel) ⟨Nat.le_of_ble_eq_true rfl, Nat.le_of_ble_eq_true rfl⟩) rfl rfl (Nat.le_of_ble_eq_true rfl) dX7_reached_4 ⟨Nat.le_of_ble_eq_true rfl, Nat.le_of_ble_eq_true rfl⟩ ?_
  refine wk_if_ne (tgt := 13) G dX7_reached_7 (by decide) (fun c3 => ?_) (fun c3 => ?_)
  · replace hf := it_f c3 hf
    refine wk_aload_n G 0 dX7_reached_13 rfl rfl ?_
    refine wk_get (ci := 7) (v := .ref (ad 65)) G iX7_reached_X7 56 (by decide) (ck56 cI cZ ad (M 56)) rfl 11 (Nat.le_of_ble_eq_true rfl) kX7_reached_35 rfl dX7_reached_14 ?_
    refine wk_iconst (v := (0 : Int32)) G dX7_reached_17 (by decide) ?_
    obtain ⟨h4, hf⟩ := gd_of hf
    refine wk_iald G 65 (by decide) (ck65 cI cZ ad) h4 dX7_reached_18 ?_
    refine wk_if_ne (tgt := 25) G dX7_reached_19 (by decide) (fun c5 => ?_) (fun c5 => ?_)
    · replace hf := it_f c5 hf
      refine wk_iconst (v := (0 : Int32)) G dX7_reached_25 (by decide) ?_
      refine wk_istore_n (lv' := [(2, .int (0 : Int32)), (0, .ref (ad 56)), (1, .int x1)]) G dX7_reached_26 rfl (by decide) rfl ?_
      refine wk_iconst (v := (0 : Int32)) G dX7_reached_27 (by decide) ?_
      refine wk_istore_n (lv' := [(3, .int (0 : Int32)), (2, .int (0 : Int32)), (0, .ref (ad 56)), (1, .int x1)]) G dX7_reached_28 rfl (by decide) rfl ?_
      refine wk_sub [2, 3, 1, 0] rfl ?_
      obtain ⟨q13, q14, hf⟩ := bd_of hf
      have Cq13 : (up1 fun (v12 : Int32) => Wk p l e (headSpec wsX7_reached rmX7_reached).room s m args below meth c D cI cZ ad A 4 0 0 (QI below D cI cZ ad A args s r M) M 56 [(2, .int v12)] []) q13 := by
        obtain ⟨v12, rfl⟩ : ∃ z, z = q13 := ⟨_, rfl⟩
        replace hf := un1_of hf
        show Wk p l e (headSpec wsX7_reached rmX7_reached).room s m args below meth c D cI cZ ad A 4 0 0 (QI below D cI cZ ad A args s r M) M 56 [(2, .int v12)] []
        refine wk_iload_n G 0 dX7_reached_56 rfl rfl ?_
        exact wk_ri G hr hlocks dX7_reached_57 (congrArg (fun z => (z, M)) (Option.some.inj hf))
      have Lq13 : (up2 fun (v6 : Int32) (v7 : Int32) => Wk p l e (headSpec wsX7_reached rmX7_reached).room s m args below meth c D cI cZ ad A 4 0 0 (QI below D cI cZ ad A args s r M) M 29 [(0, .ref (ad 56)), (1, .int x1), (2, .int v6), (3, .int v7)] []) ((0 : Int32), (0 : Int32)) := by
        refine loop_P (C := (up1 fun (v12 : Int32) => Wk p l e (headSpec wsX7_reached rmX7_reached).room s m args below meth c D cI cZ ad A 4 0 0 (QI below D cI cZ ad A args s r M) M 56 [(2, .int v12)] [])) ?_ fu ((0 : Int32), (0 : Int32)) q13 q14 Cq13
        clear hf Cq13 q14
        rintro ⟨v6, v7⟩ o hf hI hE
        replace hf := un2_of hf
        show Wk p l e (headSpec wsX7_reached rmX7_reached).room s m args below meth c D cI cZ ad A 4 0 0 (QI below D cI cZ ad A args s r M) M 29 [(0, .ref (ad 56)), (1, .int x1), (2, .int v6), (3, .int v7)] []
        refine wk_iload_n G 3 dX7_reached_29 rfl rfl ?_
        refine wk_aload_n G 0 dX7_reached_30 rfl rfl ?_
        refine wk_get (ci := 7) (v := .int (M 56 0)) G iX7_reached_X7 56 (by decide) (ck56 cI cZ ad (M 56)) rfl 0 (Nat.le_of_ble_eq_true rfl) kX7_reached_101 rfl dX7_reached_31 ?_
        refine wk_icmp_ge (tgt := 56) G dX7_reached_34 (by decide) (fun c8 => ?_) (fun c8 => ?_)
        · replace hf := it_t c8 hf
          refine wk_sub [2] rfl ?_
          exact hE _ (Option.some.inj hf).symm
        · replace hf := it_f c8 hf
          refine wk_iload_n G 2 dX7_reached_37 rfl rfl ?_
          refine wk_aload_n G 0 dX7_reached_38 rfl rfl ?_
          refine wk_get (ci := 7) (v := .ref (ad 73)) G iX7_reached_X7 56 (by decide) (ck56 cI cZ ad (M 56)) rfl 19 (Nat.le_of_ble_eq_true rfl) kX7_reached_59 rfl dX7_reached_39 ?_
          refine wk_iload_n G 3 dX7_reached_42 rfl rfl ?_
          obtain ⟨h9, hf⟩ := gd_of hf
          refine wk_iald G 73 (by decide) (ck73 cI cZ ad) h9 dX7_reached_43 ?_
          refine wk_iload_n G 1 dX7_reached_44 rfl rfl ?_
          refine wk_ishr G dX7_reached_45 ?_
          refine wk_iconst (v := (1 : Int32)) G dX7_reached_46 (by decide) ?_
          refine wk_iand G dX7_reached_47 ?_
          refine wk_iadd G dX7_reached_48 ?_
          obtain ⟨v10, ev10, hf⟩ := nm_ex hf
          refine wk_nme ev10 ?_
          refine wk_istore_n (lv' := [(2, .int v10), (0, .ref (ad 56)), (1, .int x1), (3, .int v7)]) G dX7_reached_49 rfl (by decide) rfl ?_
          obtain ⟨v11, ev11, hf⟩ := nm_ex hf
          refine wk_iinc (v := v11) (lv' := [(3, .int v11), (2, .int v10), (0, .ref (ad 56)), (1, .int x1)]) G 3 dX7_reached_50 rfl (by rw [ev11]; rfl) (by decide) rfl ?_
          refine wk_goto (tgt := 29) G dX7_reached_53 (by decide) ?_
          refine wk_sub [2, 3, 1, 0] rfl ?_
          exact hI _ (Option.some.inj hf).symm
      exact Lq13
    · replace hf := it_t c5 hf
      refine wk_bipush (v := (-4 : Int32)) G dX7_reached_22 (by decide) ?_
      exact wk_ri G hr hlocks dX7_reached_24 (congrArg (fun z => (z, M)) (Option.some.inj hf))
  · replace hf := it_t c3 hf
    refine wk_bipush (v := (-2 : Int32)) G dX7_reached_10 (by decide) ?_
    exact wk_ri G hr hlocks dX7_reached_12 (congrArg (fun z => (z, M)) (Option.some.inj hf))
def fX7_bytes (x1 : Int32) (M : Mem) : Option Int32 := (fX7_isNode x1 M).bind (fun (r1 : Int32) => if r1 = 0 then (some (-2 : Int32)) else (gd (0 : Int32) 2 (if (M 65 (Int32.toNatClampNeg (0 : Int32))) = 0 then (some (-4 : Int32)) else ((loop fu (un2 fun (v6 : Int32) (v7 : Int32) => (gd (0 : Int32) 2 (if (M 66 (Int32.toNatClampNeg (0 : Int32))) ≤ v7 then (some (.inr v6)) else (gd v7 2400 (nm (fun (v11 : Int32) => nm ((v6 + v11)) fun (v12 : Int32) => nm (v7 + (1 : Int32)) fun (v13 : Int32) => some (.inl (v12, v13))) fun j63 => if (M 74 (Int32.toNatClampNeg v7)) = x1 then (gd v7 2400 ((fX7_bits (M 78 (Int32.toNatClampNeg v7))).bind (fun (r16 : Int32) => j63 ((4 : Int32) + r16)))) else (j63 (0 : Int32))))) : Option ((Int32 × Int32) ⊕ (Int32)))) ((0 : Int32), (0 : Int32))).bind (un1 fun (v18 : Int32) => some v18)))))
theorem iX7_bytes_X7 : ∀ w ∈ wsX70, w ∈ wsX7_bytes := by decide +kernel
theorem kX7_bytes_35 : Cond.fieldLink RX7 35 "PartitionPlayModel" "turns" "[I" ∈ wsX7_bytes := by decide +kernel
theorem kX7_bytes_38 : Cond.fieldLink RX7 38 "PartitionPlayModel" "letters" "[I" ∈ wsX7_bytes := by decide +kernel
theorem kX7_bytes_62 : Cond.fieldLink RX7 62 "PartitionPlayModel" "from" "[I" ∈ wsX7_bytes := by decide +kernel
theorem kX7_bytes_74 : Cond.fieldLink RX7 74 "PartitionPlayModel" "carried" "[I" ∈ wsX7_bytes := by decide +kernel
abbrev rmX7_bytes : Room := { frames := 2, cells := 0, slots := 0, locals := 43 }
set_option maxRecDepth 100000 in
set_option maxHeartbeats 4000000 in
theorem c_X7_bytes (l : Launch) (D : va_G) (cI cZ : ClassId) (ad : Nat → Nat) (x1 : Int32) (M : Mem) (r : Int32) (hf : fX7_bytes x1 M = some r) : MetI l yX7_bytes wsX7_bytes rmX7_bytes D cI cZ ad [.ref (ad 56), .int x1] M r M := by
  refine met_i (cc := cX7_bytes) (nL := 4) (ret := (some .int)) (own := RX7) (by decide) rfl rfl (Nat.le_of_ble_eq_true rfl) ?_
  intro p e s m args below meth c A G hr hlocks
  unfold fX7_bytes at hf
  show Wk p l e (headSpec wsX7_bytes rmX7_bytes).room s m args below meth c D cI cZ ad A 4 0 0 (QI below D cI cZ ad A args s r M) M 0 [(0, .ref (ad 56)), (1, .int x1)] []
  refine wk_aload_n G 0 dX7_bytes_0 rfl rfl ?_
  refine wk_iload_n G 1 dX7_bytes_1 rfl rfl ?_
  obtain ⟨r1, q2, hf⟩ := bd_of hf
  refine wk_callVi (As := [.int x1]) (rest := []) (ci := 7) G 56 (by decide) (c_X7_isNode l D cI cZ ad x1 M r1 q2) (cwV 1 G.2.2.2.2.1 gX7_bytes_X7_isNode rfl rfl rfl (by decide +kernel) ⟨Nat.le_of_ble_eq_true rfl, Nat.le_of_ble_eq_true rfl⟩) (ck56 cI cZ ad (M 56)) rfl rfl rfl (Nat.le_of_ble_eq_true rfl) dX7_bytes_2 ⟨Nat.le_of_ble_eq_true rfl, Nat.le_of_ble_eq_true rfl⟩ ?_
  refine wk_if_ne (tgt := 11) G dX7_bytes_5 (by decide) (fun c3 => ?_) (fun c3 => ?_)
  · replace hf := it_f c3 hf
    refine wk_aload_n G 0 dX7_bytes_11 rfl rfl ?_
    refine wk_get (ci := 7) (v := .ref (ad 65)) G iX7_bytes_X7 56 (by decide) (ck56 cI cZ ad (M 56)) rfl 11 (Nat.le_of_ble_eq_true rfl) kX7_bytes_35 rfl dX7_bytes_12 ?_
    refine wk_iconst (v := (0 : Int32)) G dX7_bytes_15 (by decide) ?_
    obtain ⟨h4, hf⟩ := gd_of hf
    refine wk_iald G 65 (by decide) (ck65 cI cZ ad) h4 dX7_bytes_16 ?_
    refine wk_if_ne (tgt := 23) G dX7_bytes_17 (by decide) (fun c5 => ?_) (fun c5 => ?_)
    · replace hf := it_f c5 hf
      refine wk_iconst (v := (0 : Int32)) G dX7_bytes_23 (by decide) ?_
      refine wk_istore_n (lv' := [(2, .int (0 : Int32)), (0, .ref (ad 56)), (1, .int x1)]) G dX7_bytes_24 rfl (by decide) rfl ?_
      refine wk_iconst (v := (0 : Int32)) G dX7_bytes_25 (by decide) ?_
      refine wk_istore_n (lv' := [(3, .int (0 : Int32)), (2, .int (0 : Int32)), (0, .ref (ad 56)), (1, .int x1)]) G dX7_bytes_26 rfl (by decide) rfl ?_
      refine wk_sub [2, 3, 1, 0] rfl ?_
      obtain ⟨q19, q20, hf⟩ := bd_of hf
      have Cq19 : (up1 fun (v18 : Int32) => Wk p l e (headSpec wsX7_bytes rmX7_bytes).room s m args below meth c D cI cZ ad A 4 0 0 (QI below D cI cZ ad A args s r M) M 71 [(2, .int v18)] []) q19 := by
        obtain ⟨v18, rfl⟩ : ∃ z, z = q19 := ⟨_, rfl⟩
        replace hf := un1_of hf
        show Wk p l e (headSpec wsX7_bytes rmX7_bytes).room s m args below meth c D cI cZ ad A 4 0 0 (QI below D cI cZ ad A args s r M) M 71 [(2, .int v18)] []
        refine wk_iload_n G 0 dX7_bytes_71 rfl rfl ?_
        exact wk_ri G hr hlocks dX7_bytes_72 (congrArg (fun z => (z, M)) (Option.some.inj hf))
      have Lq19 : (up2 fun (v6 : Int32) (v7 : Int32) => Wk p l e (headSpec wsX7_bytes rmX7_bytes).room s m args below meth c D cI cZ ad A 4 0 0 (QI below D cI cZ ad A args s r M) M 27 [(0, .ref (ad 56)), (1, .int x1), (2, .int v6), (3, .int v7)] []) ((0 : Int32), (0 : Int32)) := by
        refine loop_P (C := (up1 fun (v18 : Int32) => Wk p l e (headSpec wsX7_bytes rmX7_bytes).room s m args below meth c D cI cZ ad A 4 0 0 (QI below D cI cZ ad A args s r M) M 71 [(2, .int v18)] [])) ?_ fu ((0 : Int32), (0 : Int32)) q19 q20 Cq19
        clear hf Cq19 q20
        rintro ⟨v6, v7⟩ o hf hI hE
        replace hf := un2_of hf
        show Wk p l e (headSpec wsX7_bytes rmX7_bytes).room s m args below meth c D cI cZ ad A 4 0 0 (QI below D cI cZ ad A args s r M) M 27 [(0, .ref (ad 56)), (1, .int x1), (2, .int v6), (3, .int v7)] []
        refine wk_iload_n G 3 dX7_bytes_27 rfl rfl ?_
        refine wk_aload_n G 0 dX7_bytes_28 rfl rfl ?_
        refine wk_get (ci := 7) (v := .ref (ad 66)) G iX7_bytes_X7 56 (by decide) (ck56 cI cZ ad (M 56)) rfl 12 (Nat.le_of_ble_eq_true rfl) kX7_bytes_38 rfl dX7_bytes_29 ?_
        refine wk_iconst (v := (0 : Int32)) G dX7_bytes_32 (by decide) ?_
        obtain ⟨h8, hf⟩ := gd_of hf
        refine wk_iald G 66 (by decide) (ck66 cI cZ ad) h8 dX7_bytes_33 ?_
        refine wk_icmp_ge (tgt := 71) G dX7_bytes_34 (by decide) (fun c9 => ?_) (fun c9 => ?_)
        · replace hf := it_t c9 hf
          refine wk_sub [2] rfl ?_
          exact hE _ (Option.some.inj hf).symm
        · replace hf := it_f c9 hf
          refine wk_iload_n G 2 dX7_bytes_37 rfl rfl ?_
          refine wk_aload_n G 0 dX7_bytes_38 rfl rfl ?_
          refine wk_get (ci := 7) (v := .ref (ad 74)) G iX7_bytes_X7 56 (by decide) (ck56 cI cZ ad (M 56)) rfl 20 (Nat.le_of_ble_eq_true rfl) kX7_bytes_62 rfl dX7_bytes_39 ?_
          refine wk_iload_n G 3 dX7_bytes_42 rfl rfl ?_
          obtain ⟨h10, hf⟩ := gd_of hf
          refine wk_iald G 74 (by decide) (ck74 cI cZ ad) h10 dX7_bytes_43 ?_
          refine wk_iload_n G 1 dX7_bytes_44 rfl rfl ?_
          obtain ⟨j63, ej63, hf⟩ := nm_ex hf
          have J63 : ∀ (v11 : Int32), j63 v11 = some o → Wk p l e (headSpec wsX7_bytes rmX7_bytes).room s m args below meth c D cI cZ ad A 4 0 0 (QI below D cI cZ ad A args s r M) M 63 [(0, .ref (ad 56)), (1, .int x1), (3, .int v7)] [.int v11, .int v6] := by
            intro v11 hf
            replace hf := jn1 ej63 hf
            refine wk_iadd G dX7_bytes_63 ?_
            obtain ⟨v12, ev12, hf⟩ := nm_ex hf
            refine wk_nme ev12 ?_
            refine wk_istore_n (lv' := [(2, .int v12), (0, .ref (ad 56)), (1, .int x1), (3, .int v7)]) G dX7_bytes_64 rfl (by decide) rfl ?_
            obtain ⟨v13, ev13, hf⟩ := nm_ex hf
            refine wk_iinc (v := v13) (lv' := [(3, .int v13), (2, .int v12), (0, .ref (ad 56)), (1, .int x1)]) G 3 dX7_bytes_65 rfl (by rw [ev13]; rfl) (by decide) rfl ?_
            refine wk_goto (tgt := 27) G dX7_bytes_68 (by decide) ?_
            refine wk_sub [2, 3, 1, 0] rfl ?_
            exact hI _ (Option.some.inj hf).symm
          refine wk_icmp_ne (tgt := 62) G dX7_bytes_45 (by decide) (fun c14 => ?_) (fun c14 => ?_)
          · replace hf := it_f c14 hf
            refine wk_iconst (v := (0 : Int32)) G dX7_bytes_62 (by decide) ?_
            refine wk_sub [0, 1, 3] rfl ?_
            exact J63 (0 : Int32) hf
          · replace hf := it_t c14 hf
            refine wk_iconst (v := (4 : Int32)) G dX7_bytes_48 (by decide) ?_
            refine wk_aload_n G 0 dX7_bytes_49 rfl rfl ?_
            refine wk_get (ci := 7) (v := .ref (ad 78)) G iX7_bytes_X7 56 (by decide) (ck56 cI cZ ad (M 56)) rfl 24 (Nat.le_of_ble_eq_true rfl) kX7_bytes_74 rfl dX7_bytes_50 ?_
            refine wk_iload_n G 3 dX7_bytes_53 rfl rfl ?_
            obtain ⟨h15, hf⟩ := gd_of hf
            refine wk_iald G 78 (by decide) (ck78 cI cZ ad) h15 dX7_bytes_54 ?_
            obtain ⟨r16, q17, hf⟩ := bd_of hf
            refine wk_callSi (As := [.int (M 78 (Int32.toNatClampNeg v7))]) (rest := [.int (4 : Int32), .int v6]) G (c_X7_bits l D cI cZ ad (M 78 (Int32.toNatClampNeg v7)) M r16 q17) (va_cwS 1 G.2.2.2.2.1 gX7_bytes_X7_bits rfl rfl rfl (by decide +kernel) ⟨Nat.le_of_ble_eq_true rfl, Nat.le_of_ble_eq_true rfl⟩) rfl rfl (Nat.le_of_ble_eq_true rfl) dX7_bytes_55 ⟨Nat.le_of_ble_eq_true rfl, Nat.le_of_ble_eq_true rfl⟩ ?_
            refine wk_iadd G dX7_bytes_58 ?_
            refine wk_goto (tgt := 63) G dX7_bytes_59 (by decide) ?_
            refine wk_sub [0, 1, 3] rfl ?_
            exact J63 ((4 : Int32) + r16) hf
      exact Lq19
    · replace hf := it_t c5 hf
      refine wk_bipush (v := (-4 : Int32)) G dX7_bytes_20 (by decide) ?_
      exact wk_ri G hr hlocks dX7_bytes_22 (congrArg (fun z => (z, M)) (Option.some.inj hf))
  · replace hf := it_t c3 hf
    refine wk_bipush (v := (-2 : Int32)) G dX7_bytes_8 (by decide) ?_
    exact wk_ri G hr hlocks dX7_bytes_10 (congrArg (fun z => (z, M)) (Option.some.inj hf))
def fX7_shrink (M : Mem) : Option (Int32 × Mem) := gd (0 : Int32) 2 (if (M 65 (Int32.toNatClampNeg (0 : Int32))) = 0 then (some ((-4 : Int32), M)) else ((fX7_isFailing M).bind (un2 fun (r3 : Int32) (M4 : Mem) => if r3 = 0 then (some ((-4 : Int32), M4)) else (nm (((M4 56 4) - (1 : Int32))) fun (v7 : Int32) => (loop fu (un2 fun (v8 : Int32) (M9 : Mem) => (if v8 < 0 then (some (.inr M9)) else (gd v8 20 (nm (st M9 64 (Int32.toNatClampNeg v8) (vp_nar .boolean (1 : Int32))) fun (M12 : Mem) => (fX7_isFailing M12).bind (un2 fun (r13 : Int32) (M14 : Mem) => gd v8 20 (nm (st M14 64 (Int32.toNatClampNeg v8) (vp_nar .boolean (0 : Int32))) fun (M17 : Mem) => nm (fun (M18 : Mem) => nm (v8 + (-1 : Int32)) fun (v19 : Int32) => some (.inl (v19, M18))) fun j58 => if r13 = 0 then (j58 M17) else ((fX7_remove v8 M17).bind (fun (M21 : Mem) => j58 M21)))))) : Option ((Int32 × Mem) ⊕ (Mem)))) (v7, M4)).bind (un1 fun (M23 : Mem) => gd (0 : Int32) 2 ((fX7_run (0 : Int32) (M23 65 (Int32.toNatClampNeg (0 : Int32))) M23).bind (fun (M25 : Mem) => some ((M25 56 4), M25))))))))
theorem iX7_shrink_X7 : ∀ w ∈ wsX70, w ∈ wsX7_shrink := by decide +kernel
theorem kX7_shrink_31 : Cond.fieldLink RX7 31 "PartitionPlayModel" "isOut" "[Z" ∈ wsX7_shrink := by decide +kernel
theorem kX7_shrink_35 : Cond.fieldLink RX7 35 "PartitionPlayModel" "turns" "[I" ∈ wsX7_shrink := by decide +kernel
theorem kX7_shrink_117 : Cond.fieldLink RX7 117 "PartitionPlayModel" "events" "I" ∈ wsX7_shrink := by decide +kernel
abbrev rmX7_shrink : Room := { frames := 5, cells := 0, slots := 0, locals := 118 }
set_option maxRecDepth 100000 in
set_option maxHeartbeats 4000000 in
theorem c_X7_shrink (l : Launch) (D : va_G) (cI cZ : ClassId) (ad : Nat → Nat) (M : Mem) (r : Int32) (M' : Mem) (hf : fX7_shrink M = some (r, M')) : MetI l yX7_shrink wsX7_shrink rmX7_shrink D cI cZ ad [.ref (ad 56)] M r M' := by
  refine met_i (cc := cX7_shrink) (nL := 3) (ret := (some .int)) (own := RX7) (by decide) rfl rfl (Nat.le_of_ble_eq_true rfl) ?_
  intro p e s m args below meth c A G hr hlocks
  unfold fX7_shrink at hf
  show Wk p l e (headSpec wsX7_shrink rmX7_shrink).room s m args below meth c D cI cZ ad A 3 0 0 (QI below D cI cZ ad A args s r M') M 0 [(0, .ref (ad 56))] []
  refine wk_aload_n G 0 dX7_shrink_0 rfl rfl ?_
  refine wk_get (ci := 7) (v := .ref (ad 65)) G iX7_shrink_X7 56 (by decide) (ck56 cI cZ ad (M 56)) rfl 11 (Nat.le_of_ble_eq_true rfl) kX7_shrink_35 rfl dX7_shrink_1 ?_
  refine wk_iconst (v := (0 : Int32)) G dX7_shrink_4 (by decide) ?_
  obtain ⟨h1, hf⟩ := gd_of hf
  refine wk_iald G 65 (by decide) (ck65 cI cZ ad) h1 dX7_shrink_5 ?_
  refine wk_if_eq (tgt := 16) G dX7_shrink_6 (by decide) (fun c2 => ?_) (fun c2 => ?_)
  · replace hf := it_t c2 hf
    refine wk_bipush (v := (-4 : Int32)) G dX7_shrink_16 (by decide) ?_
    exact wk_ri G hr hlocks dX7_shrink_18 (Option.some.inj hf)
  · replace hf := it_f c2 hf
    refine wk_aload_n G 0 dX7_shrink_9 rfl rfl ?_
    obtain ⟨⟨r3, M4⟩, q5, hf⟩ := bd_of hf
    replace hf := un2_of hf
    refine wk_callVi (As := []) (rest := []) (ci := 7) G 56 (by decide) (c_X7_isFailing l D cI cZ ad M r3 M4 q5) (cwV 0 G.2.2.2.2.1 gX7_shrink_X7_isFailing rfl rfl rfl (by decide +kernel) ⟨Nat.le_of_ble_eq_true rfl, Nat.le_of_ble_eq_true rfl⟩) (ck56 cI cZ ad (M 56)) rfl rfl rfl (Nat.le_of_ble_eq_true rfl) dX7_shrink_10 ⟨Nat.le_of_ble_eq_true rfl, Nat.le_of_ble_eq_true rfl⟩ ?_
    refine wk_if_ne (tgt := 19) G dX7_shrink_13 (by decide) (fun c6 => ?_) (fun c6 => ?_)
    · replace hf := it_f c6 hf
      refine wk_aload_n G 0 dX7_shrink_19 rfl rfl ?_
      refine wk_get (ci := 7) (v := .int (M4 56 4)) G iX7_shrink_X7 56 (by decide) (ck56 cI cZ ad (M4 56)) rfl 4 (Nat.le_of_ble_eq_true rfl) kX7_shrink_117 rfl dX7_shrink_20 ?_
      refine wk_iconst (v := (1 : Int32)) G dX7_shrink_23 (by decide) ?_
      refine wk_isub G dX7_shrink_24 ?_
      obtain ⟨v7, ev7, hf⟩ := nm_ex hf
      refine wk_nme ev7 ?_
      refine wk_istore_n (lv' := [(1, .int v7), (0, .ref (ad 56))]) G dX7_shrink_25 rfl (by decide) rfl ?_
      refine wk_sub [1, 0] rfl ?_
      obtain ⟨q27, q28, hf⟩ := bd_of hf
      have Cq27 : (up1 fun (M23 : Mem) => Wk p l e (headSpec wsX7_shrink rmX7_shrink).room s m args below meth c D cI cZ ad A 3 0 0 (QI below D cI cZ ad A args s r M') M23 64 [(0, .ref (ad 56))] []) q27 := by
        obtain ⟨M23, rfl⟩ : ∃ z, z = q27 := ⟨_, rfl⟩
        replace hf := un1_of hf
        show Wk p l e (headSpec wsX7_shrink rmX7_shrink).room s m args below meth c D cI cZ ad A 3 0 0 (QI below D cI cZ ad A args s r M') M23 64 [(0, .ref (ad 56))] []
        refine wk_aload_n G 0 dX7_shrink_64 rfl rfl ?_
        refine wk_iconst (v := (0 : Int32)) G dX7_shrink_65 (by decide) ?_
        refine wk_aload_n G 0 dX7_shrink_66 rfl rfl ?_
        refine wk_get (ci := 7) (v := .ref (ad 65)) G iX7_shrink_X7 56 (by decide) (ck56 cI cZ ad (M23 56)) rfl 11 (Nat.le_of_ble_eq_true rfl) kX7_shrink_35 rfl dX7_shrink_67 ?_
        refine wk_iconst (v := (0 : Int32)) G dX7_shrink_70 (by decide) ?_
        obtain ⟨h24, hf⟩ := gd_of hf
        refine wk_iald G 65 (by decide) (ck65 cI cZ ad) h24 dX7_shrink_71 ?_
        obtain ⟨M25, q26, hf⟩ := bd_of hf
        refine wk_callVv (As := [.int (0 : Int32), .int (M23 65 (Int32.toNatClampNeg (0 : Int32)))]) (rest := []) (ci := 7) G 56 (by decide) (c_X7_run l D cI cZ ad (0 : Int32) (M23 65 (Int32.toNatClampNeg (0 : Int32))) M23 M25 q26) (cwV 2 G.2.2.2.2.1 gX7_shrink_X7_run rfl rfl rfl (by decide +kernel) ⟨Nat.le_of_ble_eq_true rfl, Nat.le_of_ble_eq_true rfl⟩) (ck56 cI cZ ad (M23 56)) rfl rfl rfl (Nat.le_of_ble_eq_true rfl) dX7_shrink_72 ⟨Nat.le_of_ble_eq_true rfl, Nat.le_of_ble_eq_true rfl⟩ ?_
        refine wk_aload_n G 0 dX7_shrink_75 rfl rfl ?_
        refine wk_get (ci := 7) (v := .int (M25 56 4)) G iX7_shrink_X7 56 (by decide) (ck56 cI cZ ad (M25 56)) rfl 4 (Nat.le_of_ble_eq_true rfl) kX7_shrink_117 rfl dX7_shrink_76 ?_
        exact wk_ri G hr hlocks dX7_shrink_79 (Option.some.inj hf)
      have Lq27 : (up2 fun (v8 : Int32) (M9 : Mem) => Wk p l e (headSpec wsX7_shrink rmX7_shrink).room s m args below meth c D cI cZ ad A 3 0 0 (QI below D cI cZ ad A args s r M') M9 26 [(0, .ref (ad 56)), (1, .int v8)] []) (v7, M4) := by
        refine loop_P (C := (up1 fun (M23 : Mem) => Wk p l e (headSpec wsX7_shrink rmX7_shrink).room s m args below meth c D cI cZ ad A 3 0 0 (QI below D cI cZ ad A args s r M') M23 64 [(0, .ref (ad 56))] [])) ?_ fu (v7, M4) q27 q28 Cq27
        clear hf Cq27 q28
        rintro ⟨v8, M9⟩ o hf hI hE
        replace hf := un2_of hf
        show Wk p l e (headSpec wsX7_shrink rmX7_shrink).room s m args below meth c D cI cZ ad A 3 0 0 (QI below D cI cZ ad A args s r M') M9 26 [(0, .ref (ad 56)), (1, .int v8)] []
        refine wk_iload_n G 1 dX7_shrink_26 rfl rfl ?_
        refine wk_if_lt (tgt := 64) G dX7_shrink_27 (by decide) (fun c10 => ?_) (fun c10 => ?_)
        · replace hf := it_t c10 hf
          refine wk_sub [0] rfl ?_
          exact hE _ (Option.some.inj hf).symm
        · replace hf := it_f c10 hf
          refine wk_aload_n G 0 dX7_shrink_30 rfl rfl ?_
          refine wk_get (ci := 7) (v := .ref (ad 64)) G iX7_shrink_X7 56 (by decide) (ck56 cI cZ ad (M9 56)) rfl 9 (Nat.le_of_ble_eq_true rfl) kX7_shrink_31 rfl dX7_shrink_31 ?_
          refine wk_iload_n G 1 dX7_shrink_34 rfl rfl ?_
          refine wk_iconst (v := (1 : Int32)) G dX7_shrink_35 (by decide) ?_
          obtain ⟨h11, hf⟩ := gd_of hf
          obtain ⟨M12, eM12, hf⟩ := nm_ex hf
          refine wk_zast G 64 (by decide) (ck64 cI cZ ad) h11 dX7_shrink_36 eM12 ?_
          refine wk_aload_n G 0 dX7_shrink_37 rfl rfl ?_
          obtain ⟨⟨r13, M14⟩, q15, hf⟩ := bd_of hf
          replace hf := un2_of hf
          refine wk_callVi (As := []) (rest := []) (ci := 7) G 56 (by decide) (c_X7_isFailing l D cI cZ ad M12 r13 M14 q15) (cwV 0 G.2.2.2.2.1 gX7_shrink_X7_isFailing rfl rfl rfl (by decide +kernel) ⟨Nat.le_of_ble_eq_true rfl, Nat.le_of_ble_eq_true rfl⟩) (ck56 cI cZ ad (M12 56)) rfl rfl rfl (Nat.le_of_ble_eq_true rfl) dX7_shrink_38 ⟨Nat.le_of_ble_eq_true rfl, Nat.le_of_ble_eq_true rfl⟩ ?_
          refine wk_istore_n (lv' := [(2, .int r13), (0, .ref (ad 56)), (1, .int v8)]) G dX7_shrink_41 rfl (by decide) rfl ?_
          refine wk_aload_n G 1 dX7_shrink_42 rfl rfl ?_
          refine wk_get (ci := 7) (v := .ref (ad 64)) G iX7_shrink_X7 56 (by decide) (ck56 cI cZ ad (M14 56)) rfl 9 (Nat.le_of_ble_eq_true rfl) kX7_shrink_31 rfl dX7_shrink_43 ?_
          refine wk_iload_n G 2 dX7_shrink_46 rfl rfl ?_
          refine wk_iconst (v := (0 : Int32)) G dX7_shrink_47 (by decide) ?_
          obtain ⟨h16, hf⟩ := gd_of hf
          obtain ⟨M17, eM17, hf⟩ := nm_ex hf
          refine wk_zast G 64 (by decide) (ck64 cI cZ ad) h16 dX7_shrink_48 eM17 ?_
          refine wk_iload_n G 0 dX7_shrink_49 rfl rfl ?_
          obtain ⟨j58, ej58, hf⟩ := nm_ex hf
          have J58 : ∀ (M18 : Mem), j58 M18 = some o → Wk p l e (headSpec wsX7_shrink rmX7_shrink).room s m args below meth c D cI cZ ad A 3 0 0 (QI below D cI cZ ad A args s r M') M18 58 [(0, .ref (ad 56)), (1, .int v8)] [] := by
            intro M18 hf
            replace hf := jn1 ej58 hf
            obtain ⟨v19, ev19, hf⟩ := nm_ex hf
            refine wk_iinc (v := v19) (lv' := [(1, .int v19), (0, .ref (ad 56))]) G 1 dX7_shrink_58 rfl (by rw [ev19]; rfl) (by decide) rfl ?_
            refine wk_goto (tgt := 26) G dX7_shrink_61 (by decide) ?_
            refine wk_sub [1, 0] rfl ?_
            exact hI _ (Option.some.inj hf).symm
          refine wk_if_eq (tgt := 58) G dX7_shrink_50 (by decide) (fun c20 => ?_) (fun c20 => ?_)
          · replace hf := it_t c20 hf
            refine wk_sub [1, 2] rfl ?_
            exact J58 M17 hf
          · replace hf := it_f c20 hf
            refine wk_aload_n G 1 dX7_shrink_53 rfl rfl ?_
            refine wk_iload_n G 2 dX7_shrink_54 rfl rfl ?_
            obtain ⟨M21, q22, hf⟩ := bd_of hf
            refine wk_callVv (As := [.int v8]) (rest := []) (ci := 7) G 56 (by decide) (c_X7_remove l D cI cZ ad v8 M17 M21 q22) (cwV 1 G.2.2.2.2.1 gX7_shrink_X7_remove rfl rfl rfl (by decide +kernel) ⟨Nat.le_of_ble_eq_true rfl, Nat.le_of_ble_eq_true rfl⟩) (ck56 cI cZ ad (M17 56)) rfl rfl rfl (Nat.le_of_ble_eq_true rfl) dX7_shrink_55 ⟨Nat.le_of_ble_eq_true rfl, Nat.le_of_ble_eq_true rfl⟩ ?_
            refine wk_sub [1, 2] rfl ?_
            exact J58 M21 hf
      exact Lq27
    · replace hf := it_t c6 hf
      refine wk_bipush (v := (-4 : Int32)) G dX7_shrink_16 (by decide) ?_
      exact wk_ri G hr hlocks dX7_shrink_18 (Option.some.inj hf)
def fX7_minimal (M : Mem) : Option (Int32 × Mem) := gd (0 : Int32) 2 (if (M 65 (Int32.toNatClampNeg (0 : Int32))) = 0 then (some ((-4 : Int32), M)) else ((fX7_isFailing M).bind (un2 fun (r3 : Int32) (M4 : Mem) => (loop fu (un3 fun (v6 : Int32) (v7 : Int32) (M8 : Mem) => (if (M8 56 4) ≤ v7 then (some (.inr (v6, M8))) else (if v6 = 0 then (some (.inr (v6, M8))) else (gd v7 20 (nm (st M8 64 (Int32.toNatClampNeg v7) (vp_nar .boolean (1 : Int32))) fun (M12 : Mem) => (fX7_isFailing M12).bind (un2 fun (r13 : Int32) (M14 : Mem) => nm (fun (v16 : Int32) => gd v7 20 (nm (st M14 64 (Int32.toNatClampNeg v7) (vp_nar .boolean (0 : Int32))) fun (M18 : Mem) => nm (v7 + (1 : Int32)) fun (v19 : Int32) => some (.inl (v16, v19, M18)))) fun j50 => if r13 = 0 then (j50 (1 : Int32)) else (j50 (0 : Int32)))))) : Option ((Int32 × Int32 × Mem) ⊕ (Int32 × Mem)))) (r3, (0 : Int32), M4)).bind (un2 fun (v21 : Int32) (M22 : Mem) => if v21 = 0 then (some ((0 : Int32), M22)) else (some ((1 : Int32), M22))))))
theorem iX7_minimal_X7 : ∀ w ∈ wsX70, w ∈ wsX7_minimal := by decide +kernel
theorem kX7_minimal_31 : Cond.fieldLink RX7 31 "PartitionPlayModel" "isOut" "[Z" ∈ wsX7_minimal := by decide +kernel
theorem kX7_minimal_35 : Cond.fieldLink RX7 35 "PartitionPlayModel" "turns" "[I" ∈ wsX7_minimal := by decide +kernel
theorem kX7_minimal_117 : Cond.fieldLink RX7 117 "PartitionPlayModel" "events" "I" ∈ wsX7_minimal := by decide +kernel
abbrev rmX7_minimal : Room := { frames := 5, cells := 0, slots := 0, locals := 118 }
set_option maxRecDepth 100000 in
set_option maxHeartbeats 4000000 in
theorem c_X7_minimal (l : Launch) (D : va_G) (cI cZ : ClassId) (ad : Nat → Nat) (M : Mem) (r : Int32) (M' : Mem) (hf : fX7_minimal M = some (r, M')) : MetI l yX7_minimal wsX7_minimal rmX7_minimal D cI cZ ad [.ref (ad 56)] M r M' := by
  refine met_i (cc := cX7_minimal) (nL := 3) (ret := (some .int)) (own := RX7) (by decide) rfl rfl (Nat.le_of_ble_eq_true rfl) ?_
  intro p e s m args below meth c A G hr hlocks
  unfold fX7_minimal at hf
  show Wk p l e (headSpec wsX7_minimal rmX7_minimal).room s m args below meth c D cI cZ ad A 3 0 0 (QI below D cI cZ ad A args s r M') M 0 [(0, .ref (ad 56))] []
  refine wk_aload_n G 0 dX7_minimal_0 rfl rfl ?_
  refine wk_get (ci := 7) (v := .ref (ad 65)) G iX7_minimal_X7 56 (by decide) (ck56 cI cZ ad (M 56)) rfl 11 (Nat.le_of_ble_eq_true rfl) kX7_minimal_35 rfl dX7_minimal_1 ?_
  refine wk_iconst (v := (0 : Int32)) G dX7_minimal_4 (by decide) ?_
  obtain ⟨h1, hf⟩ := gd_of hf
  refine wk_iald G 65 (by decide) (ck65 cI cZ ad) h1 dX7_minimal_5 ?_
  refine wk_if_ne (tgt := 12) G dX7_minimal_6 (by decide) (fun c2 => ?_) (fun c2 => ?_)
  · replace hf := it_f c2 hf
    refine wk_aload_n G 0 dX7_minimal_12 rfl rfl ?_
    obtain ⟨⟨r3, M4⟩, q5, hf⟩ := bd_of hf
    replace hf := un2_of hf
    refine wk_callVi (As := []) (rest := []) (ci := 7) G 56 (by decide) (c_X7_isFailing l D cI cZ ad M r3 M4 q5) (cwV 0 G.2.2.2.2.1 gX7_minimal_X7_isFailing rfl rfl rfl (by decide +kernel) ⟨Nat.le_of_ble_eq_true rfl, Nat.le_of_ble_eq_true rfl⟩) (ck56 cI cZ ad (M 56)) rfl rfl rfl (Nat.le_of_ble_eq_true rfl) dX7_minimal_13 ⟨Nat.le_of_ble_eq_true rfl, Nat.le_of_ble_eq_true rfl⟩ ?_
    refine wk_istore_n (lv' := [(1, .int r3), (0, .ref (ad 56))]) G dX7_minimal_16 rfl (by decide) rfl ?_
    refine wk_iconst (v := (0 : Int32)) G dX7_minimal_17 (by decide) ?_
    refine wk_istore_n (lv' := [(2, .int (0 : Int32)), (1, .int r3), (0, .ref (ad 56))]) G dX7_minimal_18 rfl (by decide) rfl ?_
    refine wk_sub [2, 1, 0] rfl ?_
    obtain ⟨q24, q25, hf⟩ := bd_of hf
    have Cq24 : (up2 fun (v21 : Int32) (M22 : Mem) => Wk p l e (headSpec wsX7_minimal rmX7_minimal).room s m args below meth c D cI cZ ad A 3 0 0 (QI below D cI cZ ad A args s r M') M22 64 [(1, .int v21)] []) q24 := by
      obtain ⟨v21, M22⟩ := q24
      replace hf := un2_of hf
      show Wk p l e (headSpec wsX7_minimal rmX7_minimal).room s m args below meth c D cI cZ ad A 3 0 0 (QI below D cI cZ ad A args s r M') M22 64 [(1, .int v21)] []
      refine wk_iload_n G 0 dX7_minimal_64 rfl rfl ?_
      refine wk_if_eq (tgt := 72) G dX7_minimal_65 (by decide) (fun c23 => ?_) (fun c23 => ?_)
      · replace hf := it_t c23 hf
        refine wk_iconst (v := (0 : Int32)) G dX7_minimal_72 (by decide) ?_
        exact wk_ri G hr hlocks dX7_minimal_73 (Option.some.inj hf)
      · replace hf := it_f c23 hf
        refine wk_iconst (v := (1 : Int32)) G dX7_minimal_68 (by decide) ?_
        refine wk_goto (tgt := 73) G dX7_minimal_69 (by decide) ?_
        exact wk_ri G hr hlocks dX7_minimal_73 (Option.some.inj hf)
    have Lq24 : (up3 fun (v6 : Int32) (v7 : Int32) (M8 : Mem) => Wk p l e (headSpec wsX7_minimal rmX7_minimal).room s m args below meth c D cI cZ ad A 3 0 0 (QI below D cI cZ ad A args s r M') M8 19 [(0, .ref (ad 56)), (1, .int v6), (2, .int v7)] []) (r3, (0 : Int32), M4) := by
      refine loop_P (C := (up2 fun (v21 : Int32) (M22 : Mem) => Wk p l e (headSpec wsX7_minimal rmX7_minimal).room s m args below meth c D cI cZ ad A 3 0 0 (QI below D cI cZ ad A args s r M') M22 64 [(1, .int v21)] [])) ?_ fu (r3, (0 : Int32), M4) q24 q25 Cq24
      clear hf Cq24 q25
      rintro ⟨v6, v7, M8⟩ o hf hI hE
      replace hf := un3_of hf
      show Wk p l e (headSpec wsX7_minimal rmX7_minimal).room s m args below meth c D cI cZ ad A 3 0 0 (QI below D cI cZ ad A args s r M') M8 19 [(0, .ref (ad 56)), (1, .int v6), (2, .int v7)] []
      refine wk_iload_n G 2 dX7_minimal_19 rfl rfl ?_
      refine wk_aload_n G 0 dX7_minimal_20 rfl rfl ?_
      refine wk_get (ci := 7) (v := .int (M8 56 4)) G iX7_minimal_X7 56 (by decide) (ck56 cI cZ ad (M8 56)) rfl 4 (Nat.le_of_ble_eq_true rfl) kX7_minimal_117 rfl dX7_minimal_21 ?_
      refine wk_icmp_ge (tgt := 64) G dX7_minimal_24 (by decide) (fun c9 => ?_) (fun c9 => ?_)
      · replace hf := it_t c9 hf
        refine wk_sub [1] rfl ?_
        exact hE _ (Option.some.inj hf).symm
      · replace hf := it_f c9 hf
        refine wk_iload_n G 1 dX7_minimal_27 rfl rfl ?_
        refine wk_if_eq (tgt := 64) G dX7_minimal_28 (by decide) (fun c10 => ?_) (fun c10 => ?_)
        · replace hf := it_t c10 hf
          refine wk_sub [1] rfl ?_
          exact hE _ (Option.some.inj hf).symm
        · replace hf := it_f c10 hf
          refine wk_aload_n G 0 dX7_minimal_31 rfl rfl ?_
          refine wk_get (ci := 7) (v := .ref (ad 64)) G iX7_minimal_X7 56 (by decide) (ck56 cI cZ ad (M8 56)) rfl 9 (Nat.le_of_ble_eq_true rfl) kX7_minimal_31 rfl dX7_minimal_32 ?_
          refine wk_iload_n G 2 dX7_minimal_35 rfl rfl ?_
          refine wk_iconst (v := (1 : Int32)) G dX7_minimal_36 (by decide) ?_
          obtain ⟨h11, hf⟩ := gd_of hf
          obtain ⟨M12, eM12, hf⟩ := nm_ex hf
          refine wk_zast G 64 (by decide) (ck64 cI cZ ad) h11 dX7_minimal_37 eM12 ?_
          refine wk_aload_n G 0 dX7_minimal_38 rfl rfl ?_
          obtain ⟨⟨r13, M14⟩, q15, hf⟩ := bd_of hf
          replace hf := un2_of hf
          refine wk_callVi (As := []) (rest := []) (ci := 7) G 56 (by decide) (c_X7_isFailing l D cI cZ ad M12 r13 M14 q15) (cwV 0 G.2.2.2.2.1 gX7_minimal_X7_isFailing rfl rfl rfl (by decide +kernel) ⟨Nat.le_of_ble_eq_true rfl, Nat.le_of_ble_eq_true rfl⟩) (ck56 cI cZ ad (M12 56)) rfl rfl rfl (Nat.le_of_ble_eq_true rfl) dX7_minimal_39 ⟨Nat.le_of_ble_eq_true rfl, Nat.le_of_ble_eq_true rfl⟩ ?_
          obtain ⟨j50, ej50, hf⟩ := nm_ex hf
          have J50 : ∀ (v16 : Int32), j50 v16 = some o → Wk p l e (headSpec wsX7_minimal rmX7_minimal).room s m args below meth c D cI cZ ad A 3 0 0 (QI below D cI cZ ad A args s r M') M14 50 [(0, .ref (ad 56)), (2, .int v7)] [.int v16] := by
            intro v16 hf
            replace hf := jn1 ej50 hf
            refine wk_istore_n (lv' := [(1, .int v16), (0, .ref (ad 56)), (2, .int v7)]) G dX7_minimal_50 rfl (by decide) rfl ?_
            refine wk_aload_n G 1 dX7_minimal_51 rfl rfl ?_
            refine wk_get (ci := 7) (v := .ref (ad 64)) G iX7_minimal_X7 56 (by decide) (ck56 cI cZ ad (M14 56)) rfl 9 (Nat.le_of_ble_eq_true rfl) kX7_minimal_31 rfl dX7_minimal_52 ?_
            refine wk_iload_n G 2 dX7_minimal_55 rfl rfl ?_
            refine wk_iconst (v := (0 : Int32)) G dX7_minimal_56 (by decide) ?_
            obtain ⟨h17, hf⟩ := gd_of hf
            obtain ⟨M18, eM18, hf⟩ := nm_ex hf
            refine wk_zast G 64 (by decide) (ck64 cI cZ ad) h17 dX7_minimal_57 eM18 ?_
            obtain ⟨v19, ev19, hf⟩ := nm_ex hf
            refine wk_iinc (v := v19) (lv' := [(2, .int v19), (1, .int v16), (0, .ref (ad 56))]) G 2 dX7_minimal_58 rfl (by rw [ev19]; rfl) (by decide) rfl ?_
            refine wk_goto (tgt := 19) G dX7_minimal_61 (by decide) ?_
            refine wk_sub [2, 1, 0] rfl ?_
            exact hI _ (Option.some.inj hf).symm
          refine wk_if_ne (tgt := 49) G dX7_minimal_42 (by decide) (fun c20 => ?_) (fun c20 => ?_)
          · replace hf := it_f c20 hf
            refine wk_iconst (v := (0 : Int32)) G dX7_minimal_49 (by decide) ?_
            refine wk_sub [0, 2] rfl ?_
            exact J50 (0 : Int32) hf
          · replace hf := it_t c20 hf
            refine wk_iconst (v := (1 : Int32)) G dX7_minimal_45 (by decide) ?_
            refine wk_goto (tgt := 50) G dX7_minimal_46 (by decide) ?_
            refine wk_sub [0, 2] rfl ?_
            exact J50 (1 : Int32) hf
    exact Lq24
  · replace hf := it_t c2 hf
    refine wk_bipush (v := (-4 : Int32)) G dX7_minimal_9 (by decide) ?_
    exact wk_ri G hr hlocks dX7_minimal_11 (Option.some.inj hf)
def fX7_sets (x1 : Int32) (M : Mem) : Option (Int32 × Mem) := (fX7_in x1 (0 : Int32) (5 : Int32)).bind (fun (r1 : Int32) => if r1 = 0 then (some ((-3 : Int32), M)) else (gd (0 : Int32) 2 (if (M 65 (Int32.toNatClampNeg (0 : Int32))) = 0 then (some ((-4 : Int32), M)) else ((loop fu (un3 fun (v6 : Int32) (v7 : Int32) (M8 : Mem) => (if ((1 : Int32) <<< (x1 &&& 31)) ≤ v7 then (some (.inr (v6, M8))) else (nm (st M8 56 10 v7) fun (M10 : Mem) => (fX7_isFailing M10).bind (un2 fun (r11 : Int32) (M12 : Mem) => nm (fun (v14 : Int32) => nm ((v6 + v14)) fun (v15 : Int32) => nm (v7 + (1 : Int32)) fun (v16 : Int32) => some (.inl (v15, v16, M12))) fun j53 => if r11 = 0 then (j53 (0 : Int32)) else (j53 (1 : Int32)))) : Option ((Int32 × Int32 × Mem) ⊕ (Int32 × Mem)))) ((0 : Int32), (0 : Int32), M)).bind (un2 fun (v18 : Int32) (M19 : Mem) => nm (st M19 56 10 (0 : Int32)) fun (M20 : Mem) => some (v18, M20))))))
theorem iX7_sets_X7 : ∀ w ∈ wsX70, w ∈ wsX7_sets := by decide +kernel
theorem kX7_sets_35 : Cond.fieldLink RX7 35 "PartitionPlayModel" "turns" "[I" ∈ wsX7_sets := by decide +kernel
theorem kX7_sets_135 : Cond.fieldLink RX7 135 "PartitionPlayModel" "lostToo" "I" ∈ wsX7_sets := by decide +kernel
abbrev rmX7_sets : Room := { frames := 5, cells := 0, slots := 0, locals := 118 }
set_option maxRecDepth 100000 in
set_option maxHeartbeats 4000000 in
theorem c_X7_sets (l : Launch) (D : va_G) (cI cZ : ClassId) (ad : Nat → Nat) (x1 : Int32) (M : Mem) (r : Int32) (M' : Mem) (hf : fX7_sets x1 M = some (r, M')) : MetI l yX7_sets wsX7_sets rmX7_sets D cI cZ ad [.ref (ad 56), .int x1] M r M' := by
  refine met_i (cc := cX7_sets) (nL := 4) (ret := (some .int)) (own := RX7) (by decide) rfl rfl (Nat.le_of_ble_eq_true rfl) ?_
  intro p e s m args below meth c A G hr hlocks
  unfold fX7_sets at hf
  show Wk p l e (headSpec wsX7_sets rmX7_sets).room s m args below meth c D cI cZ ad A 4 0 0 (QI below D cI cZ ad A args s r M') M 0 [(0, .ref (ad 56)), (1, .int x1)] []
  refine wk_iload_n G 1 dX7_sets_0 rfl rfl ?_
  refine wk_iconst (v := (0 : Int32)) G dX7_sets_1 (by decide) ?_
  refine wk_iconst (v := (5 : Int32)) G dX7_sets_2 (by decide) ?_
  obtain ⟨r1, q2, hf⟩ := bd_of hf
  refine wk_callSi (As := [.int x1, .int (0 : Int32), .int (5 : Int32)]) (rest := []) G (c_X7_in l D cI cZ ad x1 (0 : Int32) (5 : Int32) M r1 q2) (va_cwS 3 G.2.2.2.2.1 gX7_sets_X7_in rfl rfl rfl (by decide +kernel) ⟨Nat.le_of_ble_eq_true rfl, Nat.le_of_ble_eq_true rfl⟩) rfl rfl (Nat.le_of_ble_eq_true rfl) dX7_sets_3 ⟨Nat.le_of_ble_eq_true rfl, Nat.le_of_ble_eq_true rfl⟩ ?_
  refine wk_if_ne (tgt := 12) G dX7_sets_6 (by decide) (fun c3 => ?_) (fun c3 => ?_)
  · replace hf := it_f c3 hf
    refine wk_aload_n G 0 dX7_sets_12 rfl rfl ?_
    refine wk_get (ci := 7) (v := .ref (ad 65)) G iX7_sets_X7 56 (by decide) (ck56 cI cZ ad (M 56)) rfl 11 (Nat.le_of_ble_eq_true rfl) kX7_sets_35 rfl dX7_sets_13 ?_
    refine wk_iconst (v := (0 : Int32)) G dX7_sets_16 (by decide) ?_
    obtain ⟨h4, hf⟩ := gd_of hf
    refine wk_iald G 65 (by decide) (ck65 cI cZ ad) h4 dX7_sets_17 ?_
    refine wk_if_ne (tgt := 24) G dX7_sets_18 (by decide) (fun c5 => ?_) (fun c5 => ?_)
    · replace hf := it_f c5 hf
      refine wk_iconst (v := (0 : Int32)) G dX7_sets_24 (by decide) ?_
      refine wk_istore_n (lv' := [(2, .int (0 : Int32)), (0, .ref (ad 56)), (1, .int x1)]) G dX7_sets_25 rfl (by decide) rfl ?_
      refine wk_iconst (v := (0 : Int32)) G dX7_sets_26 (by decide) ?_
      refine wk_istore_n (lv' := [(3, .int (0 : Int32)), (2, .int (0 : Int32)), (0, .ref (ad 56)), (1, .int x1)]) G dX7_sets_27 rfl (by decide) rfl ?_
      refine wk_sub [2, 3, 1, 0] rfl ?_
      obtain ⟨q21, q22, hf⟩ := bd_of hf
      have Cq21 : (up2 fun (v18 : Int32) (M19 : Mem) => Wk p l e (headSpec wsX7_sets rmX7_sets).room s m args below meth c D cI cZ ad A 4 0 0 (QI below D cI cZ ad A args s r M') M19 61 [(0, .ref (ad 56)), (2, .int v18)] []) q21 := by
        obtain ⟨v18, M19⟩ := q21
        replace hf := un2_of hf
        show Wk p l e (headSpec wsX7_sets rmX7_sets).room s m args below meth c D cI cZ ad A 4 0 0 (QI below D cI cZ ad A args s r M') M19 61 [(0, .ref (ad 56)), (2, .int v18)] []
        refine wk_aload_n G 0 dX7_sets_61 rfl rfl ?_
        refine wk_iconst (v := (0 : Int32)) G dX7_sets_62 (by decide) ?_
        obtain ⟨M20, eM20, hf⟩ := nm_ex hf
        refine wk_put (ci := 7) G iX7_sets_X7 tyX7 tyX7_ok nmX7 56 (by decide) (ck56 cI cZ ad (M19 56)) rfl 10 (Nat.le_of_ble_eq_true rfl) kX7_sets_135 rfl (by decide +kernel) (Nat.le_of_ble_eq_true rfl) (cp56_10 cI cZ ad (M19 56) (0 : Int32)) dX7_sets_63 eM20 ?_
        refine wk_iload_n G 1 dX7_sets_66 rfl rfl ?_
        exact wk_ri G hr hlocks dX7_sets_67 (Option.some.inj hf)
      have Lq21 : (up3 fun (v6 : Int32) (v7 : Int32) (M8 : Mem) => Wk p l e (headSpec wsX7_sets rmX7_sets).room s m args below meth c D cI cZ ad A 4 0 0 (QI below D cI cZ ad A args s r M') M8 28 [(0, .ref (ad 56)), (1, .int x1), (2, .int v6), (3, .int v7)] []) ((0 : Int32), (0 : Int32), M) := by
        refine loop_P (C := (up2 fun (v18 : Int32) (M19 : Mem) => Wk p l e (headSpec wsX7_sets rmX7_sets).room s m args below meth c D cI cZ ad A 4 0 0 (QI below D cI cZ ad A args s r M') M19 61 [(0, .ref (ad 56)), (2, .int v18)] [])) ?_ fu ((0 : Int32), (0 : Int32), M) q21 q22 Cq21
        clear hf Cq21 q22
        rintro ⟨v6, v7, M8⟩ o hf hI hE
        replace hf := un3_of hf
        show Wk p l e (headSpec wsX7_sets rmX7_sets).room s m args below meth c D cI cZ ad A 4 0 0 (QI below D cI cZ ad A args s r M') M8 28 [(0, .ref (ad 56)), (1, .int x1), (2, .int v6), (3, .int v7)] []
        refine wk_iload_n G 3 dX7_sets_28 rfl rfl ?_
        refine wk_iconst (v := (1 : Int32)) G dX7_sets_29 (by decide) ?_
        refine wk_iload_n G 1 dX7_sets_30 rfl rfl ?_
        refine wk_ishl G dX7_sets_31 ?_
        refine wk_icmp_ge (tgt := 61) G dX7_sets_32 (by decide) (fun c9 => ?_) (fun c9 => ?_)
        · replace hf := it_t c9 hf
          refine wk_sub [0, 2] rfl ?_
          exact hE _ (Option.some.inj hf).symm
        · replace hf := it_f c9 hf
          refine wk_aload_n G 0 dX7_sets_35 rfl rfl ?_
          refine wk_iload_n G 3 dX7_sets_36 rfl rfl ?_
          obtain ⟨M10, eM10, hf⟩ := nm_ex hf
          refine wk_put (ci := 7) G iX7_sets_X7 tyX7 tyX7_ok nmX7 56 (by decide) (ck56 cI cZ ad (M8 56)) rfl 10 (Nat.le_of_ble_eq_true rfl) kX7_sets_135 rfl (by decide +kernel) (Nat.le_of_ble_eq_true rfl) (cp56_10 cI cZ ad (M8 56) v7) dX7_sets_37 eM10 ?_
          refine wk_iload_n G 2 dX7_sets_40 rfl rfl ?_
          refine wk_aload_n G 0 dX7_sets_41 rfl rfl ?_
          obtain ⟨⟨r11, M12⟩, q13, hf⟩ := bd_of hf
          replace hf := un2_of hf
          refine wk_callVi (As := []) (rest := [.int v6]) (ci := 7) G 56 (by decide) (c_X7_isFailing l D cI cZ ad M10 r11 M12 q13) (cwV 0 G.2.2.2.2.1 gX7_sets_X7_isFailing rfl rfl rfl (by decide +kernel) ⟨Nat.le_of_ble_eq_true rfl, Nat.le_of_ble_eq_true rfl⟩) (ck56 cI cZ ad (M10 56)) rfl rfl rfl (Nat.le_of_ble_eq_true rfl) dX7_sets_42 ⟨Nat.le_of_ble_eq_true rfl, Nat.le_of_ble_eq_true rfl⟩ ?_
          obtain ⟨j53, ej53, hf⟩ := nm_ex hf
          have J53 : ∀ (v14 : Int32), j53 v14 = some o → Wk p l e (headSpec wsX7_sets rmX7_sets).room s m args below meth c D cI cZ ad A 4 0 0 (QI below D cI cZ ad A args s r M') M12 53 [(0, .ref (ad 56)), (1, .int x1), (3, .int v7)] [.int v14, .int v6] := by
            intro v14 hf
            replace hf := jn1 ej53 hf
            refine wk_iadd G dX7_sets_53 ?_
            obtain ⟨v15, ev15, hf⟩ := nm_ex hf
            refine wk_nme ev15 ?_
            refine wk_istore_n (lv' := [(2, .int v15), (0, .ref (ad 56)), (1, .int x1), (3, .int v7)]) G dX7_sets_54 rfl (by decide) rfl ?_
            obtain ⟨v16, ev16, hf⟩ := nm_ex hf
            refine wk_iinc (v := v16) (lv' := [(3, .int v16), (2, .int v15), (0, .ref (ad 56)), (1, .int x1)]) G 3 dX7_sets_55 rfl (by rw [ev16]; rfl) (by decide) rfl ?_
            refine wk_goto (tgt := 28) G dX7_sets_58 (by decide) ?_
            refine wk_sub [2, 3, 1, 0] rfl ?_
            exact hI _ (Option.some.inj hf).symm
          refine wk_if_eq (tgt := 52) G dX7_sets_45 (by decide) (fun c17 => ?_) (fun c17 => ?_)
          · replace hf := it_t c17 hf
            refine wk_iconst (v := (0 : Int32)) G dX7_sets_52 (by decide) ?_
            refine wk_sub [0, 1, 3] rfl ?_
            exact J53 (0 : Int32) hf
          · replace hf := it_f c17 hf
            refine wk_iconst (v := (1 : Int32)) G dX7_sets_48 (by decide) ?_
            refine wk_goto (tgt := 53) G dX7_sets_49 (by decide) ?_
            refine wk_sub [0, 1, 3] rfl ?_
            exact J53 (1 : Int32) hf
      exact Lq21
    · replace hf := it_t c5 hf
      refine wk_bipush (v := (-4 : Int32)) G dX7_sets_21 (by decide) ?_
      exact wk_ri G hr hlocks dX7_sets_23 (Option.some.inj hf)
  · replace hf := it_t c3 hf
    refine wk_bipush (v := (-3 : Int32)) G dX7_sets_9 (by decide) ?_
    exact wk_ri G hr hlocks dX7_sets_11 (Option.some.inj hf)
def fX7_count (x1 : Int32) (M : Mem) : Option Int32 := if x1 = 0 then (some (M 56 0)) else (if x1 = (1 : Int32) then (some (M 56 4)) else (if x1 = (2 : Int32) then (gd (0 : Int32) 2 (some (M 65 (Int32.toNatClampNeg (0 : Int32))))) else (if x1 = (3 : Int32) then (gd (0 : Int32) 2 (some (M 66 (Int32.toNatClampNeg (0 : Int32))))) else (if x1 = (4 : Int32) then (gd (0 : Int32) 2 (some (M 67 (Int32.toNatClampNeg (0 : Int32))))) else (if x1 = (5 : Int32) then (gd (0 : Int32) 2 (some (M 68 (Int32.toNatClampNeg (0 : Int32))))) else (if x1 = (6 : Int32) then (gd (0 : Int32) 2 (some (M 69 (Int32.toNatClampNeg (0 : Int32))))) else (some (-2 : Int32))))))))
theorem iX7_count_X7 : ∀ w ∈ wsX70, w ∈ wsX7_count := by decide +kernel
theorem kX7_count_35 : Cond.fieldLink RX7 35 "PartitionPlayModel" "turns" "[I" ∈ wsX7_count := by decide +kernel
theorem kX7_count_38 : Cond.fieldLink RX7 38 "PartitionPlayModel" "letters" "[I" ∈ wsX7_count := by decide +kernel
theorem kX7_count_41 : Cond.fieldLink RX7 41 "PartitionPlayModel" "lost" "[I" ∈ wsX7_count := by decide +kernel
theorem kX7_count_44 : Cond.fieldLink RX7 44 "PartitionPlayModel" "taken" "[I" ∈ wsX7_count := by decide +kernel
theorem kX7_count_47 : Cond.fieldLink RX7 47 "PartitionPlayModel" "gone" "[I" ∈ wsX7_count := by decide +kernel
theorem kX7_count_101 : Cond.fieldLink RX7 101 "PartitionPlayModel" "n" "I" ∈ wsX7_count := by decide +kernel
theorem kX7_count_117 : Cond.fieldLink RX7 117 "PartitionPlayModel" "events" "I" ∈ wsX7_count := by decide +kernel
abbrev rmX7_count : Room := { frames := 0, cells := 0, slots := 0, locals := 0 }
set_option maxRecDepth 100000 in
set_option maxHeartbeats 4000000 in
theorem c_X7_count (l : Launch) (D : va_G) (cI cZ : ClassId) (ad : Nat → Nat) (x1 : Int32) (M : Mem) (r : Int32) (hf : fX7_count x1 M = some r) : MetI l yX7_count wsX7_count rmX7_count D cI cZ ad [.ref (ad 56), .int x1] M r M := by
  refine met_i (cc := cX7_count) (nL := 2) (ret := (some .int)) (own := RX7) (by decide) rfl rfl (Nat.le_of_ble_eq_true rfl) ?_
  intro p e s m args below meth c A G hr hlocks
  unfold fX7_count at hf
  show Wk p l e (headSpec wsX7_count rmX7_count).room s m args below meth c D cI cZ ad A 2 0 0 (QI below D cI cZ ad A args s r M) M 0 [(0, .ref (ad 56)), (1, .int x1)] []
  refine wk_iload_n G 1 dX7_count_0 rfl rfl ?_
  refine wk_if_ne (tgt := 11) G dX7_count_1 (by decide) (fun c1 => ?_) (fun c1 => ?_)
  · replace hf := it_f c1 hf
    refine wk_iload_n G 1 dX7_count_11 rfl rfl ?_
    refine wk_iconst (v := (1 : Int32)) G dX7_count_12 (by decide) ?_
    refine wk_icmp_ne (tgt := 23) G dX7_count_13 (by decide) (fun c2 => ?_) (fun c2 => ?_)
    · replace hf := it_f c2 hf
      refine wk_iload_n G 1 dX7_count_23 rfl rfl ?_
      refine wk_iconst (v := (2 : Int32)) G dX7_count_24 (by decide) ?_
      refine wk_icmp_ne (tgt := 37) G dX7_count_25 (by decide) (fun c3 => ?_) (fun c3 => ?_)
      · replace hf := it_f c3 hf
        refine wk_iload_n G 1 dX7_count_37 rfl rfl ?_
        refine wk_iconst (v := (3 : Int32)) G dX7_count_38 (by decide) ?_
        refine wk_icmp_ne (tgt := 51) G dX7_count_39 (by decide) (fun c4 => ?_) (fun c4 => ?_)
        · replace hf := it_f c4 hf
          refine wk_iload_n G 1 dX7_count_51 rfl rfl ?_
          refine wk_iconst (v := (4 : Int32)) G dX7_count_52 (by decide) ?_
          refine wk_icmp_ne (tgt := 65) G dX7_count_53 (by decide) (fun c5 => ?_) (fun c5 => ?_)
          · replace hf := it_f c5 hf
            refine wk_iload_n G 1 dX7_count_65 rfl rfl ?_
            refine wk_iconst (v := (5 : Int32)) G dX7_count_66 (by decide) ?_
            refine wk_icmp_ne (tgt := 79) G dX7_count_67 (by decide) (fun c6 => ?_) (fun c6 => ?_)
            · replace hf := it_f c6 hf
              refine wk_iload_n G 1 dX7_count_79 rfl rfl ?_
              refine wk_bipush (v := (6 : Int32)) G dX7_count_80 (by decide) ?_
              refine wk_icmp_ne (tgt := 94) G dX7_count_82 (by decide) (fun c7 => ?_) (fun c7 => ?_)
              · replace hf := it_f c7 hf
                refine wk_bipush (v := (-2 : Int32)) G dX7_count_94 (by decide) ?_
                exact wk_ri G hr hlocks dX7_count_96 (congrArg (fun z => (z, M)) (Option.some.inj hf))
              · replace hf := it_t c7 hf
                refine wk_aload_n G 0 dX7_count_85 rfl rfl ?_
                refine wk_get (ci := 7) (v := .ref (ad 69)) G iX7_count_X7 56 (by decide) (ck56 cI cZ ad (M 56)) rfl 15 (Nat.le_of_ble_eq_true rfl) kX7_count_47 rfl dX7_count_86 ?_
                refine wk_iconst (v := (0 : Int32)) G dX7_count_89 (by decide) ?_
                obtain ⟨h8, hf⟩ := gd_of hf
                refine wk_iald G 69 (by decide) (ck69 cI cZ ad) h8 dX7_count_90 ?_
                refine wk_goto (tgt := 96) G dX7_count_91 (by decide) ?_
                exact wk_ri G hr hlocks dX7_count_96 (congrArg (fun z => (z, M)) (Option.some.inj hf))
            · replace hf := it_t c6 hf
              refine wk_aload_n G 0 dX7_count_70 rfl rfl ?_
              refine wk_get (ci := 7) (v := .ref (ad 68)) G iX7_count_X7 56 (by decide) (ck56 cI cZ ad (M 56)) rfl 14 (Nat.le_of_ble_eq_true rfl) kX7_count_44 rfl dX7_count_71 ?_
              refine wk_iconst (v := (0 : Int32)) G dX7_count_74 (by decide) ?_
              obtain ⟨h9, hf⟩ := gd_of hf
              refine wk_iald G 68 (by decide) (ck68 cI cZ ad) h9 dX7_count_75 ?_
              refine wk_goto (tgt := 96) G dX7_count_76 (by decide) ?_
              exact wk_ri G hr hlocks dX7_count_96 (congrArg (fun z => (z, M)) (Option.some.inj hf))
          · replace hf := it_t c5 hf
            refine wk_aload_n G 0 dX7_count_56 rfl rfl ?_
            refine wk_get (ci := 7) (v := .ref (ad 67)) G iX7_count_X7 56 (by decide) (ck56 cI cZ ad (M 56)) rfl 13 (Nat.le_of_ble_eq_true rfl) kX7_count_41 rfl dX7_count_57 ?_
            refine wk_iconst (v := (0 : Int32)) G dX7_count_60 (by decide) ?_
            obtain ⟨h10, hf⟩ := gd_of hf
            refine wk_iald G 67 (by decide) (ck67 cI cZ ad) h10 dX7_count_61 ?_
            refine wk_goto (tgt := 96) G dX7_count_62 (by decide) ?_
            exact wk_ri G hr hlocks dX7_count_96 (congrArg (fun z => (z, M)) (Option.some.inj hf))
        · replace hf := it_t c4 hf
          refine wk_aload_n G 0 dX7_count_42 rfl rfl ?_
          refine wk_get (ci := 7) (v := .ref (ad 66)) G iX7_count_X7 56 (by decide) (ck56 cI cZ ad (M 56)) rfl 12 (Nat.le_of_ble_eq_true rfl) kX7_count_38 rfl dX7_count_43 ?_
          refine wk_iconst (v := (0 : Int32)) G dX7_count_46 (by decide) ?_
          obtain ⟨h11, hf⟩ := gd_of hf
          refine wk_iald G 66 (by decide) (ck66 cI cZ ad) h11 dX7_count_47 ?_
          refine wk_goto (tgt := 96) G dX7_count_48 (by decide) ?_
          exact wk_ri G hr hlocks dX7_count_96 (congrArg (fun z => (z, M)) (Option.some.inj hf))
      · replace hf := it_t c3 hf
        refine wk_aload_n G 0 dX7_count_28 rfl rfl ?_
        refine wk_get (ci := 7) (v := .ref (ad 65)) G iX7_count_X7 56 (by decide) (ck56 cI cZ ad (M 56)) rfl 11 (Nat.le_of_ble_eq_true rfl) kX7_count_35 rfl dX7_count_29 ?_
        refine wk_iconst (v := (0 : Int32)) G dX7_count_32 (by decide) ?_
        obtain ⟨h12, hf⟩ := gd_of hf
        refine wk_iald G 65 (by decide) (ck65 cI cZ ad) h12 dX7_count_33 ?_
        refine wk_goto (tgt := 96) G dX7_count_34 (by decide) ?_
        exact wk_ri G hr hlocks dX7_count_96 (congrArg (fun z => (z, M)) (Option.some.inj hf))
    · replace hf := it_t c2 hf
      refine wk_aload_n G 0 dX7_count_16 rfl rfl ?_
      refine wk_get (ci := 7) (v := .int (M 56 4)) G iX7_count_X7 56 (by decide) (ck56 cI cZ ad (M 56)) rfl 4 (Nat.le_of_ble_eq_true rfl) kX7_count_117 rfl dX7_count_17 ?_
      refine wk_goto (tgt := 96) G dX7_count_20 (by decide) ?_
      exact wk_ri G hr hlocks dX7_count_96 (congrArg (fun z => (z, M)) (Option.some.inj hf))
  · replace hf := it_t c1 hf
    refine wk_aload_n G 0 dX7_count_4 rfl rfl ?_
    refine wk_get (ci := 7) (v := .int (M 56 0)) G iX7_count_X7 56 (by decide) (ck56 cI cZ ad (M 56)) rfl 0 (Nat.le_of_ble_eq_true rfl) kX7_count_101 rfl dX7_count_5 ?_
    refine wk_goto (tgt := 96) G dX7_count_8 (by decide) ?_
    exact wk_ri G hr hlocks dX7_count_96 (congrArg (fun z => (z, M)) (Option.some.inj hf))
