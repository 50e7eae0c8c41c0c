def fJ7_fill_53178 (q n : Nat) (x1 : Int32) (M : Mem) : Option Mem := nm ((Int32.ofNat n)) fun (v1 : Int32) => (loop fu (un2 fun (v2 : Int32) (M3 : Mem) => (if v1 ≤ v2 then (some (.inr M3)) else (gd v2 n (nm (st M3 q (Int32.toNatClampNeg v2) x1) fun (M6 : Mem) => nm (v2 + (1 : Int32)) fun (v7 : Int32) => some (.inl (v7, M6)))) : Option ((Int32 × Mem) ⊕ (Mem)))) ((0 : Int32), M)).bind (un1 fun (M8 : Mem) => some M8)
abbrev rmJ7_fill_53178 : Room := { frames := 0, cells := 0, slots := 0, locals := 0 }
set_option maxRecDepth 100000 in
set_option maxHeartbeats 4000000 in
theorem c_J7_fill_53178 (l : Launch) (D : va_G) (cI cZ : ClassId) (ad : Nat → Nat) (q n : Nat) (hq : q < 87) (he : ∀ r, celk cI cZ ad q r = .inl (cI, n, .inl r)) (x1 : Int32) (M : Mem) (M' : Mem) (hf : fJ7_fill_53178 q n x1 M = some M') : MetV l yJ7_fill_53178 wsJ7_fill_53178 rmJ7_fill_53178 D cI cZ ad [.ref (ad q), .int x1] M M' := by
  refine met_v (cc := cJ7_fill_53178) (nL := 4) (ret := none) (own := RJ7) (by decide) rfl rfl (Nat.le_of_ble_eq_true rfl) ?_
  intro p e s m args below meth c A G hr hlocks
  unfold fJ7_fill_53178 at hf
  show Wk p l e (headSpec wsJ7_fill_53178 rmJ7_fill_53178).room s m args below meth c D cI cZ ad A 4 0 0 (QV below D cI cZ ad A args s M') M 0 [(0, .ref (ad q)), (1, .int x1)] []
  refine wk_iconst (v := (0 : Int32)) G dJ7_fill_53178_0 (by decide) ?_
  refine wk_istore_n (lv' := [(2, .int (0 : Int32)), (0, .ref (ad q)), (1, .int x1)]) G dJ7_fill_53178_1 rfl (by decide) rfl ?_
  refine wk_aload_n G 1 dJ7_fill_53178_2 rfl rfl ?_
  refine wk_alen G q hq he rfl dJ7_fill_53178_3 ?_
  obtain ⟨v1, ev1, hf⟩ := nm_ex hf
  refine wk_nme ev1 ?_
  refine wk_istore_n (lv' := [(3, .int v1), (2, .int (0 : Int32)), (0, .ref (ad q)), (1, .int x1)]) G dJ7_fill_53178_4 rfl (by decide) rfl ?_
  refine wk_sub [2, 3, 1, 0] rfl ?_
  obtain ⟨q9, q10, hf⟩ := bd_of hf
  have Cq9 : (up1 fun (M8 : Mem) => Wk p l e (headSpec wsJ7_fill_53178 rmJ7_fill_53178).room s m args below meth c D cI cZ ad A 4 0 0 (QV below D cI cZ ad A args s M') M8 20 [] []) q9 := by
    obtain ⟨M8, rfl⟩ : ∃ z, z = q9 := ⟨_, rfl⟩
    replace hf := un1_of hf
    show Wk p l e (headSpec wsJ7_fill_53178 rmJ7_fill_53178).room s m args below meth c D cI cZ ad A 4 0 0 (QV below D cI cZ ad A args s M') M8 20 [] []
    exact wk_rv G hr hlocks dJ7_fill_53178_20 (Option.some.inj hf)
  have Lq9 : (up2 fun (v2 : Int32) (M3 : Mem) => Wk p l e (headSpec wsJ7_fill_53178 rmJ7_fill_53178).room s m args below meth c D cI cZ ad A 4 0 0 (QV below D cI cZ ad A args s M') M3 5 [(0, .ref (ad q)), (1, .int x1), (2, .int v2), (3, .int v1)] []) ((0 : Int32), M) := by
    refine loop_P (C := (up1 fun (M8 : Mem) => Wk p l e (headSpec wsJ7_fill_53178 rmJ7_fill_53178).room s m args below meth c D cI cZ ad A 4 0 0 (QV below D cI cZ ad A args s M') M8 20 [] [])) ?_ fu ((0 : Int32), M) q9 q10 Cq9
    clear hf Cq9 q10
    rintro ⟨v2, M3⟩ o hf hI hE
    replace hf := un2_of hf
    show Wk p l e (headSpec wsJ7_fill_53178 rmJ7_fill_53178).room s m args below meth c D cI cZ ad A 4 0 0 (QV below D cI cZ ad A args s M') M3 5 [(0, .ref (ad q)), (1, .int x1), (2, .int v2), (3, .int v1)] []
    refine wk_iload_n G 2 dJ7_fill_53178_5 rfl rfl ?_
    refine wk_iload_n G 3 dJ7_fill_53178_6 rfl rfl ?_
    refine wk_icmp_ge (tgt := 20) G dJ7_fill_53178_7 (by decide) (fun c4 => ?_) (fun c4 => ?_)
    · replace hf := it_t c4 hf
      refine wk_sub [] rfl ?_
      exact hE _ (Option.some.inj hf).symm
    · replace hf := it_f c4 hf
      refine wk_aload_n G 0 dJ7_fill_53178_10 rfl rfl ?_
      refine wk_iload_n G 2 dJ7_fill_53178_11 rfl rfl ?_
      refine wk_iload_n G 1 dJ7_fill_53178_12 rfl rfl ?_
      obtain ⟨h5, hf⟩ := gd_of hf
      obtain ⟨M6, eM6, hf⟩ := nm_ex hf
      refine wk_iast G q hq he h5 dJ7_fill_53178_13 eM6 ?_
      obtain ⟨v7, ev7, hf⟩ := nm_ex hf
      refine wk_iinc (v := v7) (lv' := [(2, .int v7), (0, .ref (ad q)), (1, .int x1), (3, .int v1)]) G 2 dJ7_fill_53178_14 rfl (by rw [ev7]; rfl) (by decide) rfl ?_
      refine wk_goto (tgt := 5) G dJ7_fill_53178_17 (by decide) ?_
      refine wk_sub [1, 2, 0, 3] rfl ?_
      exact hI _ (Option.some.inj hf).symm
  exact Lq9
def fX0_clear (b : Nat) (M : Mem) : Option Mem := nm (st M (b + 1) 0 (0 : Int32)) fun (M1 : Mem) => (fJ7_fill_53178 (b + 4) 40 (-1 : Int32) M1).bind (fun (M2 : Mem) => (fJ7_fill_53178 (b + 5) 40 (-1 : Int32) M2).bind (fun (M4 : Mem) => some M4))
theorem iX0_clear_X0 : ∀ w ∈ wsX00, w ∈ wsX0_clear := by decide +kernel
theorem kX0_clear_18 : Cond.fieldLink RX0 18 "PartitionPlay$Comings" "firsts" "[I" ∈ wsX0_clear := by decide +kernel
theorem kX0_clear_21 : Cond.fieldLink RX0 21 "PartitionPlay$Comings" "lasts" "[I" ∈ wsX0_clear := by decide +kernel
theorem kX0_clear_24 : Cond.fieldLink RX0 24 "PartitionPlay$Comings" "size" "I" ∈ wsX0_clear := by decide +kernel
abbrev rmX0_clear : Room := { frames := 1, cells := 0, slots := 0, locals := 23 }
set_option maxRecDepth 100000 in
set_option maxHeartbeats 4000000 in
theorem c_X0_clear (l : Launch) (D : va_G) (cI cZ : ClassId) (ad : Nat → Nat) (b : Nat) (hb : b = 12 ∨ b = 34) (M : Mem) (M' : Mem) (hf : fX0_clear b M = some M') : MetV l yX0_clear wsX0_clear rmX0_clear D cI cZ ad [.ref (ad (b + 1))] M M' := by
  refine met_v (cc := cX0_clear) (nL := 1) (ret := none) (own := RX0) (by decide) rfl rfl (Nat.le_of_ble_eq_true rfl) ?_
  intro p e s m args below meth c A G hr hlocks
  unfold fX0_clear at hf
  show Wk p l e (headSpec wsX0_clear rmX0_clear).room s m args below meth c D cI cZ ad A 1 0 0 (QV below D cI cZ ad A args s M') M 0 [(0, .ref (ad (b + 1)))] []
  refine wk_aload_n G 0 dX0_clear_0 rfl rfl ?_
  refine wk_iconst (v := (0 : Int32)) G dX0_clear_1 (by decide) ?_
  obtain ⟨M1, eM1, hf⟩ := nm_ex hf
  refine wk_put (ci := 0) G iX0_clear_X0 tyX0 tyX0_ok nmX0 (b + 1) (lb hb (by decide)) (ckb1 cI cZ ad hb (M (b + 1))) rfl 0 (Nat.le_of_ble_eq_true rfl) kX0_clear_24 rfl (by decide +kernel) (Nat.le_of_ble_eq_true rfl) (cpb1_0 cI cZ ad hb (M (b + 1)) (0 : Int32)) dX0_clear_2 eM1 ?_
  refine wk_aload_n G 0 dX0_clear_5 rfl rfl ?_
  refine wk_get (ci := 0) (v := .ref (ad (b + 4))) G iX0_clear_X0 (b + 1) (lb hb (by decide)) (ckb1 cI cZ ad hb (M1 (b + 1))) rfl 3 (Nat.le_of_ble_eq_true rfl) kX0_clear_18 rfl dX0_clear_6 ?_
  refine wk_iconst (v := (-1 : Int32)) G dX0_clear_9 (by decide) ?_
  obtain ⟨M2, q3, hf⟩ := bd_of hf
  refine wk_callSv (As := [.ref (ad (b + 4)), .int (-1 : Int32)]) (rest := []) G (c_J7_fill_53178 l D cI cZ ad (b + 4) 40 (lb hb (by decide)) (ckb4 cI cZ ad hb) (-1 : Int32) M1 M2 q3) (va_cwS 2 G.2.2.2.2.1 gX0_clear_J7_fill_53178 rfl rfl rfl (by decide +kernel) ⟨Nat.le_of_ble_eq_true rfl, Nat.le_of_ble_eq_true rfl⟩) rfl rfl (Nat.le_of_ble_eq_true rfl) dX0_clear_10 ⟨Nat.le_of_ble_eq_true rfl, Nat.le_of_ble_eq_true rfl⟩ ?_
  refine wk_aload_n G 0 dX0_clear_13 rfl rfl ?_
  refine wk_get (ci := 0) (v := .ref (ad (b + 5))) G iX0_clear_X0 (b + 1) (lb hb (by decide)) (ckb1 cI cZ ad hb (M2 (b + 1))) rfl 4 (Nat.le_of_ble_eq_true rfl) kX0_clear_21 rfl dX0_clear_14 ?_
  refine wk_iconst (v := (-1 : Int32)) G dX0_clear_17 (by decide) ?_
  obtain ⟨M4, q5, hf⟩ := bd_of hf
  refine wk_callSv (As := [.ref (ad (b + 5)), .int (-1 : Int32)]) (rest := []) G (c_J7_fill_53178 l D cI cZ ad (b + 5) 40 (lb hb (by decide)) (ckb5 cI cZ ad hb) (-1 : Int32) M2 M4 q5) (va_cwS 2 G.2.2.2.2.1 gX0_clear_J7_fill_53178 rfl rfl rfl (by decide +kernel) ⟨Nat.le_of_ble_eq_true rfl, Nat.le_of_ble_eq_true rfl⟩) rfl rfl (Nat.le_of_ble_eq_true rfl) dX0_clear_18 ⟨Nat.le_of_ble_eq_true rfl, Nat.le_of_ble_eq_true rfl⟩ ?_
  exact wk_rv G hr hlocks dX0_clear_21 (Option.some.inj hf)
def fX0_add (b : Nat) (x1 : Int32) (x2 : Int32) (M : Mem) : Option Mem := if x2 < 0 then (some M) else (if (40 : Int32) ≤ x2 then (some M) else (if (M (b + 1) 0) < (1220 : Int32) then (gd (M (b + 1) 0) 1220 (nm (st M (b + 2) (Int32.toNatClampNeg (M (b + 1) 0)) x1) fun (M5 : Mem) => gd (M5 (b + 1) 0) 1220 (nm (st M5 (b + 3) (Int32.toNatClampNeg (M5 (b + 1) 0)) (-1 : Int32)) fun (M7 : Mem) => gd x2 40 (nm (fun (M9 : Mem) => gd x2 40 (nm (st M9 (b + 5) (Int32.toNatClampNeg x2) (M9 (b + 1) 0)) fun (M11 : Mem) => nm (st M11 (b + 1) 0 ((M11 (b + 1) 0) + (1 : Int32))) fun (M12 : Mem) => some M12)) fun j79 => if (M7 (b + 5) (Int32.toNatClampNeg x2)) = (-1 : Int32) then (gd x2 40 (nm (st M7 (b + 4) (Int32.toNatClampNeg x2) (M7 (b + 1) 0)) fun (M18 : Mem) => j79 M18)) else (gd x2 40 (gd (M7 (b + 5) (Int32.toNatClampNeg x2)) 1220 (nm (st M7 (b + 3) (Int32.toNatClampNeg (M7 (b + 5) (Int32.toNatClampNeg x2))) (M7 (b + 1) 0)) fun (M16 : Mem) => j79 M16))))))) else (some M)))
theorem iX0_add_X0 : ∀ w ∈ wsX00, w ∈ wsX0_add := by decide +kernel
theorem kX0_add_9 : Cond.fieldLink RX0 9 "PartitionPlay$Comings" "letters" "[I" ∈ wsX0_add := by decide +kernel
theorem kX0_add_15 : Cond.fieldLink RX0 15 "PartitionPlay$Comings" "followers" "[I" ∈ wsX0_add := by decide +kernel
theorem kX0_add_18 : Cond.fieldLink RX0 18 "PartitionPlay$Comings" "firsts" "[I" ∈ wsX0_add := by decide +kernel
theorem kX0_add_21 : Cond.fieldLink RX0 21 "PartitionPlay$Comings" "lasts" "[I" ∈ wsX0_add := by decide +kernel
theorem kX0_add_24 : Cond.fieldLink RX0 24 "PartitionPlay$Comings" "size" "I" ∈ wsX0_add := by decide +kernel
abbrev rmX0_add : Room := { frames := 0, cells := 0, slots := 0, locals := 0 }
set_option maxRecDepth 100000 in
set_option maxHeartbeats 4000000 in
theorem c_X0_add (l : Launch) (D : va_G) (cI cZ : ClassId) (ad : Nat → Nat) (b : Nat) (hb : b = 12 ∨ b = 34) (x1 : Int32) (x2 : Int32) (M : Mem) (M' : Mem) (hf : fX0_add b x1 x2 M = some M') : MetV l yX0_add wsX0_add rmX0_add D cI cZ ad [.ref (ad (b + 1)), .int x1, .int x2] M M' := by
  refine met_v (cc := cX0_add) (nL := 3) (ret := none) (own := RX0) (by decide) rfl rfl (Nat.le_of_ble_eq_true rfl) ?_
  intro p e s m args below meth c A G hr hlocks
  unfold fX0_add at hf
  show Wk p l e (headSpec wsX0_add rmX0_add).room s m args below meth c D cI cZ ad A 3 0 0 (QV below D cI cZ ad A args s M') M 0 [(0, .ref (ad (b + 1))), (1, .int x1), (2, .int x2)] []
  refine wk_iload_n G 2 dX0_add_0 rfl rfl ?_
  refine wk_if_lt (tgt := 20) G dX0_add_1 (by decide) (fun c1 => ?_) (fun c1 => ?_)
  · replace hf := it_t c1 hf
    exact wk_rv G hr hlocks dX0_add_20 (Option.some.inj hf)
  · replace hf := it_f c1 hf
    refine wk_iload_n G 2 dX0_add_4 rfl rfl ?_
    refine wk_bipush (v := (40 : Int32)) G dX0_add_5 (by decide) ?_
    refine wk_icmp_ge (tgt := 20) G dX0_add_7 (by decide) (fun c2 => ?_) (fun c2 => ?_)
    · replace hf := it_t c2 hf
      exact wk_rv G hr hlocks dX0_add_20 (Option.some.inj hf)
    · replace hf := it_f c2 hf
      refine wk_aload_n G 0 dX0_add_10 rfl rfl ?_
      refine wk_get (ci := 0) (v := .int (M (b + 1) 0)) G iX0_add_X0 (b + 1) (lb hb (by decide)) (ckb1 cI cZ ad hb (M (b + 1))) rfl 0 (Nat.le_of_ble_eq_true rfl) kX0_add_24 rfl dX0_add_11 ?_
      refine wk_sipush (v := (1220 : Int32)) G dX0_add_14 (by decide) ?_
      refine wk_icmp_lt (tgt := 21) G dX0_add_17 (by decide) (fun c3 => ?_) (fun c3 => ?_)
      · replace hf := it_t c3 hf
        refine wk_aload_n G 0 dX0_add_21 rfl rfl ?_
        refine wk_get (ci := 0) (v := .ref (ad (b + 2))) G iX0_add_X0 (b + 1) (lb hb (by decide)) (ckb1 cI cZ ad hb (M (b + 1))) rfl 1 (Nat.le_of_ble_eq_true rfl) kX0_add_9 rfl dX0_add_22 ?_
        refine wk_aload_n G 0 dX0_add_25 rfl rfl ?_
        refine wk_get (ci := 0) (v := .int (M (b + 1) 0)) G iX0_add_X0 (b + 1) (lb hb (by decide)) (ckb1 cI cZ ad hb (M (b + 1))) rfl 0 (Nat.le_of_ble_eq_true rfl) kX0_add_24 rfl dX0_add_26 ?_
        refine wk_iload_n G 1 dX0_add_29 rfl rfl ?_
        obtain ⟨h4, hf⟩ := gd_of hf
        obtain ⟨M5, eM5, hf⟩ := nm_ex hf
        refine wk_iast G (b + 2) (lb hb (by decide)) (ckb2 cI cZ ad hb) h4 dX0_add_30 eM5 ?_
        refine wk_aload_n G 0 dX0_add_31 rfl rfl ?_
        refine wk_get (ci := 0) (v := .ref (ad (b + 3))) G iX0_add_X0 (b + 1) (lb hb (by decide)) (ckb1 cI cZ ad hb (M5 (b + 1))) rfl 2 (Nat.le_of_ble_eq_true rfl) kX0_add_15 rfl dX0_add_32 ?_
        refine wk_aload_n G 0 dX0_add_35 rfl rfl ?_
        refine wk_get (ci := 0) (v := .int (M5 (b + 1) 0)) G iX0_add_X0 (b + 1) (lb hb (by decide)) (ckb1 cI cZ ad hb (M5 (b + 1))) rfl 0 (Nat.le_of_ble_eq_true rfl) kX0_add_24 rfl dX0_add_36 ?_
        refine wk_iconst (v := (-1 : Int32)) G dX0_add_39 (by decide) ?_
        obtain ⟨h6, hf⟩ := gd_of hf
        obtain ⟨M7, eM7, hf⟩ := nm_ex hf
        refine wk_iast G (b + 3) (lb hb (by decide)) (ckb3 cI cZ ad hb) h6 dX0_add_40 eM7 ?_
        refine wk_aload_n G 0 dX0_add_41 rfl rfl ?_
        refine wk_get (ci := 0) (v := .ref (ad (b + 5))) G iX0_add_X0 (b + 1) (lb hb (by decide)) (ckb1 cI cZ ad hb (M7 (b + 1))) rfl 4 (Nat.le_of_ble_eq_true rfl) kX0_add_21 rfl dX0_add_42 ?_
        refine wk_iload_n G 2 dX0_add_45 rfl rfl ?_
        obtain ⟨h8, hf⟩ := gd_of hf
        refine wk_iald G (b + 5) (lb hb (by decide)) (ckb5 cI cZ ad hb) h8 dX0_add_46 ?_
        refine wk_iconst (v := (-1 : Int32)) G dX0_add_47 (by decide) ?_
        obtain ⟨j79, ej79, hf⟩ := nm_ex hf
        have J79 : ∀ (M9 : Mem), j79 M9 = some M' → Wk p l e (headSpec wsX0_add rmX0_add).room s m args below meth c D cI cZ ad A 3 0 0 (QV below D cI cZ ad A args s M') M9 79 [(0, .ref (ad (b + 1))), (2, .int x2)] [] := by
          intro M9 hf
          replace hf := jn1 ej79 hf
          refine wk_aload_n G 0 dX0_add_79 rfl rfl ?_
          refine wk_get (ci := 0) (v := .ref (ad (b + 5))) G iX0_add_X0 (b + 1) (lb hb (by decide)) (ckb1 cI cZ ad hb (M9 (b + 1))) rfl 4 (Nat.le_of_ble_eq_true rfl) kX0_add_21 rfl dX0_add_80 ?_
          refine wk_iload_n G 1 dX0_add_83 rfl rfl ?_
          refine wk_aload_n G 0 dX0_add_84 rfl rfl ?_
          refine wk_get (ci := 0) (v := .int (M9 (b + 1) 0)) G iX0_add_X0 (b + 1) (lb hb (by decide)) (ckb1 cI cZ ad hb (M9 (b + 1))) rfl 0 (Nat.le_of_ble_eq_true rfl) kX0_add_24 rfl dX0_add_85 ?_
          obtain ⟨h10, hf⟩ := gd_of hf
          obtain ⟨M11, eM11, hf⟩ := nm_ex hf
          refine wk_iast G (b + 5) (lb hb (by decide)) (ckb5 cI cZ ad hb) h10 dX0_add_88 eM11 ?_
          refine wk_aload_n G 0 dX0_add_89 rfl rfl ?_
          refine wk_dup G dX0_add_90 rfl ?_
          refine wk_get (ci := 0) (v := .int (M11 (b + 1) 0)) G iX0_add_X0 (b + 1) (lb hb (by decide)) (ckb1 cI cZ ad hb (M11 (b + 1))) rfl 0 (Nat.le_of_ble_eq_true rfl) kX0_add_24 rfl dX0_add_91 ?_
          refine wk_iconst (v := (1 : Int32)) G dX0_add_94 (by decide) ?_
          refine wk_iadd G dX0_add_95 ?_
          obtain ⟨M12, eM12, hf⟩ := nm_ex hf
          refine wk_put (ci := 0) G iX0_add_X0 tyX0 tyX0_ok nmX0 (b + 1) (lb hb (by decide)) (ckb1 cI cZ ad hb (M11 (b + 1))) rfl 0 (Nat.le_of_ble_eq_true rfl) kX0_add_24 rfl (by decide +kernel) (Nat.le_of_ble_eq_true rfl) (cpb1_0 cI cZ ad hb (M11 (b + 1)) ((M11 (b + 1) 0) + (1 : Int32))) dX0_add_96 eM12 ?_
          exact wk_rv G hr hlocks dX0_add_99 (Option.some.inj hf)
        refine wk_icmp_ne (tgt := 64) G dX0_add_48 (by decide) (fun c13 => ?_) (fun c13 => ?_)
        · replace hf := it_f c13 hf
          refine wk_aload_n G 0 dX0_add_64 rfl rfl ?_
          refine wk_get (ci := 0) (v := .ref (ad (b + 3))) G iX0_add_X0 (b + 1) (lb hb (by decide)) (ckb1 cI cZ ad hb (M7 (b + 1))) rfl 2 (Nat.le_of_ble_eq_true rfl) kX0_add_15 rfl dX0_add_65 ?_
          refine wk_aload_n G 0 dX0_add_68 rfl rfl ?_
          refine wk_get (ci := 0) (v := .ref (ad (b + 5))) G iX0_add_X0 (b + 1) (lb hb (by decide)) (ckb1 cI cZ ad hb (M7 (b + 1))) rfl 4 (Nat.le_of_ble_eq_true rfl) kX0_add_21 rfl dX0_add_69 ?_
          refine wk_iload_n G 2 dX0_add_72 rfl rfl ?_
          obtain ⟨h14, hf⟩ := gd_of hf
          refine wk_iald G (b + 5) (lb hb (by decide)) (ckb5 cI cZ ad hb) h14 dX0_add_73 ?_
          refine wk_aload_n G 0 dX0_add_74 rfl rfl ?_
          refine wk_get (ci := 0) (v := .int (M7 (b + 1) 0)) G iX0_add_X0 (b + 1) (lb hb (by decide)) (ckb1 cI cZ ad hb (M7 (b + 1))) rfl 0 (Nat.le_of_ble_eq_true rfl) kX0_add_24 rfl dX0_add_75 ?_
          obtain ⟨h15, hf⟩ := gd_of hf
          obtain ⟨M16, eM16, hf⟩ := nm_ex hf
          refine wk_iast G (b + 3) (lb hb (by decide)) (ckb3 cI cZ ad hb) h15 dX0_add_78 eM16 ?_
          refine wk_sub [0, 2] rfl ?_
          exact J79 M16 hf
        · replace hf := it_t c13 hf
          refine wk_aload_n G 0 dX0_add_51 rfl rfl ?_
          refine wk_get (ci := 0) (v := .ref (ad (b + 4))) G iX0_add_X0 (b + 1) (lb hb (by decide)) (ckb1 cI cZ ad hb (M7 (b + 1))) rfl 3 (Nat.le_of_ble_eq_true rfl) kX0_add_18 rfl dX0_add_52 ?_
          refine wk_iload_n G 2 dX0_add_55 rfl rfl ?_
          refine wk_aload_n G 0 dX0_add_56 rfl rfl ?_
          refine wk_get (ci := 0) (v := .int (M7 (b + 1) 0)) G iX0_add_X0 (b + 1) (lb hb (by decide)) (ckb1 cI cZ ad hb (M7 (b + 1))) rfl 0 (Nat.le_of_ble_eq_true rfl) kX0_add_24 rfl dX0_add_57 ?_
          obtain ⟨h17, hf⟩ := gd_of hf
          obtain ⟨M18, eM18, hf⟩ := nm_ex hf
          refine wk_iast G (b + 4) (lb hb (by decide)) (ckb4 cI cZ ad hb) h17 dX0_add_60 eM18 ?_
          refine wk_goto (tgt := 79) G dX0_add_61 (by decide) ?_
          refine wk_sub [0, 2] rfl ?_
          exact J79 M18 hf
      · replace hf := it_f c3 hf
        exact wk_rv G hr hlocks dX0_add_20 (Option.some.inj hf)
def fX6_isTurn (x0 : Int32) : Option Int32 := if x0 < 0 then (some (0 : Int32)) else (if (40 : Int32) ≤ x0 then (some (0 : Int32)) else (some (1 : Int32)))
abbrev rmX6_isTurn : Room := { frames := 0, cells := 0, slots := 0, locals := 0 }
set_option maxRecDepth 100000 in
set_option maxHeartbeats 4000000 in
theorem c_X6_isTurn (l : Launch) (D : va_G) (cI cZ : ClassId) (ad : Nat → Nat) (x0 : Int32) (M : Mem) (r : Int32) (hf : fX6_isTurn x0 = some r) : MetI l yX6_isTurn wsX6_isTurn rmX6_isTurn D cI cZ ad [.int x0] M r M := by
  refine met_i (cc := cX6_isTurn) (nL := 1) (ret := (some .boolean)) (own := RX6) (by decide) rfl rfl (Nat.le_of_ble_eq_true rfl) ?_
  intro p e s m args below meth c A G hr hlocks
  unfold fX6_isTurn at hf
  show Wk p l e (headSpec wsX6_isTurn rmX6_isTurn).room s m args below meth c D cI cZ ad A 1 0 0 (QI below D cI cZ ad A args s r M) M 0 [(0, .int x0)] []
  refine wk_iload_n G 0 dX6_isTurn_0 rfl rfl ?_
  refine wk_if_lt (tgt := 14) G dX6_isTurn_1 (by decide) (fun c1 => ?_) (fun c1 => ?_)
  · replace hf := it_t c1 hf
    refine wk_iconst (v := (0 : Int32)) G dX6_isTurn_14 (by decide) ?_
    exact wk_rz G hr hlocks (Or.inl rfl) dX6_isTurn_15 (congrArg (fun z => (z, M)) (Option.some.inj hf))
  · replace hf := it_f c1 hf
    refine wk_iload_n G 0 dX6_isTurn_4 rfl rfl ?_
    refine wk_bipush (v := (40 : Int32)) G dX6_isTurn_5 (by decide) ?_
    refine wk_icmp_ge (tgt := 14) G dX6_isTurn_7 (by decide) (fun c2 => ?_) (fun c2 => ?_)
    · replace hf := it_t c2 hf
      refine wk_iconst (v := (0 : Int32)) G dX6_isTurn_14 (by decide) ?_
      exact wk_rz G hr hlocks (Or.inl rfl) dX6_isTurn_15 (congrArg (fun z => (z, M)) (Option.some.inj hf))
    · replace hf := it_f c2 hf
      refine wk_iconst (v := (1 : Int32)) G dX6_isTurn_10 (by decide) ?_
      refine wk_goto (tgt := 15) G dX6_isTurn_11 (by decide) ?_
      exact wk_rz G hr hlocks (Or.inr rfl) dX6_isTurn_15 (congrArg (fun z => (z, M)) (Option.some.inj hf))
def fX0_firstAt (b : Nat) (x1 : Int32) (M : Mem) : Option Int32 := (fX6_isTurn x1).bind (fun (r1 : Int32) => if r1 = 0 then (some (-1 : Int32)) else (gd x1 40 (some (M (b + 4) (Int32.toNatClampNeg x1)))))
theorem iX0_firstAt_X0 : ∀ w ∈ wsX00, w ∈ wsX0_firstAt := by decide +kernel
theorem kX0_firstAt_18 : Cond.fieldLink RX0 18 "PartitionPlay$Comings" "firsts" "[I" ∈ wsX0_firstAt := by decide +kernel
abbrev rmX0_firstAt : Room := { frames := 1, cells := 0, slots := 0, locals := 20 }
set_option maxRecDepth 100000 in
set_option maxHeartbeats 4000000 in
theorem c_X0_firstAt (l : Launch) (D : va_G) (cI cZ : ClassId) (ad : Nat → Nat) (b : Nat) (hb : b = 12 ∨ b = 34) (x1 : Int32) (M : Mem) (r : Int32) (hf : fX0_firstAt b x1 M = some r) : MetI l yX0_firstAt wsX0_firstAt rmX0_firstAt D cI cZ ad [.ref (ad (b + 1)), .int x1] M r M := by
  refine met_i (cc := cX0_firstAt) (nL := 2) (ret := (some .int)) (own := RX0) (by decide) rfl rfl (Nat.le_of_ble_eq_true rfl) ?_
  intro p e s m args below meth c A G hr hlocks
  unfold fX0_firstAt at hf
  show Wk p l e (headSpec wsX0_firstAt rmX0_firstAt).room s m args below meth c D cI cZ ad A 2 0 0 (QI below D cI cZ ad A args s r M) M 0 [(0, .ref (ad (b + 1))), (1, .int x1)] []
  refine wk_iload_n G 1 dX0_firstAt_0 rfl rfl ?_
  obtain ⟨r1, q2, hf⟩ := bd_of hf
  refine wk_callNi (As := [.int x1]) (rest := []) G (c_X6_isTurn l D cI cZ ad x1 M r1 q2) ⟨va_cnB 1 G.2.2.2.2.1 gX0_firstAt_X6_isTurn_n34 rfl rfl rfl G.2.2.2.2.2.2.2.2.2.2.2.2.1 (G.2.2.2.2.1 _ (by decide +kernel)) (by decide +kernel) ⟨Nat.le_of_ble_eq_true rfl, Nat.le_of_ble_eq_true rfl⟩, G.2.2.2.2.1 _ (by decide +kernel), trivial⟩ rfl rfl (Nat.le_of_ble_eq_true rfl) dX0_firstAt_1 ⟨Nat.le_of_ble_eq_true rfl, Nat.le_of_ble_eq_true rfl⟩ ?_
  refine wk_if_eq (tgt := 16) G dX0_firstAt_4 (by decide) (fun c3 => ?_) (fun c3 => ?_)
  · replace hf := it_t c3 hf
    refine wk_iconst (v := (-1 : Int32)) G dX0_firstAt_16 (by decide) ?_
    exact wk_ri G hr hlocks dX0_firstAt_17 (congrArg (fun z => (z, M)) (Option.some.inj hf))
  · replace hf := it_f c3 hf
    refine wk_aload_n G 0 dX0_firstAt_7 rfl rfl ?_
    refine wk_get (ci := 0) (v := .ref (ad (b + 4))) G iX0_firstAt_X0 (b + 1) (lb hb (by decide)) (ckb1 cI cZ ad hb (M (b + 1))) rfl 3 (Nat.le_of_ble_eq_true rfl) kX0_firstAt_18 rfl dX0_firstAt_8 ?_
    refine wk_iload_n G 1 dX0_firstAt_11 rfl rfl ?_
    obtain ⟨h4, hf⟩ := gd_of hf
    refine wk_iald G (b + 4) (lb hb (by decide)) (ckb4 cI cZ ad hb) h4 dX0_firstAt_12 ?_
    refine wk_goto (tgt := 17) G dX0_firstAt_13 (by decide) ?_
    exact wk_ri G hr hlocks dX0_firstAt_17 (congrArg (fun z => (z, M)) (Option.some.inj hf))
def fX0_has (b : Nat) (x1 : Int32) (M : Mem) : Option Int32 := if x1 < 0 then (some (0 : Int32)) else (if (M (b + 1) 0) ≤ x1 then (some (0 : Int32)) else (some (1 : Int32)))
theorem iX0_has_X0 : ∀ w ∈ wsX00, w ∈ wsX0_has := by decide +kernel
theorem kX0_has_24 : Cond.fieldLink RX0 24 "PartitionPlay$Comings" "size" "I" ∈ wsX0_has := by decide +kernel
abbrev rmX0_has : Room := { frames := 0, cells := 0, slots := 0, locals := 0 }
set_option maxRecDepth 100000 in
set_option maxHeartbeats 4000000 in
theorem c_X0_has (l : Launch) (D : va_G) (cI cZ : ClassId) (ad : Nat → Nat) (b : Nat) (hb : b = 12 ∨ b = 34) (x1 : Int32) (M : Mem) (r : Int32) (hf : fX0_has b x1 M = some r) : MetI l yX0_has wsX0_has rmX0_has D cI cZ ad [.ref (ad (b + 1)), .int x1] M r M := by
  refine met_i (cc := cX0_has) (nL := 2) (ret := (some .boolean)) (own := RX0) (by decide) rfl rfl (Nat.le_of_ble_eq_true rfl) ?_
  intro p e s m args below meth c A G hr hlocks
  unfold fX0_has at hf
  show Wk p l e (headSpec wsX0_has rmX0_has).room s m args below meth c D cI cZ ad A 2 0 0 (QI below D cI cZ ad A args s r M) M 0 [(0, .ref (ad (b + 1))), (1, .int x1)] []
  refine wk_iload_n G 1 dX0_has_0 rfl rfl ?_
  refine wk_if_lt (tgt := 16) G dX0_has_1 (by decide) (fun c1 => ?_) (fun c1 => ?_)
  · replace hf := it_t c1 hf
    refine wk_iconst (v := (0 : Int32)) G dX0_has_16 (by decide) ?_
    exact wk_rz G hr hlocks (Or.inl rfl) dX0_has_17 (congrArg (fun z => (z, M)) (Option.some.inj hf))
  · replace hf := it_f c1 hf
    refine wk_iload_n G 1 dX0_has_4 rfl rfl ?_
    refine wk_aload_n G 0 dX0_has_5 rfl rfl ?_
    refine wk_get (ci := 0) (v := .int (M (b + 1) 0)) G iX0_has_X0 (b + 1) (lb hb (by decide)) (ckb1 cI cZ ad hb (M (b + 1))) rfl 0 (Nat.le_of_ble_eq_true rfl) kX0_has_24 rfl dX0_has_6 ?_
    refine wk_icmp_ge (tgt := 16) G dX0_has_9 (by decide) (fun c2 => ?_) (fun c2 => ?_)
    · replace hf := it_t c2 hf
      refine wk_iconst (v := (0 : Int32)) G dX0_has_16 (by decide) ?_
      exact wk_rz G hr hlocks (Or.inl rfl) dX0_has_17 (congrArg (fun z => (z, M)) (Option.some.inj hf))
    · replace hf := it_f c2 hf
      refine wk_iconst (v := (1 : Int32)) G dX0_has_12 (by decide) ?_
      refine wk_goto (tgt := 17) G dX0_has_13 (by decide) ?_
      exact wk_rz G hr hlocks (Or.inr rfl) dX0_has_17 (congrArg (fun z => (z, M)) (Option.some.inj hf))
def fX0_behind (b : Nat) (x1 : Int32) (M : Mem) : Option Int32 := (fX0_has b x1 M).bind (fun (r1 : Int32) => if r1 = 0 then (some (-1 : Int32)) else (gd x1 1220 (some (M (b + 3) (Int32.toNatClampNeg x1)))))
theorem iX0_behind_X0 : ∀ w ∈ wsX00, w ∈ wsX0_behind := by decide +kernel
theorem kX0_behind_15 : Cond.fieldLink RX0 15 "PartitionPlay$Comings" "followers" "[I" ∈ wsX0_behind := by decide +kernel
abbrev rmX0_behind : Room := { frames := 1, cells := 0, slots := 0, locals := 21 }
set_option maxRecDepth 100000 in
set_option maxHeartbeats 4000000 in
theorem c_X0_behind (l : Launch) (D : va_G) (cI cZ : ClassId) (ad : Nat → Nat) (b : Nat) (hb : b = 12 ∨ b = 34) (x1 : Int32) (M : Mem) (r : Int32) (hf : fX0_behind b x1 M = some r) : MetI l yX0_behind wsX0_behind rmX0_behind D cI cZ ad [.ref (ad (b + 1)), .int x1] M r M := by
  refine met_i (cc := cX0_behind) (nL := 2) (ret := (some .int)) (own := RX0) (by decide) rfl rfl (Nat.le_of_ble_eq_true rfl) ?_
  intro p e s m args below meth c A G hr hlocks
  unfold fX0_behind at hf
  show Wk p l e (headSpec wsX0_behind rmX0_behind).room s m args below meth c D cI cZ ad A 2 0 0 (QI below D cI cZ ad A args s r M) M 0 [(0, .ref (ad (b + 1))), (1, .int x1)] []
  refine wk_aload_n G 0 dX0_behind_0 rfl rfl ?_
  refine wk_iload_n G 1 dX0_behind_1 rfl rfl ?_
  obtain ⟨r1, q2, hf⟩ := bd_of hf
  refine wk_callVi (As := [.int x1]) (rest := []) (ci := 0) G (b + 1) (lb hb (by decide)) (c_X0_has l D cI cZ ad b hb x1 M r1 q2) (cwV 1 G.2.2.2.2.1 gX0_behind_X0_has rfl rfl rfl (by decide +kernel) ⟨Nat.le_of_ble_eq_true rfl, Nat.le_of_ble_eq_true rfl⟩) (ckb1 cI cZ ad hb (M (b + 1))) rfl rfl rfl (Nat.le_of_ble_eq_true rfl) dX0_behind_2 ⟨Nat.le_of_ble_eq_true rfl, Nat.le_of_ble_eq_true rfl⟩ ?_
  refine wk_if_eq (tgt := 17) G dX0_behind_5 (by decide) (fun c3 => ?_) (fun c3 => ?_)
  · replace hf := it_t c3 hf
    refine wk_iconst (v := (-1 : Int32)) G dX0_behind_17 (by decide) ?_
    exact wk_ri G hr hlocks dX0_behind_18 (congrArg (fun z => (z, M)) (Option.some.inj hf))
  · replace hf := it_f c3 hf
    refine wk_aload_n G 0 dX0_behind_8 rfl rfl ?_
    refine wk_get (ci := 0) (v := .ref (ad (b + 3))) G iX0_behind_X0 (b + 1) (lb hb (by decide)) (ckb1 cI cZ ad hb (M (b + 1))) rfl 2 (Nat.le_of_ble_eq_true rfl) kX0_behind_15 rfl dX0_behind_9 ?_
    refine wk_iload_n G 1 dX0_behind_12 rfl rfl ?_
    obtain ⟨h4, hf⟩ := gd_of hf
    refine wk_iald G (b + 3) (lb hb (by decide)) (ckb3 cI cZ ad hb) h4 dX0_behind_13 ?_
    refine wk_goto (tgt := 18) G dX0_behind_14 (by decide) ?_
    exact wk_ri G hr hlocks dX0_behind_18 (congrArg (fun z => (z, M)) (Option.some.inj hf))
def fX0_letterOf (b : Nat) (x1 : Int32) (M : Mem) : Option Int32 := (fX0_has b x1 M).bind (fun (r1 : Int32) => if r1 = 0 then (some (-1 : Int32)) else (gd x1 1220 (some (M (b + 2) (Int32.toNatClampNeg x1)))))
theorem iX0_letterOf_X0 : ∀ w ∈ wsX00, w ∈ wsX0_letterOf := by decide +kernel
theorem kX0_letterOf_9 : Cond.fieldLink RX0 9 "PartitionPlay$Comings" "letters" "[I" ∈ wsX0_letterOf := by decide +kernel
abbrev rmX0_letterOf : Room := { frames := 1, cells := 0, slots := 0, locals := 21 }
set_option maxRecDepth 100000 in
set_option maxHeartbeats 4000000 in
theorem c_X0_letterOf (l : Launch) (D : va_G) (cI cZ : ClassId) (ad : Nat → Nat) (b : Nat) (hb : b = 12 ∨ b = 34) (x1 : Int32) (M : Mem) (r : Int32) (hf : fX0_letterOf b x1 M = some r) : MetI l yX0_letterOf wsX0_letterOf rmX0_letterOf D cI cZ ad [.ref (ad (b + 1)), .int x1] M r M := by
  refine met_i (cc := cX0_letterOf) (nL := 2) (ret := (some .int)) (own := RX0) (by decide) rfl rfl (Nat.le_of_ble_eq_true rfl) ?_
  intro p e s m args below meth c A G hr hlocks
  unfold fX0_letterOf at hf
  show Wk p l e (headSpec wsX0_letterOf rmX0_letterOf).room s m args below meth c D cI cZ ad A 2 0 0 (QI below D cI cZ ad A args s r M) M 0 [(0, .ref (ad (b + 1))), (1, .int x1)] []
  refine wk_aload_n G 0 dX0_letterOf_0 rfl rfl ?_
  refine wk_iload_n G 1 dX0_letterOf_1 rfl rfl ?_
  obtain ⟨r1, q2, hf⟩ := bd_of hf
  refine wk_callVi (As := [.int x1]) (rest := []) (ci := 0) G (b + 1) (lb hb (by decide)) (c_X0_has l D cI cZ ad b hb x1 M r1 q2) (cwV 1 G.2.2.2.2.1 gX0_letterOf_X0_has rfl rfl rfl (by decide +kernel) ⟨Nat.le_of_ble_eq_true rfl, Nat.le_of_ble_eq_true rfl⟩) (ckb1 cI cZ ad hb (M (b + 1))) rfl rfl rfl (Nat.le_of_ble_eq_true rfl) dX0_letterOf_2 ⟨Nat.le_of_ble_eq_true rfl, Nat.le_of_ble_eq_true rfl⟩ ?_
  refine wk_if_eq (tgt := 17) G dX0_letterOf_5 (by decide) (fun c3 => ?_) (fun c3 => ?_)
  · replace hf := it_t c3 hf
    refine wk_iconst (v := (-1 : Int32)) G dX0_letterOf_17 (by decide) ?_
    exact wk_ri G hr hlocks dX0_letterOf_18 (congrArg (fun z => (z, M)) (Option.some.inj hf))
  · replace hf := it_f c3 hf
    refine wk_aload_n G 0 dX0_letterOf_8 rfl rfl ?_
    refine wk_get (ci := 0) (v := .ref (ad (b + 2))) G iX0_letterOf_X0 (b + 1) (lb hb (by decide)) (ckb1 cI cZ ad hb (M (b + 1))) rfl 1 (Nat.le_of_ble_eq_true rfl) kX0_letterOf_9 rfl dX0_letterOf_9 ?_
    refine wk_iload_n G 1 dX0_letterOf_12 rfl rfl ?_
    obtain ⟨h4, hf⟩ := gd_of hf
    refine wk_iald G (b + 2) (lb hb (by decide)) (ckb2 cI cZ ad hb) h4 dX0_letterOf_13 ?_
    refine wk_goto (tgt := 18) G dX0_letterOf_14 (by decide) ?_
    exact wk_ri G hr hlocks dX0_letterOf_18 (congrArg (fun z => (z, M)) (Option.some.inj hf))
def fX1_has (b : Nat) (x1 : Int32) (M : Mem) : Option Int32 := if x1 < 0 then (some (0 : Int32)) else (if (M (b + 12) 0) ≤ x1 then (some (0 : Int32)) else (some (1 : Int32)))
theorem iX1_has_X1 : ∀ w ∈ wsX10, w ∈ wsX1_has := by decide +kernel
theorem kX1_has_33 : Cond.fieldLink RX1 33 "PartitionPlay$Letters" "size" "I" ∈ wsX1_has := by decide +kernel
abbrev rmX1_has : Room := { frames := 0, cells := 0, slots := 0, locals := 0 }
set_option maxRecDepth 100000 in
set_option maxHeartbeats 4000000 in
theorem c_X1_has (l : Launch) (D : va_G) (cI cZ : ClassId) (ad : Nat → Nat) (b : Nat) (hb : b = 12 ∨ b = 34) (x1 : Int32) (M : Mem) (r : Int32) (hf : fX1_has b x1 M = some r) : MetI l yX1_has wsX1_has rmX1_has D cI cZ ad [.ref (ad (b + 12)), .int x1] M r M := by
  refine met_i (cc := cX1_has) (nL := 2) (ret := (some .boolean)) (own := RX1) (by decide) rfl rfl (Nat.le_of_ble_eq_true rfl) ?_
  intro p e s m args below meth c A G hr hlocks
  unfold fX1_has at hf
  show Wk p l e (headSpec wsX1_has rmX1_has).room s m args below meth c D cI cZ ad A 2 0 0 (QI below D cI cZ ad A args s r M) M 0 [(0, .ref (ad (b + 12))), (1, .int x1)] []
  refine wk_iload_n G 1 dX1_has_0 rfl rfl ?_
  refine wk_if_lt (tgt := 16) G dX1_has_1 (by decide) (fun c1 => ?_) (fun c1 => ?_)
  · replace hf := it_t c1 hf
    refine wk_iconst (v := (0 : Int32)) G dX1_has_16 (by decide) ?_
    exact wk_rz G hr hlocks (Or.inl rfl) dX1_has_17 (congrArg (fun z => (z, M)) (Option.some.inj hf))
  · replace hf := it_f c1 hf
    refine wk_iload_n G 1 dX1_has_4 rfl rfl ?_
    refine wk_aload_n G 0 dX1_has_5 rfl rfl ?_
    refine wk_get (ci := 1) (v := .int (M (b + 12) 0)) G iX1_has_X1 (b + 12) (lb hb (by decide)) (ckb12 cI cZ ad hb (M (b + 12))) rfl 0 (Nat.le_of_ble_eq_true rfl) kX1_has_33 rfl dX1_has_6 ?_
    refine wk_icmp_ge (tgt := 16) G dX1_has_9 (by decide) (fun c2 => ?_) (fun c2 => ?_)
    · replace hf := it_t c2 hf
      refine wk_iconst (v := (0 : Int32)) G dX1_has_16 (by decide) ?_
      exact wk_rz G hr hlocks (Or.inl rfl) dX1_has_17 (congrArg (fun z => (z, M)) (Option.some.inj hf))
    · replace hf := it_f c2 hf
      refine wk_iconst (v := (1 : Int32)) G dX1_has_12 (by decide) ?_
      refine wk_goto (tgt := 17) G dX1_has_13 (by decide) ?_
      exact wk_rz G hr hlocks (Or.inr rfl) dX1_has_17 (congrArg (fun z => (z, M)) (Option.some.inj hf))
def fX1_clear (b : Nat) (M : Mem) : Option Mem := nm (st M (b + 12) 0 (0 : Int32)) fun (M1 : Mem) => nm (st M1 (b + 12) 1 (0 : Int32)) fun (M2 : Mem) => some M2
theorem iX1_clear_X1 : ∀ w ∈ wsX10, w ∈ wsX1_clear := by decide +kernel
theorem kX1_clear_33 : Cond.fieldLink RX1 33 "PartitionPlay$Letters" "size" "I" ∈ wsX1_clear := by decide +kernel
theorem kX1_clear_37 : Cond.fieldLink RX1 37 "PartitionPlay$Letters" "lost" "I" ∈ wsX1_clear := by decide +kernel
abbrev rmX1_clear : Room := { frames := 0, cells := 0, slots := 0, locals := 0 }
set_option maxRecDepth 100000 in
set_option maxHeartbeats 4000000 in
theorem c_X1_clear (l : Launch) (D : va_G) (cI cZ : ClassId) (ad : Nat → Nat) (b : Nat) (hb : b = 12 ∨ b = 34) (M : Mem) (M' : Mem) (hf : fX1_clear b M = some M') : MetV l yX1_clear wsX1_clear rmX1_clear D cI cZ ad [.ref (ad (b + 12))] M M' := by
  refine met_v (cc := cX1_clear) (nL := 1) (ret := none) (own := RX1) (by decide) rfl rfl (Nat.le_of_ble_eq_true rfl) ?_
  intro p e s m args below meth c A G hr hlocks
  unfold fX1_clear at hf
  show Wk p l e (headSpec wsX1_clear rmX1_clear).room s m args below meth c D cI cZ ad A 1 0 0 (QV below D cI cZ ad A args s M') M 0 [(0, .ref (ad (b + 12)))] []
  refine wk_aload_n G 0 dX1_clear_0 rfl rfl ?_
  refine wk_iconst (v := (0 : Int32)) G dX1_clear_1 (by decide) ?_
  obtain ⟨M1, eM1, hf⟩ := nm_ex hf
  refine wk_put (ci := 1) G iX1_clear_X1 tyX1 tyX1_ok nmX1 (b + 12) (lb hb (by decide)) (ckb12 cI cZ ad hb (M (b + 12))) rfl 0 (Nat.le_of_ble_eq_true rfl) kX1_clear_33 rfl (by decide +kernel) (Nat.le_of_ble_eq_true rfl) (cpb12_0 cI cZ ad hb (M (b + 12)) (0 : Int32)) dX1_clear_2 eM1 ?_
  refine wk_aload_n G 0 dX1_clear_5 rfl rfl ?_
  refine wk_iconst (v := (0 : Int32)) G dX1_clear_6 (by decide) ?_
  obtain ⟨M2, eM2, hf⟩ := nm_ex hf
  refine wk_put (ci := 1) G iX1_clear_X1 tyX1 tyX1_ok nmX1 (b + 12) (lb hb (by decide)) (ckb12 cI cZ ad hb (M1 (b + 12))) rfl 1 (Nat.le_of_ble_eq_true rfl) kX1_clear_37 rfl (by decide +kernel) (Nat.le_of_ble_eq_true rfl) (cpb12_1 cI cZ ad hb (M1 (b + 12)) (0 : Int32)) dX1_clear_7 eM2 ?_
  exact wk_rv G hr hlocks dX1_clear_10 (Option.some.inj hf)
def fX1_add (b : Nat) (x1 : Int32) (x2 : Int32) (x3 : Int32) (x4 : Int32) (x5 : Int32) (M : Mem) : Option (Int32 × Mem) := if (M (b + 12) 0) < (1200 : Int32) then (gd (M (b + 12) 0) 1200 (nm (st M (b + 13) (Int32.toNatClampNeg (M (b + 12) 0)) x1) fun (M3 : Mem) => gd (M3 (b + 12) 0) 1200 (nm (st M3 (b + 14) (Int32.toNatClampNeg (M3 (b + 12) 0)) x2) fun (M5 : Mem) => gd (M5 (b + 12) 0) 1200 (nm (st M5 (b + 15) (Int32.toNatClampNeg (M5 (b + 12) 0)) x3) fun (M7 : Mem) => gd (M7 (b + 12) 0) 1200 (nm (st M7 (b + 16) (Int32.toNatClampNeg (M7 (b + 12) 0)) x4) fun (M9 : Mem) => gd (M9 (b + 12) 0) 1200 (nm (st M9 (b + 17) (Int32.toNatClampNeg (M9 (b + 12) 0)) x5) fun (M11 : Mem) => gd (M11 (b + 12) 0) 1200 (nm (st M11 (b + 18) (Int32.toNatClampNeg (M11 (b + 12) 0)) (-1 : Int32)) fun (M13 : Mem) => gd (M13 (b + 12) 0) 1200 (nm (st M13 (b + 19) (Int32.toNatClampNeg (M13 (b + 12) 0)) (0 : Int32)) fun (M15 : Mem) => nm ((M15 (b + 12) 0)) fun (v16 : Int32) => nm (st M15 (b + 12) 0 (v16 + (1 : Int32))) fun (M17 : Mem) => some (v16, M17))))))))) else (some ((-1 : Int32), M))
theorem iX1_add_X1 : ∀ w ∈ wsX10, w ∈ wsX1_add := by decide +kernel
theorem kX1_add_9 : Cond.fieldLink RX1 9 "PartitionPlay$Letters" "senders" "[I" ∈ wsX1_add := by decide +kernel
theorem kX1_add_15 : Cond.fieldLink RX1 15 "PartitionPlay$Letters" "receivers" "[I" ∈ wsX1_add := by decide +kernel
theorem kX1_add_18 : Cond.fieldLink RX1 18 "PartitionPlay$Letters" "turns" "[I" ∈ wsX1_add := by decide +kernel
theorem kX1_add_21 : Cond.fieldLink RX1 21 "PartitionPlay$Letters" "heights" "[I" ∈ wsX1_add := by decide +kernel
theorem kX1_add_24 : Cond.fieldLink RX1 24 "PartitionPlay$Letters" "rumours" "[I" ∈ wsX1_add := by decide +kernel
theorem kX1_add_27 : Cond.fieldLink RX1 27 "PartitionPlay$Letters" "firstComings" "[I" ∈ wsX1_add := by decide +kernel
theorem kX1_add_30 : Cond.fieldLink RX1 30 "PartitionPlay$Letters" "takenIn" "[I" ∈ wsX1_add := by decide +kernel
theorem kX1_add_33 : Cond.fieldLink RX1 33 "PartitionPlay$Letters" "size" "I" ∈ wsX1_add := by decide +kernel
abbrev rmX1_add : Room := { frames := 0, cells := 0, slots := 0, locals := 0 }
set_option maxRecDepth 100000 in
set_option maxHeartbeats 4000000 in
theorem c_X1_add (l : Launch) (D : va_G) (cI cZ : ClassId) (ad : Nat → Nat) (b : Nat) (hb : b = 12 ∨ b = 34) (x1 : Int32) (x2 : Int32) (x3 : Int32) (x4 : Int32) (x5 : Int32) (M : Mem) (r : Int32) (M' : Mem) (hf : fX1_add b x1 x2 x3 x4 x5 M = some (r, M')) : MetI l yX1_add wsX1_add rmX1_add D cI cZ ad [.ref (ad (b + 12)), .int x1, .int x2, .int x3, .int x4, .int x5] M r M' := by
  refine met_i (cc := cX1_add) (nL := 6) (ret := (some .int)) (own := RX1) (by decide) rfl rfl (Nat.le_of_ble_eq_true rfl) ?_
  intro p e s m args below meth c A G hr hlocks
  unfold fX1_add at hf
  show Wk p l e (headSpec wsX1_add rmX1_add).room s m args below meth c D cI cZ ad A 6 0 0 (QI below D cI cZ ad A args s r M') M 0 [(0, .ref (ad (b + 12))), (1, .int x1), (2, .int x2), (3, .int x3), (4, .int x4), (5, .int x5)] []
  refine wk_aload_n G 0 dX1_add_0 rfl rfl ?_
  refine wk_get (ci := 1) (v := .int (M (b + 12) 0)) G iX1_add_X1 (b + 12) (lb hb (by decide)) (ckb12 cI cZ ad hb (M (b + 12))) rfl 0 (Nat.le_of_ble_eq_true rfl) kX1_add_33 rfl dX1_add_1 ?_
  refine wk_sipush (v := (1200 : Int32)) G dX1_add_4 (by decide) ?_
  refine wk_icmp_lt (tgt := 12) G dX1_add_7 (by decide) (fun c1 => ?_) (fun c1 => ?_)
  · replace hf := it_t c1 hf
    refine wk_aload_n G 0 dX1_add_12 rfl rfl ?_
    refine wk_get (ci := 1) (v := .ref (ad (b + 13))) G iX1_add_X1 (b + 12) (lb hb (by decide)) (ckb12 cI cZ ad hb (M (b + 12))) rfl 2 (Nat.le_of_ble_eq_true rfl) kX1_add_9 rfl dX1_add_13 ?_
    refine wk_aload_n G 0 dX1_add_16 rfl rfl ?_
    refine wk_get (ci := 1) (v := .int (M (b + 12) 0)) G iX1_add_X1 (b + 12) (lb hb (by decide)) (ckb12 cI cZ ad hb (M (b + 12))) rfl 0 (Nat.le_of_ble_eq_true rfl) kX1_add_33 rfl dX1_add_17 ?_
    refine wk_iload_n G 1 dX1_add_20 rfl rfl ?_
    obtain ⟨h2, hf⟩ := gd_of hf
    obtain ⟨M3, eM3, hf⟩ := nm_ex hf
    refine wk_iast G (b + 13) (lb hb (by decide)) (ckb13 cI cZ ad hb) h2 dX1_add_21 eM3 ?_
    refine wk_aload_n G 0 dX1_add_22 rfl rfl ?_
    refine wk_get (ci := 1) (v := .ref (ad (b + 14))) G iX1_add_X1 (b + 12) (lb hb (by decide)) (ckb12 cI cZ ad hb (M3 (b + 12))) rfl 3 (Nat.le_of_ble_eq_true rfl) kX1_add_15 rfl dX1_add_23 ?_
    refine wk_aload_n G 0 dX1_add_26 rfl rfl ?_
    refine wk_get (ci := 1) (v := .int (M3 (b + 12) 0)) G iX1_add_X1 (b + 12) (lb hb (by decide)) (ckb12 cI cZ ad hb (M3 (b + 12))) rfl 0 (Nat.le_of_ble_eq_true rfl) kX1_add_33 rfl dX1_add_27 ?_
    refine wk_iload_n G 2 dX1_add_30 rfl rfl ?_
    obtain ⟨h4, hf⟩ := gd_of hf
    obtain ⟨M5, eM5, hf⟩ := nm_ex hf
    refine wk_iast G (b + 14) (lb hb (by decide)) (ckb14 cI cZ ad hb) h4 dX1_add_31 eM5 ?_
    refine wk_aload_n G 0 dX1_add_32 rfl rfl ?_
    refine wk_get (ci := 1) (v := .ref (ad (b + 15))) G iX1_add_X1 (b + 12) (lb hb (by decide)) (ckb12 cI cZ ad hb (M5 (b + 12))) rfl 4 (Nat.le_of_ble_eq_true rfl) kX1_add_18 rfl dX1_add_33 ?_
    refine wk_aload_n G 0 dX1_add_36 rfl rfl ?_
    refine wk_get (ci := 1) (v := .int (M5 (b + 12) 0)) G iX1_add_X1 (b + 12) (lb hb (by decide)) (ckb12 cI cZ ad hb (M5 (b + 12))) rfl 0 (Nat.le_of_ble_eq_true rfl) kX1_add_33 rfl dX1_add_37 ?_
    refine wk_iload_n G 3 dX1_add_40 rfl rfl ?_
    obtain ⟨h6, hf⟩ := gd_of hf
    obtain ⟨M7, eM7, hf⟩ := nm_ex hf
    refine wk_iast G (b + 15) (lb hb (by decide)) (ckb15 cI cZ ad hb) h6 dX1_add_41 eM7 ?_
    refine wk_aload_n G 0 dX1_add_42 rfl rfl ?_
    refine wk_get (ci := 1) (v := .ref (ad (b + 16))) G iX1_add_X1 (b + 12) (lb hb (by decide)) (ckb12 cI cZ ad hb (M7 (b + 12))) rfl 5 (Nat.le_of_ble_eq_true rfl) kX1_add_21 rfl dX1_add_43 ?_
    refine wk_aload_n G 0 dX1_add_46 rfl rfl ?_
    refine wk_get (ci := 1) (v := .int (M7 (b + 12) 0)) G iX1_add_X1 (b + 12) (lb hb (by decide)) (ckb12 cI cZ ad hb (M7 (b + 12))) rfl 0 (Nat.le_of_ble_eq_true rfl) kX1_add_33 rfl dX1_add_47 ?_
    refine wk_iload G 4 dX1_add_50 rfl ?_
    obtain ⟨h8, hf⟩ := gd_of hf
    obtain ⟨M9, eM9, hf⟩ := nm_ex hf
    refine wk_iast G (b + 16) (lb hb (by decide)) (ckb16 cI cZ ad hb) h8 dX1_add_52 eM9 ?_
    refine wk_aload_n G 0 dX1_add_53 rfl rfl ?_
    refine wk_get (ci := 1) (v := .ref (ad (b + 17))) G iX1_add_X1 (b + 12) (lb hb (by decide)) (ckb12 cI cZ ad hb (M9 (b + 12))) rfl 6 (Nat.le_of_ble_eq_true rfl) kX1_add_24 rfl dX1_add_54 ?_
    refine wk_aload_n G 0 dX1_add_57 rfl rfl ?_
    refine wk_get (ci := 1) (v := .int (M9 (b + 12) 0)) G iX1_add_X1 (b + 12) (lb hb (by decide)) (ckb12 cI cZ ad hb (M9 (b + 12))) rfl 0 (Nat.le_of_ble_eq_true rfl) kX1_add_33 rfl dX1_add_58 ?_
    refine wk_iload G 5 dX1_add_61 rfl ?_
    obtain ⟨h10, hf⟩ := gd_of hf
    obtain ⟨M11, eM11, hf⟩ := nm_ex hf
    refine wk_iast G (b + 17) (lb hb (by decide)) (ckb17 cI cZ ad hb) h10 dX1_add_63 eM11 ?_
    refine wk_aload_n G 0 dX1_add_64 rfl rfl ?_
    refine wk_get (ci := 1) (v := .ref (ad (b + 18))) G iX1_add_X1 (b + 12) (lb hb (by decide)) (ckb12 cI cZ ad hb (M11 (b + 12))) rfl 7 (Nat.le_of_ble_eq_true rfl) kX1_add_27 rfl dX1_add_65 ?_
    refine wk_aload_n G 0 dX1_add_68 rfl rfl ?_
    refine wk_get (ci := 1) (v := .int (M11 (b + 12) 0)) G iX1_add_X1 (b + 12) (lb hb (by decide)) (ckb12 cI cZ ad hb (M11 (b + 12))) rfl 0 (Nat.le_of_ble_eq_true rfl) kX1_add_33 rfl dX1_add_69 ?_
    refine wk_iconst (v := (-1 : Int32)) G dX1_add_72 (by decide) ?_
    obtain ⟨h12, hf⟩ := gd_of hf
    obtain ⟨M13, eM13, hf⟩ := nm_ex hf
    refine wk_iast G (b + 18) (lb hb (by decide)) (ckb18 cI cZ ad hb) h12 dX1_add_73 eM13 ?_
    refine wk_aload_n G 0 dX1_add_74 rfl rfl ?_
    refine wk_get (ci := 1) (v := .ref (ad (b + 19))) G iX1_add_X1 (b + 12) (lb hb (by decide)) (ckb12 cI cZ ad hb (M13 (b + 12))) rfl 8 (Nat.le_of_ble_eq_true rfl) kX1_add_30 rfl dX1_add_75 ?_
    refine wk_aload_n G 0 dX1_add_78 rfl rfl ?_
    refine wk_get (ci := 1) (v := .int (M13 (b + 12) 0)) G iX1_add_X1 (b + 12) (lb hb (by decide)) (ckb12 cI cZ ad hb (M13 (b + 12))) rfl 0 (Nat.le_of_ble_eq_true rfl) kX1_add_33 rfl dX1_add_79 ?_
    refine wk_iconst (v := (0 : Int32)) G dX1_add_82 (by decide) ?_
    obtain ⟨h14, hf⟩ := gd_of hf
    obtain ⟨M15, eM15, hf⟩ := nm_ex hf
    refine wk_iast G (b + 19) (lb hb (by decide)) (ckb19 cI cZ ad hb) h14 dX1_add_83 eM15 ?_
    refine wk_aload_n G 0 dX1_add_84 rfl rfl ?_
    refine wk_dup G dX1_add_85 rfl ?_
    refine wk_get (ci := 1) (v := .int (M15 (b + 12) 0)) G iX1_add_X1 (b + 12) (lb hb (by decide)) (ckb12 cI cZ ad hb (M15 (b + 12))) rfl 0 (Nat.le_of_ble_eq_true rfl) kX1_add_33 rfl dX1_add_86 ?_
    obtain ⟨v16, ev16, hf⟩ := nm_ex hf
    refine wk_nme ev16 ?_
    refine wk_dup_x1 G dX1_add_89 rfl rfl ?_
    refine wk_iconst (v := (1 : Int32)) G dX1_add_90 (by decide) ?_
    refine wk_iadd G dX1_add_91 ?_
    obtain ⟨M17, eM17, hf⟩ := nm_ex hf
    refine wk_put (ci := 1) G iX1_add_X1 tyX1 tyX1_ok nmX1 (b + 12) (lb hb (by decide)) (ckb12 cI cZ ad hb (M15 (b + 12))) rfl 0 (Nat.le_of_ble_eq_true rfl) kX1_add_33 rfl (by decide +kernel) (Nat.le_of_ble_eq_true rfl) (cpb12_0 cI cZ ad hb (M15 (b + 12)) (v16 + (1 : Int32))) dX1_add_92 eM17 ?_
    exact wk_ri G hr hlocks dX1_add_95 (Option.some.inj hf)
  · replace hf := it_f c1 hf
    refine wk_iconst (v := (-1 : Int32)) G dX1_add_10 (by decide) ?_
    exact wk_ri G hr hlocks dX1_add_11 (Option.some.inj hf)
def fJ6_bitCount_0f7a4 (x0 : Int32) : Option Int32 := nm ((x0 - (((Int32.toUInt32 x0 >>> (Int32.toUInt32 (1 : Int32) &&& Int32.toUInt32 31)).toInt32) &&& (1431655765 : Int32)))) fun (v1 : Int32) => nm (((v1 &&& (858993459 : Int32)) + (((Int32.toUInt32 v1 >>> (Int32.toUInt32 (2 : Int32) &&& Int32.toUInt32 31)).toInt32) &&& (858993459 : Int32)))) fun (v2 : Int32) => nm (((v2 + ((Int32.toUInt32 v2 >>> (Int32.toUInt32 (4 : Int32) &&& Int32.toUInt32 31)).toInt32)) &&& (252645135 : Int32))) fun (v3 : Int32) => nm ((v3 + ((Int32.toUInt32 v3 >>> (Int32.toUInt32 (8 : Int32) &&& Int32.toUInt32 31)).toInt32))) fun (v4 : Int32) => nm ((v4 + ((Int32.toUInt32 v4 >>> (Int32.toUInt32 (16 : Int32) &&& Int32.toUInt32 31)).toInt32))) fun (v5 : Int32) => some (v5 &&& (63 : Int32))
abbrev rmJ6_bitCount_0f7a4 : Room := { frames := 0, cells := 0, slots := 0, locals := 0 }
set_option maxRecDepth 100000 in
set_option maxHeartbeats 4000000 in
theorem c_J6_bitCount_0f7a4 (l : Launch) (D : va_G) (cI cZ : ClassId) (ad : Nat → Nat) (x0 : Int32) (M : Mem) (r : Int32) (hf : fJ6_bitCount_0f7a4 x0 = some r) : MetI l yJ6_bitCount_0f7a4 wsJ6_bitCount_0f7a4 rmJ6_bitCount_0f7a4 D cI cZ ad [.int x0] M r M := by
  refine met_i (cc := cJ6_bitCount_0f7a4) (nL := 1) (ret := (some .int)) (own := RJ6) (by decide) rfl rfl (Nat.le_of_ble_eq_true rfl) ?_
  intro p e s m args below meth c A G hr hlocks
  unfold fJ6_bitCount_0f7a4 at hf
  show Wk p l e (headSpec wsJ6_bitCount_0f7a4 rmJ6_bitCount_0f7a4).room s m args below meth c D cI cZ ad A 1 0 0 (QI below D cI cZ ad A args s r M) M 0 [(0, .int x0)] []
  refine wk_iload_n G 0 dJ6_bitCount_0f7a4_0 rfl rfl ?_
  refine wk_iload_n G 0 dJ6_bitCount_0f7a4_1 rfl rfl ?_
  refine wk_iconst (v := (1 : Int32)) G dJ6_bitCount_0f7a4_2 (by decide) ?_
  refine wk_iushr G dJ6_bitCount_0f7a4_3 ?_
  refine wk_ldcw (v := (1431655765 : Int32)) G (by decide +kernel) dJ6_bitCount_0f7a4_4 ?_
  refine wk_iand G dJ6_bitCount_0f7a4_7 ?_
  refine wk_isub G dJ6_bitCount_0f7a4_8 ?_
  obtain ⟨v1, ev1, hf⟩ := nm_ex hf
  refine wk_nme ev1 ?_
  refine wk_istore_n (lv' := [(0, .int v1)]) G dJ6_bitCount_0f7a4_9 rfl (by decide) rfl ?_
  refine wk_iload_n G 0 dJ6_bitCount_0f7a4_10 rfl rfl ?_
  refine wk_ldcw (v := (858993459 : Int32)) G (by decide +kernel) dJ6_bitCount_0f7a4_11 ?_
  refine wk_iand G dJ6_bitCount_0f7a4_14 ?_
  refine wk_iload_n G 0 dJ6_bitCount_0f7a4_15 rfl rfl ?_
  refine wk_iconst (v := (2 : Int32)) G dJ6_bitCount_0f7a4_16 (by decide) ?_
  refine wk_iushr G dJ6_bitCount_0f7a4_17 ?_
  refine wk_ldcw (v := (858993459 : Int32)) G (by decide +kernel) dJ6_bitCount_0f7a4_18 ?_
  refine wk_iand G dJ6_bitCount_0f7a4_21 ?_
  refine wk_iadd G dJ6_bitCount_0f7a4_22 ?_
  obtain ⟨v2, ev2, hf⟩ := nm_ex hf
  refine wk_nme ev2 ?_
  refine wk_istore_n (lv' := [(0, .int v2)]) G dJ6_bitCount_0f7a4_23 rfl (by decide) rfl ?_
  refine wk_iload_n G 0 dJ6_bitCount_0f7a4_24 rfl rfl ?_
  refine wk_iload_n G 0 dJ6_bitCount_0f7a4_25 rfl rfl ?_
  refine wk_iconst (v := (4 : Int32)) G dJ6_bitCount_0f7a4_26 (by decide) ?_
  refine wk_iushr G dJ6_bitCount_0f7a4_27 ?_
  refine wk_iadd G dJ6_bitCount_0f7a4_28 ?_
  refine wk_ldcw (v := (252645135 : Int32)) G (by decide +kernel) dJ6_bitCount_0f7a4_29 ?_
  refine wk_iand G dJ6_bitCount_0f7a4_32 ?_
  obtain ⟨v3, ev3, hf⟩ := nm_ex hf
  refine wk_nme ev3 ?_
  refine wk_istore_n (lv' := [(0, .int v3)]) G dJ6_bitCount_0f7a4_33 rfl (by decide) rfl ?_
  refine wk_iload_n G 0 dJ6_bitCount_0f7a4_34 rfl rfl ?_
  refine wk_iload_n G 0 dJ6_bitCount_0f7a4_35 rfl rfl ?_
  refine wk_bipush (v := (8 : Int32)) G dJ6_bitCount_0f7a4_36 (by decide) ?_
  refine wk_iushr G dJ6_bitCount_0f7a4_38 ?_
  refine wk_iadd G dJ6_bitCount_0f7a4_39 ?_
  obtain ⟨v4, ev4, hf⟩ := nm_ex hf
  refine wk_nme ev4 ?_
  refine wk_istore_n (lv' := [(0, .int v4)]) G dJ6_bitCount_0f7a4_40 rfl (by decide) rfl ?_
  refine wk_iload_n G 0 dJ6_bitCount_0f7a4_41 rfl rfl ?_
  refine wk_iload_n G 0 dJ6_bitCount_0f7a4_42 rfl rfl ?_
  refine wk_bipush (v := (16 : Int32)) G dJ6_bitCount_0f7a4_43 (by decide) ?_
  refine wk_iushr G dJ6_bitCount_0f7a4_45 ?_
  refine wk_iadd G dJ6_bitCount_0f7a4_46 ?_
  obtain ⟨v5, ev5, hf⟩ := nm_ex hf
  refine wk_nme ev5 ?_
  refine wk_istore_n (lv' := [(0, .int v5)]) G dJ6_bitCount_0f7a4_47 rfl (by decide) rfl ?_
  refine wk_iload_n G 0 dJ6_bitCount_0f7a4_48 rfl rfl ?_
  refine wk_bipush (v := (63 : Int32)) G dJ6_bitCount_0f7a4_49 (by decide) ?_
  refine wk_iand G dJ6_bitCount_0f7a4_51 ?_
  exact wk_ri G hr hlocks dJ6_bitCount_0f7a4_52 (congrArg (fun z => (z, M)) (Option.some.inj hf))
def fX1_bytesFrom (b : Nat) (x1 : Int32) (M : Mem) : Option Int32 := (loop fu (un2 fun (v1 : Int32) (v2 : Int32) => (if (M (b + 12) 0) ≤ v2 then (some (.inr v1)) else (gd v2 1200 (nm (fun (v5 : Int32) => nm (v2 + (1 : Int32)) fun (v6 : Int32) => some (.inl (v5, v6))) fun j36 => if (M (b + 13) (Int32.toNatClampNeg v2)) = x1 then (gd v2 1200 ((fJ6_bitCount_0f7a4 (M (b + 17) (Int32.toNatClampNeg v2))).bind (fun (r9 : Int32) => nm ((v1 + ((4 : Int32) + r9))) fun (v11 : Int32) => j36 v11))) else (j36 v1))) : Option ((Int32 × Int32) ⊕ (Int32)))) ((0 : Int32), (0 : Int32))).bind (un1 fun (v12 : Int32) => some v12)
theorem iX1_bytesFrom_X1 : ∀ w ∈ wsX10, w ∈ wsX1_bytesFrom := by decide +kernel
theorem kX1_bytesFrom_9 : Cond.fieldLink RX1 9 "PartitionPlay$Letters" "senders" "[I" ∈ wsX1_bytesFrom := by decide +kernel
theorem kX1_bytesFrom_24 : Cond.fieldLink RX1 24 "PartitionPlay$Letters" "rumours" "[I" ∈ wsX1_bytesFrom := by decide +kernel
theorem kX1_bytesFrom_33 : Cond.fieldLink RX1 33 "PartitionPlay$Letters" "size" "I" ∈ wsX1_bytesFrom := by decide +kernel
abbrev rmX1_bytesFrom : Room := { frames := 1, cells := 0, slots := 0, locals := 20 }
set_option maxRecDepth 100000 in
set_option maxHeartbeats 4000000 in
theorem c_X1_bytesFrom (l : Launch) (D : va_G) (cI cZ : ClassId) (ad : Nat → Nat) (b : Nat) (hb : b = 12 ∨ b = 34) (x1 : Int32) (M : Mem) (r : Int32) (hf : fX1_bytesFrom b x1 M = some r) : MetI l yX1_bytesFrom wsX1_bytesFrom rmX1_bytesFrom D cI cZ ad [.ref (ad (b + 12)), .int x1] M r M := by
  refine met_i (cc := cX1_bytesFrom) (nL := 4) (ret := (some .int)) (own := RX1) (by decide) rfl rfl (Nat.le_of_ble_eq_true rfl) ?_
  intro p e s m args below meth c A G hr hlocks
  unfold fX1_bytesFrom at hf
  show Wk p l e (headSpec wsX1_bytesFrom rmX1_bytesFrom).room s m args below meth c D cI cZ ad A 4 0 0 (QI below D cI cZ ad A args s r M) M 0 [(0, .ref (ad (b + 12))), (1, .int x1)] []
  refine wk_iconst (v := (0 : Int32)) G dX1_bytesFrom_0 (by decide) ?_
  refine wk_istore_n (lv' := [(2, .int (0 : Int32)), (0, .ref (ad (b + 12))), (1, .int x1)]) G dX1_bytesFrom_1 rfl (by decide) rfl ?_
  refine wk_iconst (v := (0 : Int32)) G dX1_bytesFrom_2 (by decide) ?_
  refine wk_istore_n (lv' := [(3, .int (0 : Int32)), (2, .int (0 : Int32)), (0, .ref (ad (b + 12))), (1, .int x1)]) G dX1_bytesFrom_3 rfl (by decide) rfl ?_
  refine wk_sub [2, 3, 1, 0] rfl ?_
  obtain ⟨q13, q14, hf⟩ := bd_of hf
  have Cq13 : (up1 fun (v12 : Int32) => Wk p l e (headSpec wsX1_bytesFrom rmX1_bytesFrom).room s m args below meth c D cI cZ ad A 4 0 0 (QI below D cI cZ ad A args s r M) M 42 [(2, .int v12)] []) q13 := by
    obtain ⟨v12, rfl⟩ : ∃ z, z = q13 := ⟨_, rfl⟩
    replace hf := un1_of hf
    show Wk p l e (headSpec wsX1_bytesFrom rmX1_bytesFrom).room s m args below meth c D cI cZ ad A 4 0 0 (QI below D cI cZ ad A args s r M) M 42 [(2, .int v12)] []
    refine wk_iload_n G 0 dX1_bytesFrom_42 rfl rfl ?_
    exact wk_ri G hr hlocks dX1_bytesFrom_43 (congrArg (fun z => (z, M)) (Option.some.inj hf))
  have Lq13 : (up2 fun (v1 : Int32) (v2 : Int32) => Wk p l e (headSpec wsX1_bytesFrom rmX1_bytesFrom).room s m args below meth c D cI cZ ad A 4 0 0 (QI below D cI cZ ad A args s r M) M 4 [(0, .ref (ad (b + 12))), (1, .int x1), (2, .int v1), (3, .int v2)] []) ((0 : Int32), (0 : Int32)) := by
    refine loop_P (C := (up1 fun (v12 : Int32) => Wk p l e (headSpec wsX1_bytesFrom rmX1_bytesFrom).room s m args below meth c D cI cZ ad A 4 0 0 (QI below D cI cZ ad A args s r M) M 42 [(2, .int v12)] [])) ?_ fu ((0 : Int32), (0 : Int32)) q13 q14 Cq13
    clear hf Cq13 q14
    rintro ⟨v1, v2⟩ o hf hI hE
    replace hf := un2_of hf
    show Wk p l e (headSpec wsX1_bytesFrom rmX1_bytesFrom).room s m args below meth c D cI cZ ad A 4 0 0 (QI below D cI cZ ad A args s r M) M 4 [(0, .ref (ad (b + 12))), (1, .int x1), (2, .int v1), (3, .int v2)] []
    refine wk_iload_n G 3 dX1_bytesFrom_4 rfl rfl ?_
    refine wk_aload_n G 0 dX1_bytesFrom_5 rfl rfl ?_
    refine wk_get (ci := 1) (v := .int (M (b + 12) 0)) G iX1_bytesFrom_X1 (b + 12) (lb hb (by decide)) (ckb12 cI cZ ad hb (M (b + 12))) rfl 0 (Nat.le_of_ble_eq_true rfl) kX1_bytesFrom_33 rfl dX1_bytesFrom_6 ?_
    refine wk_icmp_ge (tgt := 42) G dX1_bytesFrom_9 (by decide) (fun c3 => ?_) (fun c3 => ?_)
    · replace hf := it_t c3 hf
      refine wk_sub [2] rfl ?_
      exact hE _ (Option.some.inj hf).symm
    · replace hf := it_f c3 hf
      refine wk_aload_n G 0 dX1_bytesFrom_12 rfl rfl ?_
      refine wk_get (ci := 1) (v := .ref (ad (b + 13))) G iX1_bytesFrom_X1 (b + 12) (lb hb (by decide)) (ckb12 cI cZ ad hb (M (b + 12))) rfl 2 (Nat.le_of_ble_eq_true rfl) kX1_bytesFrom_9 rfl dX1_bytesFrom_13 ?_
      refine wk_iload_n G 3 dX1_bytesFrom_16 rfl rfl ?_
      obtain ⟨h4, hf⟩ := gd_of hf
      refine wk_iald G (b + 13) (lb hb (by decide)) (ckb13 cI cZ ad hb) h4 dX1_bytesFrom_17 ?_
      refine wk_iload_n G 1 dX1_bytesFrom_18 rfl rfl ?_
      obtain ⟨j36, ej36, hf⟩ := nm_ex hf
      have J36 : ∀ (v5 : Int32), j36 v5 = some o → Wk p l e (headSpec wsX1_bytesFrom rmX1_bytesFrom).room s m args below meth c D cI cZ ad A 4 0 0 (QI below D cI cZ ad A args s r M) M 36 [(0, .ref (ad (b + 12))), (1, .int x1), (2, .int v5), (3, .int v2)] [] := by
        intro v5 hf
        replace hf := jn1 ej36 hf
        obtain ⟨v6, ev6, hf⟩ := nm_ex hf
        refine wk_iinc (v := v6) (lv' := [(3, .int v6), (0, .ref (ad (b + 12))), (1, .int x1), (2, .int v5)]) G 3 dX1_bytesFrom_36 rfl (by rw [ev6]; rfl) (by decide) rfl ?_
        refine wk_goto (tgt := 4) G dX1_bytesFrom_39 (by decide) ?_
        refine wk_sub [1, 2, 3, 0] rfl ?_
        exact hI _ (Option.some.inj hf).symm
      refine wk_icmp_ne (tgt := 36) G dX1_bytesFrom_19 (by decide) (fun c7 => ?_) (fun c7 => ?_)
      · replace hf := it_f c7 hf
        exact J36 v1 hf
      · replace hf := it_t c7 hf
        refine wk_iload_n G 2 dX1_bytesFrom_22 rfl rfl ?_
        refine wk_iconst (v := (4 : Int32)) G dX1_bytesFrom_23 (by decide) ?_
        refine wk_aload_n G 0 dX1_bytesFrom_24 rfl rfl ?_
        refine wk_get (ci := 1) (v := .ref (ad (b + 17))) G iX1_bytesFrom_X1 (b + 12) (lb hb (by decide)) (ckb12 cI cZ ad hb (M (b + 12))) rfl 6 (Nat.le_of_ble_eq_true rfl) kX1_bytesFrom_24 rfl dX1_bytesFrom_25 ?_
        refine wk_iload_n G 3 dX1_bytesFrom_28 rfl rfl ?_
        obtain ⟨h8, hf⟩ := gd_of hf
        refine wk_iald G (b + 17) (lb hb (by decide)) (ckb17 cI cZ ad hb) h8 dX1_bytesFrom_29 ?_
        obtain ⟨r9, q10, hf⟩ := bd_of hf
        refine wk_callSi (As := [.int (M (b + 17) (Int32.toNatClampNeg v2))]) (rest := [.int (4 : Int32), .int v1]) G (c_J6_bitCount_0f7a4 l D cI cZ ad (M (b + 17) (Int32.toNatClampNeg v2)) M r9 q10) (va_cwS 1 G.2.2.2.2.1 gX1_bytesFrom_J6_bitCount_0f7a4 rfl rfl rfl (by decide +kernel) ⟨Nat.le_of_ble_eq_true rfl, Nat.le_of_ble_eq_true rfl⟩) rfl rfl (Nat.le_of_ble_eq_true rfl) dX1_bytesFrom_30 ⟨Nat.le_of_ble_eq_true rfl, Nat.le_of_ble_eq_true rfl⟩ ?_
        refine wk_iadd G dX1_bytesFrom_33 ?_
        refine wk_iadd G dX1_bytesFrom_34 ?_
        obtain ⟨v11, ev11, hf⟩ := nm_ex hf
        refine wk_nme ev11 ?_
        refine wk_istore_n (lv' := [(2, .int v11), (0, .ref (ad (b + 12))), (1, .int x1), (3, .int v2)]) G dX1_bytesFrom_35 rfl (by decide) rfl ?_
        refine wk_sub [1, 2, 0, 3] rfl ?_
        exact J36 v11 hf
  exact Lq13
def fX2_has (x1 : Int32) (M : Mem) : Option Int32 := if x1 < 0 then (some (0 : Int32)) else (if (M 1 0) ≤ x1 then (some (0 : Int32)) else (some (1 : Int32)))
theorem iX2_has_X2 : ∀ w ∈ wsX20, w ∈ wsX2_has := by decide +kernel
theorem kX2_has_21 : Cond.fieldLink RX2 21 "PartitionPlay$Net" "size" "I" ∈ wsX2_has := by decide +kernel
abbrev rmX2_has : Room := { frames := 0, cells := 0, slots := 0, locals := 0 }
set_option maxRecDepth 100000 in
set_option maxHeartbeats 4000000 in
theorem c_X2_has (l : Launch) (D : va_G) (cI cZ : ClassId) (ad : Nat → Nat) (x1 : Int32) (M : Mem) (r : Int32) (hf : fX2_has x1 M = some r) : MetI l yX2_has wsX2_has rmX2_has D cI cZ ad [.ref (ad 1), .int x1] M r M := by
  refine met_i (cc := cX2_has) (nL := 2) (ret := (some .boolean)) (own := RX2) (by decide) rfl rfl (Nat.le_of_ble_eq_true rfl) ?_
  intro p e s m args below meth c A G hr hlocks
  unfold fX2_has at hf
  show Wk p l e (headSpec wsX2_has rmX2_has).room s m args below meth c D cI cZ ad A 2 0 0 (QI below D cI cZ ad A args s r M) M 0 [(0, .ref (ad 1)), (1, .int x1)] []
  refine wk_iload_n G 1 dX2_has_0 rfl rfl ?_
  refine wk_if_lt (tgt := 16) G dX2_has_1 (by decide) (fun c1 => ?_) (fun c1 => ?_)
  · replace hf := it_t c1 hf
    refine wk_iconst (v := (0 : Int32)) G dX2_has_16 (by decide) ?_
    exact wk_rz G hr hlocks (Or.inl rfl) dX2_has_17 (congrArg (fun z => (z, M)) (Option.some.inj hf))
  · replace hf := it_f c1 hf
    refine wk_iload_n G 1 dX2_has_4 rfl rfl ?_
    refine wk_aload_n G 0 dX2_has_5 rfl rfl ?_
    refine wk_get (ci := 2) (v := .int (M 1 0)) G iX2_has_X2 1 (by decide) (ck1 cI cZ ad (M 1)) rfl 0 (Nat.le_of_ble_eq_true rfl) kX2_has_21 rfl dX2_has_6 ?_
    refine wk_icmp_ge (tgt := 16) G dX2_has_9 (by decide) (fun c2 => ?_) (fun c2 => ?_)
    · replace hf := it_t c2 hf
      refine wk_iconst (v := (0 : Int32)) G dX2_has_16 (by decide) ?_
      exact wk_rz G hr hlocks (Or.inl rfl) dX2_has_17 (congrArg (fun z => (z, M)) (Option.some.inj hf))
    · replace hf := it_f c2 hf
      refine wk_iconst (v := (1 : Int32)) G dX2_has_12 (by decide) ?_
      refine wk_goto (tgt := 17) G dX2_has_13 (by decide) ?_
      exact wk_rz G hr hlocks (Or.inr rfl) dX2_has_17 (congrArg (fun z => (z, M)) (Option.some.inj hf))
def fX2_hasAllOf (x1 : Int32) (M : Mem) : Option Int32 := if (x1 &&& (-((1 : Int32) <<< ((M 1 0) &&& 31)))) = 0 then (some (1 : Int32)) else (some (0 : Int32))
theorem iX2_hasAllOf_X2 : ∀ w ∈ wsX20, w ∈ wsX2_hasAllOf := by decide +kernel
theorem kX2_hasAllOf_21 : Cond.fieldLink RX2 21 "PartitionPlay$Net" "size" "I" ∈ wsX2_hasAllOf := by decide +kernel
abbrev rmX2_hasAllOf : Room := { frames := 0, cells := 0, slots := 0, locals := 0 }
set_option maxRecDepth 100000 in
set_option maxHeartbeats 4000000 in
theorem c_X2_hasAllOf (l : Launch) (D : va_G) (cI cZ : ClassId) (ad : Nat → Nat) (x1 : Int32) (M : Mem) (r : Int32) (hf : fX2_hasAllOf x1 M = some r) : MetI l yX2_hasAllOf wsX2_hasAllOf rmX2_hasAllOf D cI cZ ad [.ref (ad 1), .int x1] M r M := by
  refine met_i (cc := cX2_hasAllOf) (nL := 2) (ret := (some .boolean)) (own := RX2) (by decide) rfl rfl (Nat.le_of_ble_eq_true rfl) ?_
  intro p e s m args below meth c A G hr hlocks
  unfold fX2_hasAllOf at hf
  show Wk p l e (headSpec wsX2_hasAllOf rmX2_hasAllOf).room s m args below meth c D cI cZ ad A 2 0 0 (QI below D cI cZ ad A args s r M) M 0 [(0, .ref (ad 1)), (1, .int x1)] []
  refine wk_iload_n G 1 dX2_hasAllOf_0 rfl rfl ?_
  refine wk_iconst (v := (1 : Int32)) G dX2_hasAllOf_1 (by decide) ?_
  refine wk_aload_n G 0 dX2_hasAllOf_2 rfl rfl ?_
  refine wk_get (ci := 2) (v := .int (M 1 0)) G iX2_hasAllOf_X2 1 (by decide) (ck1 cI cZ ad (M 1)) rfl 0 (Nat.le_of_ble_eq_true rfl) kX2_hasAllOf_21 rfl dX2_hasAllOf_3 ?_
  refine wk_ishl G dX2_hasAllOf_6 ?_
  refine wk_ineg G dX2_hasAllOf_7 ?_
  refine wk_iand G dX2_hasAllOf_8 ?_
  refine wk_if_ne (tgt := 16) G dX2_hasAllOf_9 (by decide) (fun c1 => ?_) (fun c1 => ?_)
  · replace hf := it_f c1 hf
    refine wk_iconst (v := (0 : Int32)) G dX2_hasAllOf_16 (by decide) ?_
    exact wk_rz G hr hlocks (Or.inl rfl) dX2_hasAllOf_17 (congrArg (fun z => (z, M)) (Option.some.inj hf))
  · replace hf := it_t c1 hf
    refine wk_iconst (v := (1 : Int32)) G dX2_hasAllOf_12 (by decide) ?_
    refine wk_goto (tgt := 17) G dX2_hasAllOf_13 (by decide) ?_
    exact wk_rz G hr hlocks (Or.inr rfl) dX2_hasAllOf_17 (congrArg (fun z => (z, M)) (Option.some.inj hf))
def fX2_isMoreThanHalf (x1 : Int32) (M : Mem) : Option Int32 := if ((2 : Int32) * x1) ≤ (M 1 0) then (some (0 : Int32)) else (some (1 : Int32))
theorem iX2_isMoreThanHalf_X2 : ∀ w ∈ wsX20, w ∈ wsX2_isMoreThanHalf := by decide +kernel
theorem kX2_isMoreThanHalf_21 : Cond.fieldLink RX2 21 "PartitionPlay$Net" "size" "I" ∈ wsX2_isMoreThanHalf := by decide +kernel
abbrev rmX2_isMoreThanHalf : Room := { frames := 0, cells := 0, slots := 0, locals := 0 }
set_option maxRecDepth 100000 in
set_option maxHeartbeats 4000000 in
theorem c_X2_isMoreThanHalf (l : Launch) (D : va_G) (cI cZ : ClassId) (ad : Nat → Nat) (x1 : Int32) (M : Mem) (r : Int32) (hf : fX2_isMoreThanHalf x1 M = some r) : MetI l yX2_isMoreThanHalf wsX2_isMoreThanHalf rmX2_isMoreThanHalf D cI cZ ad [.ref (ad 1), .int x1] M r M := by
  refine met_i (cc := cX2_isMoreThanHalf) (nL := 2) (ret := (some .boolean)) (own := RX2) (by decide) rfl rfl (Nat.le_of_ble_eq_true rfl) ?_
  intro p e s m args below meth c A G hr hlocks
  unfold fX2_isMoreThanHalf at hf
  show Wk p l e (headSpec wsX2_isMoreThanHalf rmX2_isMoreThanHalf).room s m args below meth c D cI cZ ad A 2 0 0 (QI below D cI cZ ad A args s r M) M 0 [(0, .ref (ad 1)), (1, .int x1)] []
  refine wk_iconst (v := (2 : Int32)) G dX2_isMoreThanHalf_0 (by decide) ?_
  refine wk_iload_n G 1 dX2_isMoreThanHalf_1 rfl rfl ?_
  refine wk_imul G dX2_isMoreThanHalf_2 ?_
  refine wk_aload_n G 0 dX2_isMoreThanHalf_3 rfl rfl ?_
  refine wk_get (ci := 2) (v := .int (M 1 0)) G iX2_isMoreThanHalf_X2 1 (by decide) (ck1 cI cZ ad (M 1)) rfl 0 (Nat.le_of_ble_eq_true rfl) kX2_isMoreThanHalf_21 rfl dX2_isMoreThanHalf_4 ?_
  refine wk_icmp_le (tgt := 14) G dX2_isMoreThanHalf_7 (by decide) (fun c1 => ?_) (fun c1 => ?_)
  · replace hf := it_t c1 hf
    refine wk_iconst (v := (0 : Int32)) G dX2_isMoreThanHalf_14 (by decide) ?_
    exact wk_rz G hr hlocks (Or.inl rfl) dX2_isMoreThanHalf_15 (congrArg (fun z => (z, M)) (Option.some.inj hf))
  · replace hf := it_f c1 hf
    refine wk_iconst (v := (1 : Int32)) G dX2_isMoreThanHalf_10 (by decide) ?_
    refine wk_goto (tgt := 15) G dX2_isMoreThanHalf_11 (by decide) ?_
    exact wk_rz G hr hlocks (Or.inr rfl) dX2_isMoreThanHalf_15 (congrArg (fun z => (z, M)) (Option.some.inj hf))
def fX2_heightSaid (x1 : Int32) (x2 : Int32) (M : Mem) : Option Int32 := gd x1 6 (nm ((M 2 (Int32.toNatClampNeg x1))) fun (v2 : Int32) => if v2 = (1 : Int32) then (some (x2 + (3 : Int32))) else if v2 = (3 : Int32) then (some (0 : Int32)) else (some x2))
theorem iX2_heightSaid_X2 : ∀ w ∈ wsX20, w ∈ wsX2_heightSaid := by decide +kernel
theorem kX2_heightSaid_9 : Cond.fieldLink RX2 9 "PartitionPlay$Net" "behaviours" "[I" ∈ wsX2_heightSaid := by decide +kernel
abbrev rmX2_heightSaid : Room := { frames := 0, cells := 0, slots := 0, locals := 0 }
set_option maxRecDepth 100000 in
set_option maxHeartbeats 4000000 in
theorem c_X2_heightSaid (l : Launch) (D : va_G) (cI cZ : ClassId) (ad : Nat → Nat) (x1 : Int32) (x2 : Int32) (M : Mem) (r : Int32) (hf : fX2_heightSaid x1 x2 M = some r) : MetI l yX2_heightSaid wsX2_heightSaid rmX2_heightSaid D cI cZ ad [.ref (ad 1), .int x1, .int x2] M r M := by
  refine met_i (cc := cX2_heightSaid) (nL := 3) (ret := (some .int)) (own := RX2) (by decide) rfl rfl (Nat.le_of_ble_eq_true rfl) ?_
  intro p e s m args below meth c A G hr hlocks
  unfold fX2_heightSaid at hf
  show Wk p l e (headSpec wsX2_heightSaid rmX2_heightSaid).room s m args below meth c D cI cZ ad A 3 0 0 (QI below D cI cZ ad A args s r M) M 0 [(0, .ref (ad 1)), (1, .int x1), (2, .int x2)] []
  refine wk_aload_n G 0 dX2_heightSaid_0 rfl rfl ?_
  refine wk_get (ci := 2) (v := .ref (ad 2)) G iX2_heightSaid_X2 1 (by decide) (ck1 cI cZ ad (M 1)) rfl 1 (Nat.le_of_ble_eq_true rfl) kX2_heightSaid_9 rfl dX2_heightSaid_1 ?_
  refine wk_iload_n G 1 dX2_heightSaid_4 rfl rfl ?_
  obtain ⟨h1, hf⟩ := gd_of hf
  refine wk_iald G 2 (by decide) (ck2 cI cZ ad) h1 dX2_heightSaid_5 ?_
  obtain ⟨v2, ev2, hf⟩ := nm_ex hf
  refine wk_nme ev2 ?_
  by_cases c3_0 : v2 = (1 : Int32)
  · replace hf := it_t c3_0 hf
    refine wk_lookup (off := 26) (tgt := 32) G dX2_heightSaid_6 (by decide) (by rw [c3_0]; rfl) (by decide) ?_
    refine wk_iload_n G 2 dX2_heightSaid_32 rfl rfl ?_
    refine wk_iconst (v := (3 : Int32)) G dX2_heightSaid_33 (by decide) ?_
    refine wk_iadd G dX2_heightSaid_34 ?_
    exact wk_ri G hr hlocks dX2_heightSaid_35 (congrArg (fun z => (z, M)) (Option.some.inj hf))
  · replace hf := it_f c3_0 hf
    by_cases c3_1 : v2 = (3 : Int32)
    · replace hf := it_t c3_1 hf
      refine wk_lookup (off := 30) (tgt := 36) G dX2_heightSaid_6 (by decide) (by rw [c3_1]; rfl) (by decide) ?_
      refine wk_iconst (v := (0 : Int32)) G dX2_heightSaid_36 (by decide) ?_
      exact wk_ri G hr hlocks dX2_heightSaid_37 (congrArg (fun z => (z, M)) (Option.some.inj hf))
    · replace hf := it_f c3_1 hf
      have nc3_0 : ¬ v2.toInt = 1 := sw_ne c3_0
      have nc3_1 : ¬ v2.toInt = 3 := sw_ne c3_1
      refine wk_lookup (off := 32) (tgt := 38) G dX2_heightSaid_6 (by decide) (by simp [Op.lookupswitch.offset, Ne.symm nc3_0, Ne.symm nc3_1]) (by decide) ?_
      refine wk_iload_n G 2 dX2_heightSaid_38 rfl rfl ?_
      exact wk_ri G hr hlocks dX2_heightSaid_39 (congrArg (fun z => (z, M)) (Option.some.inj hf))
def fX3_begin (b : Nat) (M : Mem) : Option Mem := (fJ7_fill_53178 (b + 11) 36 (0 : Int32) M).bind (fun (M1 : Mem) => (loop fu (un2 fun (v3 : Int32) (M4 : Mem) => (if (M4 1 0) ≤ v3 then (some (.inr M4)) else (gd v3 6 (nm (st M4 (b + 7) (Int32.toNatClampNeg v3) (0 : Int32)) fun (M7 : Mem) => gd v3 6 (gd v3 6 (nm (st M7 (b + 8) (Int32.toNatClampNeg v3) (M7 4 (Int32.toNatClampNeg v3))) fun (M10 : Mem) => gd v3 6 (nm (st M10 (b + 9) (Int32.toNatClampNeg v3) (vp_nar .boolean (1 : Int32))) fun (M12 : Mem) => nm (v3 + (1 : Int32)) fun (v13 : Int32) => some (.inl (v13, M12))))))) : Option ((Int32 × Mem) ⊕ (Mem)))) ((0 : Int32), M1)).bind (un1 fun (M14 : Mem) => nm (st M14 (b + 6) 6 (0 : Int32)) fun (M15 : Mem) => some M15))
theorem iX3_begin_X2 : ∀ w ∈ wsX20, w ∈ wsX3_begin := by decide +kernel
theorem iX3_begin_X3 : ∀ w ∈ wsX30, w ∈ wsX3_begin := by decide +kernel
theorem kX3_begin_9 : Cond.fieldLink RX3 9 "PartitionPlay$Nodes" "heights" "[I" ∈ wsX3_begin := by decide +kernel
theorem kX3_begin_15 : Cond.fieldLink RX3 15 "PartitionPlay$Nodes" "known" "[I" ∈ wsX3_begin := by decide +kernel
theorem kX3_begin_18 : Cond.fieldLink RX3 18 "PartitionPlay$Nodes" "up" "[Z" ∈ wsX3_begin := by decide +kernel
theorem kX3_begin_25 : Cond.fieldLink RX3 25 "PartitionPlay$Nodes" "shown" "[I" ∈ wsX3_begin := by decide +kernel
theorem kX3_begin_28 : Cond.fieldLink RX3 28 "PartitionPlay$Nodes" "net" "LPartitionPlay$Net;" ∈ wsX3_begin := by decide +kernel
theorem kX3_begin_38 : Cond.fieldLink RX3 38 "PartitionPlay$Net" "size" "I" ∈ wsX3_begin := by decide +kernel
theorem kX3_begin_44 : Cond.fieldLink RX3 44 "PartitionPlay$Net" "rumours" "[I" ∈ wsX3_begin := by decide +kernel
theorem kX3_begin_47 : Cond.fieldLink RX3 47 "PartitionPlay$Nodes" "group" "I" ∈ wsX3_begin := by decide +kernel
abbrev rmX3_begin : Room := { frames := 1, cells := 0, slots := 0, locals := 23 }
set_option maxRecDepth 100000 in
set_option maxHeartbeats 4000000 in
theorem c_X3_begin (l : Launch) (D : va_G) (cI cZ : ClassId) (ad : Nat → Nat) (b : Nat) (hb : b = 12 ∨ b = 34) (M : Mem) (M' : Mem) (hf : fX3_begin b M = some M') : MetV l yX3_begin wsX3_begin rmX3_begin D cI cZ ad [.ref (ad (b + 6))] M M' := by
  refine met_v (cc := cX3_begin) (nL := 2) (ret := none) (own := RX3) (by decide) rfl rfl (Nat.le_of_ble_eq_true rfl) ?_
  intro p e s m args below meth c A G hr hlocks
  unfold fX3_begin at hf
  show Wk p l e (headSpec wsX3_begin rmX3_begin).room s m args below meth c D cI cZ ad A 2 0 0 (QV below D cI cZ ad A args s M') M 0 [(0, .ref (ad (b + 6)))] []
  refine wk_aload_n G 0 dX3_begin_0 rfl rfl ?_
  refine wk_get (ci := 3) (v := .ref (ad (b + 11))) G iX3_begin_X3 (b + 6) (lb hb (by decide)) (ckb6 cI cZ ad hb (M (b + 6))) rfl 5 (Nat.le_of_ble_eq_true rfl) kX3_begin_25 rfl dX3_begin_1 ?_
  refine wk_iconst (v := (0 : Int32)) G dX3_begin_4 (by decide) ?_
  obtain ⟨M1, q2, hf⟩ := bd_of hf
  refine wk_callSv (As := [.ref (ad (b + 11)), .int (0 : Int32)]) (rest := []) G (c_J7_fill_53178 l D cI cZ ad (b + 11) 36 (lb hb (by decide)) (ckb11 cI cZ ad hb) (0 : Int32) M M1 q2) (va_cwS 2 G.2.2.2.2.1 gX3_begin_J7_fill_53178 rfl rfl rfl (by decide +kernel) ⟨Nat.le_of_ble_eq_true rfl, Nat.le_of_ble_eq_true rfl⟩) rfl rfl (Nat.le_of_ble_eq_true rfl) dX3_begin_5 ⟨Nat.le_of_ble_eq_true rfl, Nat.le_of_ble_eq_true rfl⟩ ?_
  refine wk_iconst (v := (0 : Int32)) G dX3_begin_8 (by decide) ?_
  refine wk_istore_n (lv' := [(1, .int (0 : Int32)), (0, .ref (ad (b + 6)))]) G dX3_begin_9 rfl (by decide) rfl ?_
  refine wk_sub [1, 0] rfl ?_
  obtain ⟨q16, q17, hf⟩ := bd_of hf
  have Cq16 : (up1 fun (M14 : Mem) => Wk p l e (headSpec wsX3_begin rmX3_begin).room s m args below meth c D cI cZ ad A 2 0 0 (QV below D cI cZ ad A args s M') M14 56 [(0, .ref (ad (b + 6)))] []) q16 := by
    obtain ⟨M14, rfl⟩ : ∃ z, z = q16 := ⟨_, rfl⟩
    replace hf := un1_of hf
    show Wk p l e (headSpec wsX3_begin rmX3_begin).room s m args below meth c D cI cZ ad A 2 0 0 (QV below D cI cZ ad A args s M') M14 56 [(0, .ref (ad (b + 6)))] []
    refine wk_aload_n G 0 dX3_begin_56 rfl rfl ?_
    refine wk_iconst (v := (0 : Int32)) G dX3_begin_57 (by decide) ?_
    obtain ⟨M15, eM15, hf⟩ := nm_ex hf
    refine wk_put (ci := 3) G iX3_begin_X3 tyX3 tyX3_ok nmX3 (b + 6) (lb hb (by decide)) (ckb6 cI cZ ad hb (M14 (b + 6))) rfl 6 (Nat.le_of_ble_eq_true rfl) kX3_begin_47 rfl (by decide +kernel) (Nat.le_of_ble_eq_true rfl) (cpb6_6 cI cZ ad hb (M14 (b + 6)) (0 : Int32)) dX3_begin_58 eM15 ?_
    exact wk_rv G hr hlocks dX3_begin_61 (Option.some.inj hf)
  have Lq16 : (up2 fun (v3 : Int32) (M4 : Mem) => Wk p l e (headSpec wsX3_begin rmX3_begin).room s m args below meth c D cI cZ ad A 2 0 0 (QV below D cI cZ ad A args s M') M4 10 [(0, .ref (ad (b + 6))), (1, .int v3)] []) ((0 : Int32), M1) := by
    refine loop_P (C := (up1 fun (M14 : Mem) => Wk p l e (headSpec wsX3_begin rmX3_begin).room s m args below meth c D cI cZ ad A 2 0 0 (QV below D cI cZ ad A args s M') M14 56 [(0, .ref (ad (b + 6)))] [])) ?_ fu ((0 : Int32), M1) q16 q17 Cq16
    clear hf Cq16 q17
    rintro ⟨v3, M4⟩ o hf hI hE
    replace hf := un2_of hf
    show Wk p l e (headSpec wsX3_begin rmX3_begin).room s m args below meth c D cI cZ ad A 2 0 0 (QV below D cI cZ ad A args s M') M4 10 [(0, .ref (ad (b + 6))), (1, .int v3)] []
    refine wk_iload_n G 1 dX3_begin_10 rfl rfl ?_
    refine wk_aload_n G 0 dX3_begin_11 rfl rfl ?_
    refine wk_get (ci := 3) (v := .ref (ad 1)) G iX3_begin_X3 (b + 6) (lb hb (by decide)) (ckb6 cI cZ ad hb (M4 (b + 6))) rfl 0 (Nat.le_of_ble_eq_true rfl) kX3_begin_28 rfl dX3_begin_12 ?_
    refine wk_get (ci := 2) (v := .int (M4 1 0)) G iX3_begin_X2 1 (by decide) (ck1 cI cZ ad (M4 1)) rfl 0 (Nat.le_of_ble_eq_true rfl) kX3_begin_38 rfl dX3_begin_15 ?_
    refine wk_icmp_ge (tgt := 56) G dX3_begin_18 (by decide) (fun c5 => ?_) (fun c5 => ?_)
    · replace hf := it_t c5 hf
      refine wk_sub [0] rfl ?_
      exact hE _ (Option.some.inj hf).symm
    · replace hf := it_f c5 hf
      refine wk_aload_n G 0 dX3_begin_21 rfl rfl ?_
      refine wk_get (ci := 3) (v := .ref (ad (b + 7))) G iX3_begin_X3 (b + 6) (lb hb (by decide)) (ckb6 cI cZ ad hb (M4 (b + 6))) rfl 1 (Nat.le_of_ble_eq_true rfl) kX3_begin_9 rfl dX3_begin_22 ?_
      refine wk_iload_n G 1 dX3_begin_25 rfl rfl ?_
      refine wk_iconst (v := (0 : Int32)) G dX3_begin_26 (by decide) ?_
      obtain ⟨h6, hf⟩ := gd_of hf
      obtain ⟨M7, eM7, hf⟩ := nm_ex hf
      refine wk_iast G (b + 7) (lb hb (by decide)) (ckb7 cI cZ ad hb) h6 dX3_begin_27 eM7 ?_
      refine wk_aload_n G 0 dX3_begin_28 rfl rfl ?_
      refine wk_get (ci := 3) (v := .ref (ad (b + 8))) G iX3_begin_X3 (b + 6) (lb hb (by decide)) (ckb6 cI cZ ad hb (M7 (b + 6))) rfl 2 (Nat.le_of_ble_eq_true rfl) kX3_begin_15 rfl dX3_begin_29 ?_
      refine wk_iload_n G 1 dX3_begin_32 rfl rfl ?_
      refine wk_aload_n G 0 dX3_begin_33 rfl rfl ?_
      refine wk_get (ci := 3) (v := .ref (ad 1)) G iX3_begin_X3 (b + 6) (lb hb (by decide)) (ckb6 cI cZ ad hb (M7 (b + 6))) rfl 0 (Nat.le_of_ble_eq_true rfl) kX3_begin_28 rfl dX3_begin_34 ?_
      refine wk_get (ci := 2) (v := .ref (ad 4)) G iX3_begin_X2 1 (by decide) (ck1 cI cZ ad (M7 1)) rfl 3 (Nat.le_of_ble_eq_true rfl) kX3_begin_44 rfl dX3_begin_37 ?_
      refine wk_iload_n G 1 dX3_begin_40 rfl rfl ?_
      obtain ⟨h8, hf⟩ := gd_of hf
      refine wk_iald G 4 (by decide) (ck4 cI cZ ad) h8 dX3_begin_41 ?_
      obtain ⟨h9, hf⟩ := gd_of hf
      obtain ⟨M10, eM10, hf⟩ := nm_ex hf
      refine wk_iast G (b + 8) (lb hb (by decide)) (ckb8 cI cZ ad hb) h9 dX3_begin_42 eM10 ?_
      refine wk_aload_n G 0 dX3_begin_43 rfl rfl ?_
      refine wk_get (ci := 3) (v := .ref (ad (b + 9))) G iX3_begin_X3 (b + 6) (lb hb (by decide)) (ckb6 cI cZ ad hb (M10 (b + 6))) rfl 3 (Nat.le_of_ble_eq_true rfl) kX3_begin_18 rfl dX3_begin_44 ?_
      refine wk_iload_n G 1 dX3_begin_47 rfl rfl ?_
      refine wk_iconst (v := (1 : Int32)) G dX3_begin_48 (by decide) ?_
      obtain ⟨h11, hf⟩ := gd_of hf
      obtain ⟨M12, eM12, hf⟩ := nm_ex hf
      refine wk_zast G (b + 9) (lb hb (by decide)) (ckb9 cI cZ ad hb) h11 dX3_begin_49 eM12 ?_
      obtain ⟨v13, ev13, hf⟩ := nm_ex hf
      refine wk_iinc (v := v13) (lv' := [(1, .int v13), (0, .ref (ad (b + 6)))]) G 1 dX3_begin_50 rfl (by rw [ev13]; rfl) (by decide) rfl ?_
      refine wk_goto (tgt := 10) G dX3_begin_53 (by decide) ?_
      refine wk_sub [1, 0] rfl ?_
      exact hI _ (Option.some.inj hf).symm
  exact Lq16
def fX6_pair (x0 : Int32) (x1 : Int32) : Option Int32 := some ((x0 * (6 : Int32)) + x1)
abbrev rmX6_pair : Room := { frames := 0, cells := 0, slots := 0, locals := 0 }
set_option maxRecDepth 100000 in
set_option maxHeartbeats 4000000 in
theorem c_X6_pair (l : Launch) (D : va_G) (cI cZ : ClassId) (ad : Nat → Nat) (x0 : Int32) (x1 : Int32) (M : Mem) (r : Int32) (hf : fX6_pair x0 x1 = some r) : MetI l yX6_pair wsX6_pair rmX6_pair D cI cZ ad [.int x0, .int x1] M r M := by
  refine met_i (cc := cX6_pair) (nL := 2) (ret := (some .int)) (own := RX6) (by decide) rfl rfl (Nat.le_of_ble_eq_true rfl) ?_
  intro p e s m args below meth c A G hr hlocks
  unfold fX6_pair at hf
  show Wk p l e (headSpec wsX6_pair rmX6_pair).room s m args below meth c D cI cZ ad A 2 0 0 (QI below D cI cZ ad A args s r M) M 0 [(0, .int x0), (1, .int x1)] []
  refine wk_iload_n G 0 dX6_pair_0 rfl rfl ?_
  refine wk_bipush (v := (6 : Int32)) G dX6_pair_1 (by decide) ?_
  refine wk_imul G dX6_pair_3 ?_
  refine wk_iload_n G 1 dX6_pair_4 rfl rfl ?_
  refine wk_iadd G dX6_pair_5 ?_
  exact wk_ri G hr hlocks dX6_pair_6 (congrArg (fun z => (z, M)) (Option.some.inj hf))
def fX3_forgetShown (b : Nat) (x1 : Int32) (M : Mem) : Option Mem := (loop fu (un2 fun (v1 : Int32) (M2 : Mem) => (if (M2 1 0) ≤ v1 then (some (.inr M2)) else ((fX6_pair x1 v1).bind (fun (r4 : Int32) => gd r4 36 (nm (st M2 (b + 11) (Int32.toNatClampNeg r4) (0 : Int32)) fun (M7 : Mem) => nm (v1 + (1 : Int32)) fun (v8 : Int32) => some (.inl (v8, M7))))) : Option ((Int32 × Mem) ⊕ (Mem)))) ((0 : Int32), M)).bind (un1 fun (M9 : Mem) => some M9)
theorem iX3_forgetShown_X2 : ∀ w ∈ wsX20, w ∈ wsX3_forgetShown := by decide +kernel
theorem iX3_forgetShown_X3 : ∀ w ∈ wsX30, w ∈ wsX3_forgetShown := by decide +kernel
theorem kX3_forgetShown_25 : Cond.fieldLink RX3 25 "PartitionPlay$Nodes" "shown" "[I" ∈ wsX3_forgetShown := by decide +kernel
theorem kX3_forgetShown_28 : Cond.fieldLink RX3 28 "PartitionPlay$Nodes" "net" "LPartitionPlay$Net;" ∈ wsX3_forgetShown := by decide +kernel
theorem kX3_forgetShown_38 : Cond.fieldLink RX3 38 "PartitionPlay$Net" "size" "I" ∈ wsX3_forgetShown := by decide +kernel
abbrev rmX3_forgetShown : Room := { frames := 1, cells := 0, slots := 0, locals := 21 }
set_option maxRecDepth 100000 in
set_option maxHeartbeats 4000000 in
theorem c_X3_forgetShown (l : Launch) (D : va_G) (cI cZ : ClassId) (ad : Nat → Nat) (b : Nat) (hb : b = 12 ∨ b = 34) (x1 : Int32) (M : Mem) (M' : Mem) (hf : fX3_forgetShown b x1 M = some M') : MetV l yX3_forgetShown wsX3_forgetShown rmX3_forgetShown D cI cZ ad [.ref (ad (b + 6)), .int x1] M M' := by
  refine met_v (cc := cX3_forgetShown) (nL := 3) (ret := none) (own := RX3) (by decide) rfl rfl (Nat.le_of_ble_eq_true rfl) ?_
  intro p e s m args below meth c A G hr hlocks
  unfold fX3_forgetShown at hf
  show Wk p l e (headSpec wsX3_forgetShown rmX3_forgetShown).room s m args below meth c D cI cZ ad A 3 0 0 (QV below D cI cZ ad A args s M') M 0 [(0, .ref (ad (b + 6))), (1, .int x1)] []
  refine wk_iconst (v := (0 : Int32)) G dX3_forgetShown_0 (by decide) ?_
  refine wk_istore_n (lv' := [(2, .int (0 : Int32)), (0, .ref (ad (b + 6))), (1, .int x1)]) G dX3_forgetShown_1 rfl (by decide) rfl ?_
  refine wk_sub [1, 2, 0] rfl ?_
  obtain ⟨q10, q11, hf⟩ := bd_of hf
  have Cq10 : (up1 fun (M9 : Mem) => Wk p l e (headSpec wsX3_forgetShown rmX3_forgetShown).room s m args below meth c D cI cZ ad A 3 0 0 (QV below D cI cZ ad A args s M') M9 30 [] []) q10 := by
    obtain ⟨M9, rfl⟩ : ∃ z, z = q10 := ⟨_, rfl⟩
    replace hf := un1_of hf
    show Wk p l e (headSpec wsX3_forgetShown rmX3_forgetShown).room s m args below meth c D cI cZ ad A 3 0 0 (QV below D cI cZ ad A args s M') M9 30 [] []
    exact wk_rv G hr hlocks dX3_forgetShown_30 (Option.some.inj hf)
  have Lq10 : (up2 fun (v1 : Int32) (M2 : Mem) => Wk p l e (headSpec wsX3_forgetShown rmX3_forgetShown).room s m args below meth c D cI cZ ad A 3 0 0 (QV below D cI cZ ad A args s M') M2 2 [(0, .ref (ad (b + 6))), (1, .int x1), (2, .int v1)] []) ((0 : Int32), M) := by
    refine loop_P (C := (up1 fun (M9 : Mem) => Wk p l e (headSpec wsX3_forgetShown rmX3_forgetShown).room s m args below meth c D cI cZ ad A 3 0 0 (QV below D cI cZ ad A args s M') M9 30 [] [])) ?_ fu ((0 : Int32), M) q10 q11 Cq10
    clear hf Cq10 q11
    rintro ⟨v1, M2⟩ o hf hI hE
    replace hf := un2_of hf
    show Wk p l e (headSpec wsX3_forgetShown rmX3_forgetShown).room s m args below meth c D cI cZ ad A 3 0 0 (QV below D cI cZ ad A args s M') M2 2 [(0, .ref (ad (b + 6))), (1, .int x1), (2, .int v1)] []
    refine wk_iload_n G 2 dX3_forgetShown_2 rfl rfl ?_
    refine wk_aload_n G 0 dX3_forgetShown_3 rfl rfl ?_
    refine wk_get (ci := 3) (v := .ref (ad 1)) G iX3_forgetShown_X3 (b + 6) (lb hb (by decide)) (ckb6 cI cZ ad hb (M2 (b + 6))) rfl 0 (Nat.le_of_ble_eq_true rfl) kX3_forgetShown_28 rfl dX3_forgetShown_4 ?_
    refine wk_get (ci := 2) (v := .int (M2 1 0)) G iX3_forgetShown_X2 1 (by decide) (ck1 cI cZ ad (M2 1)) rfl 0 (Nat.le_of_ble_eq_true rfl) kX3_forgetShown_38 rfl dX3_forgetShown_7 ?_
    refine wk_icmp_ge (tgt := 30) G dX3_forgetShown_10 (by decide) (fun c3 => ?_) (fun c3 => ?_)
    · replace hf := it_t c3 hf
      refine wk_sub [] rfl ?_
      exact hE _ (Option.some.inj hf).symm
    · replace hf := it_f c3 hf
      refine wk_aload_n G 0 dX3_forgetShown_13 rfl rfl ?_
      refine wk_get (ci := 3) (v := .ref (ad (b + 11))) G iX3_forgetShown_X3 (b + 6) (lb hb (by decide)) (ckb6 cI cZ ad hb (M2 (b + 6))) rfl 5 (Nat.le_of_ble_eq_true rfl) kX3_forgetShown_25 rfl dX3_forgetShown_14 ?_
      refine wk_iload_n G 1 dX3_forgetShown_17 rfl rfl ?_
      refine wk_iload_n G 2 dX3_forgetShown_18 rfl rfl ?_
      obtain ⟨r4, q5, hf⟩ := bd_of hf
      refine wk_callNi (As := [.int x1, .int v1]) (rest := [.ref (ad (b + 11))]) G (c_X6_pair l D cI cZ ad x1 v1 M2 r4 q5) ⟨va_cnB 2 G.2.2.2.2.1 gX3_forgetShown_X6_pair_n58 rfl rfl rfl G.2.2.2.2.2.2.2.2.2.2.2.1 (G.2.2.2.2.1 _ (by decide +kernel)) (by decide +kernel) ⟨Nat.le_of_ble_eq_true rfl, Nat.le_of_ble_eq_true rfl⟩, G.2.2.2.2.1 _ (by decide +kernel), trivial⟩ rfl rfl (Nat.le_of_ble_eq_true rfl) dX3_forgetShown_19 ⟨Nat.le_of_ble_eq_true rfl, Nat.le_of_ble_eq_true rfl⟩ ?_
      refine wk_iconst (v := (0 : Int32)) G dX3_forgetShown_22 (by decide) ?_
      obtain ⟨h6, hf⟩ := gd_of hf
      obtain ⟨M7, eM7, hf⟩ := nm_ex hf
      refine wk_iast G (b + 11) (lb hb (by decide)) (ckb11 cI cZ ad hb) h6 dX3_forgetShown_23 eM7 ?_
      obtain ⟨v8, ev8, hf⟩ := nm_ex hf
      refine wk_iinc (v := v8) (lv' := [(2, .int v8), (0, .ref (ad (b + 6))), (1, .int x1)]) G 2 dX3_forgetShown_24 rfl (by rw [ev8]; rfl) (by decide) rfl ?_
      refine wk_goto (tgt := 2) G dX3_forgetShown_27 (by decide) ?_
      refine wk_sub [1, 2, 0] rfl ?_
      exact hI _ (Option.some.inj hf).symm
  exact Lq10
def fX3_meet (b : Nat) (x1 : Int32) (x2 : Int32) (M : Mem) : Option Mem := if x1 = 0 then (nm (st M (b + 6) 6 x2) fun (M21 : Mem) => some M21) else (if x1 = (1 : Int32) then (nm (st M (b + 6) 6 (0 : Int32)) fun (M20 : Mem) => some M20) else (nm (fun (u3 : Unit) => if x1 = (3 : Int32) then ((fX2_has x2 M).bind (fun (r5 : Int32) => if r5 = 0 then (some M) else (gd x2 6 (if (M (b + 9) (Int32.toNatClampNeg x2)) = 0 then (gd x2 6 (nm (st M (b + 9) (Int32.toNatClampNeg x2) (vp_nar .boolean (1 : Int32))) fun (M11 : Mem) => (fX3_forgetShown b x2 M11).bind (fun (M12 : Mem) => some M12))) else (some M))))) else (some M)) fun j51 => if x1 = (2 : Int32) then ((fX2_has x2 M).bind (fun (r15 : Int32) => if r15 = 0 then (j51 ()) else (gd x2 6 (nm (st M (b + 9) (Int32.toNatClampNeg x2) (vp_nar .boolean (0 : Int32))) fun (M19 : Mem) => some M19)))) else (j51 ())))
theorem iX3_meet_X3 : ∀ w ∈ wsX30, w ∈ wsX3_meet := by decide +kernel
theorem kX3_meet_18 : Cond.fieldLink RX3 18 "PartitionPlay$Nodes" "up" "[Z" ∈ wsX3_meet := by decide +kernel
theorem kX3_meet_28 : Cond.fieldLink RX3 28 "PartitionPlay$Nodes" "net" "LPartitionPlay$Net;" ∈ wsX3_meet := by decide +kernel
theorem kX3_meet_47 : Cond.fieldLink RX3 47 "PartitionPlay$Nodes" "group" "I" ∈ wsX3_meet := by decide +kernel
abbrev rmX3_meet : Room := { frames := 2, cells := 0, slots := 0, locals := 43 }
set_option maxRecDepth 100000 in
set_option maxHeartbeats 4000000 in
theorem c_X3_meet (l : Launch) (D : va_G) (cI cZ : ClassId) (ad : Nat → Nat) (b : Nat) (hb : b = 12 ∨ b = 34) (x1 : Int32) (x2 : Int32) (M : Mem) (M' : Mem) (hf : fX3_meet b x1 x2 M = some M') : MetV l yX3_meet wsX3_meet rmX3_meet D cI cZ ad [.ref (ad (b + 6)), .int x1, .int x2] M M' := by
  refine met_v (cc := cX3_meet) (nL := 3) (ret := none) (own := RX3) (by decide) rfl rfl (Nat.le_of_ble_eq_true rfl) ?_
  intro p e s m args below meth c A G hr hlocks
  unfold fX3_meet at hf
  show Wk p l e (headSpec wsX3_meet rmX3_meet).room s m args below meth c D cI cZ ad A 3 0 0 (QV below D cI cZ ad A args s M') M 0 [(0, .ref (ad (b + 6))), (1, .int x1), (2, .int x2)] []
  refine wk_iload_n G 1 dX3_meet_0 rfl rfl ?_
  refine wk_if_ne (tgt := 12) G dX3_meet_1 (by decide) (fun c1 => ?_) (fun c1 => ?_)
  · replace hf := it_f c1 hf
    refine wk_iload_n G 1 dX3_meet_12 rfl rfl ?_
    refine wk_iconst (v := (1 : Int32)) G dX3_meet_13 (by decide) ?_
    refine wk_icmp_ne (tgt := 25) G dX3_meet_14 (by decide) (fun c2 => ?_) (fun c2 => ?_)
    · replace hf := it_f c2 hf
      refine wk_iload_n G 1 dX3_meet_25 rfl rfl ?_
      refine wk_iconst (v := (2 : Int32)) G dX3_meet_26 (by decide) ?_
      obtain ⟨j51, ej51, hf⟩ := nm_ex hf
      have J51 : ∀ (u3 : Unit), j51 u3 = some M' → Wk p l e (headSpec wsX3_meet rmX3_meet).room s m args below meth c D cI cZ ad A 3 0 0 (QV below D cI cZ ad A args s M') M 51 [(0, .ref (ad (b + 6))), (1, .int x1), (2, .int x2)] [] := by
        intro u3 hf
        replace hf := jn1 ej51 hf
        refine wk_iload_n G 1 dX3_meet_51 rfl rfl ?_
        refine wk_iconst (v := (3 : Int32)) G dX3_meet_52 (by decide) ?_
        refine wk_icmp_ne (tgt := 88) G dX3_meet_53 (by decide) (fun c4 => ?_) (fun c4 => ?_)
        · replace hf := it_f c4 hf
          exact wk_rv G hr hlocks dX3_meet_88 (Option.some.inj hf)
        · replace hf := it_t c4 hf
          refine wk_aload_n G 0 dX3_meet_56 rfl rfl ?_
          refine wk_get (ci := 3) (v := .ref (ad 1)) G iX3_meet_X3 (b + 6) (lb hb (by decide)) (ckb6 cI cZ ad hb (M (b + 6))) rfl 0 (Nat.le_of_ble_eq_true rfl) kX3_meet_28 rfl dX3_meet_57 ?_
          refine wk_iload_n G 2 dX3_meet_60 rfl rfl ?_
          obtain ⟨r5, q6, hf⟩ := bd_of hf
          refine wk_callVi (As := [.int x2]) (rest := []) (ci := 2) G 1 (by decide) (c_X2_has l D cI cZ ad x2 M r5 q6) (cwV 1 G.2.2.2.2.1 gX3_meet_X2_has rfl rfl rfl (by decide +kernel) ⟨Nat.le_of_ble_eq_true rfl, Nat.le_of_ble_eq_true rfl⟩) (ck1 cI cZ ad (M 1)) rfl rfl rfl (Nat.le_of_ble_eq_true rfl) dX3_meet_61 ⟨Nat.le_of_ble_eq_true rfl, Nat.le_of_ble_eq_true rfl⟩ ?_
          refine wk_if_eq (tgt := 88) G dX3_meet_64 (by decide) (fun c7 => ?_) (fun c7 => ?_)
          · replace hf := it_t c7 hf
            exact wk_rv G hr hlocks dX3_meet_88 (Option.some.inj hf)
          · replace hf := it_f c7 hf
            refine wk_aload_n G 0 dX3_meet_67 rfl rfl ?_
            refine wk_get (ci := 3) (v := .ref (ad (b + 9))) G iX3_meet_X3 (b + 6) (lb hb (by decide)) (ckb6 cI cZ ad hb (M (b + 6))) rfl 3 (Nat.le_of_ble_eq_true rfl) kX3_meet_18 rfl dX3_meet_68 ?_
            refine wk_iload_n G 2 dX3_meet_71 rfl rfl ?_
            obtain ⟨h8, hf⟩ := gd_of hf
            refine wk_zald G (b + 9) (lb hb (by decide)) (ckb9 cI cZ ad hb) h8 dX3_meet_72 ?_
            refine wk_if_ne (tgt := 88) G dX3_meet_73 (by decide) (fun c9 => ?_) (fun c9 => ?_)
            · replace hf := it_f c9 hf
              exact wk_rv G hr hlocks dX3_meet_88 (Option.some.inj hf)
            · replace hf := it_t c9 hf
              refine wk_aload_n G 0 dX3_meet_76 rfl rfl ?_
              refine wk_get (ci := 3) (v := .ref (ad (b + 9))) G iX3_meet_X3 (b + 6) (lb hb (by decide)) (ckb6 cI cZ ad hb (M (b + 6))) rfl 3 (Nat.le_of_ble_eq_true rfl) kX3_meet_18 rfl dX3_meet_77 ?_
              refine wk_iload_n G 2 dX3_meet_80 rfl rfl ?_
              refine wk_iconst (v := (1 : Int32)) G dX3_meet_81 (by decide) ?_
              obtain ⟨h10, hf⟩ := gd_of hf
              obtain ⟨M11, eM11, hf⟩ := nm_ex hf
              refine wk_zast G (b + 9) (lb hb (by decide)) (ckb9 cI cZ ad hb) h10 dX3_meet_82 eM11 ?_
              refine wk_aload_n G 0 dX3_meet_83 rfl rfl ?_
              refine wk_iload_n G 2 dX3_meet_84 rfl rfl ?_
              obtain ⟨M12, q13, hf⟩ := bd_of hf
              refine wk_callVv (As := [.int x2]) (rest := []) (ci := 3) G (b + 6) (lb hb (by decide)) (c_X3_forgetShown l D cI cZ ad b hb x2 M11 M12 q13) (cwV 1 G.2.2.2.2.1 gX3_meet_X3_forgetShown rfl rfl rfl (by decide +kernel) ⟨Nat.le_of_ble_eq_true rfl, Nat.le_of_ble_eq_true rfl⟩) (ckb6 cI cZ ad hb (M11 (b + 6))) rfl rfl rfl (Nat.le_of_ble_eq_true rfl) dX3_meet_85 ⟨Nat.le_of_ble_eq_true rfl, Nat.le_of_ble_eq_true rfl⟩ ?_
              exact wk_rv G hr hlocks dX3_meet_88 (Option.some.inj hf)
      refine wk_icmp_ne (tgt := 51) G dX3_meet_27 (by decide) (fun c14 => ?_) (fun c14 => ?_)
      · replace hf := it_f c14 hf
        exact J51 () hf
      · replace hf := it_t c14 hf
        refine wk_aload_n G 0 dX3_meet_30 rfl rfl ?_
        refine wk_get (ci := 3) (v := .ref (ad 1)) G iX3_meet_X3 (b + 6) (lb hb (by decide)) (ckb6 cI cZ ad hb (M (b + 6))) rfl 0 (Nat.le_of_ble_eq_true rfl) kX3_meet_28 rfl dX3_meet_31 ?_
        refine wk_iload_n G 2 dX3_meet_34 rfl rfl ?_
        obtain ⟨r15, q16, hf⟩ := bd_of hf
        refine wk_callVi (As := [.int x2]) (rest := []) (ci := 2) G 1 (by decide) (c_X2_has l D cI cZ ad x2 M r15 q16) (cwV 1 G.2.2.2.2.1 gX3_meet_X2_has rfl rfl rfl (by decide +kernel) ⟨Nat.le_of_ble_eq_true rfl, Nat.le_of_ble_eq_true rfl⟩) (ck1 cI cZ ad (M 1)) rfl rfl rfl (Nat.le_of_ble_eq_true rfl) dX3_meet_35 ⟨Nat.le_of_ble_eq_true rfl, Nat.le_of_ble_eq_true rfl⟩ ?_
        refine wk_if_eq (tgt := 51) G dX3_meet_38 (by decide) (fun c17 => ?_) (fun c17 => ?_)
        · replace hf := it_t c17 hf
          exact J51 () hf
        · replace hf := it_f c17 hf
          refine wk_aload_n G 0 dX3_meet_41 rfl rfl ?_
          refine wk_get (ci := 3) (v := .ref (ad (b + 9))) G iX3_meet_X3 (b + 6) (lb hb (by decide)) (ckb6 cI cZ ad hb (M (b + 6))) rfl 3 (Nat.le_of_ble_eq_true rfl) kX3_meet_18 rfl dX3_meet_42 ?_
          refine wk_iload_n G 2 dX3_meet_45 rfl rfl ?_
          refine wk_iconst (v := (0 : Int32)) G dX3_meet_46 (by decide) ?_
          obtain ⟨h18, hf⟩ := gd_of hf
          obtain ⟨M19, eM19, hf⟩ := nm_ex hf
          refine wk_zast G (b + 9) (lb hb (by decide)) (ckb9 cI cZ ad hb) h18 dX3_meet_47 eM19 ?_
          refine wk_goto (tgt := 88) G dX3_meet_48 (by decide) ?_
          exact wk_rv G hr hlocks dX3_meet_88 (Option.some.inj hf)
    · replace hf := it_t c2 hf
      refine wk_aload_n G 0 dX3_meet_17 rfl rfl ?_
      refine wk_iconst (v := (0 : Int32)) G dX3_meet_18 (by decide) ?_
      obtain ⟨M20, eM20, hf⟩ := nm_ex hf
      refine wk_put (ci := 3) G iX3_meet_X3 tyX3 tyX3_ok nmX3 (b + 6) (lb hb (by decide)) (ckb6 cI cZ ad hb (M (b + 6))) rfl 6 (Nat.le_of_ble_eq_true rfl) kX3_meet_47 rfl (by decide +kernel) (Nat.le_of_ble_eq_true rfl) (cpb6_6 cI cZ ad hb (M (b + 6)) (0 : Int32)) dX3_meet_19 eM20 ?_
      refine wk_goto (tgt := 88) G dX3_meet_22 (by decide) ?_
      exact wk_rv G hr hlocks dX3_meet_88 (Option.some.inj hf)
  · replace hf := it_t c1 hf
    refine wk_aload_n G 0 dX3_meet_4 rfl rfl ?_
    refine wk_iload_n G 2 dX3_meet_5 rfl rfl ?_
    obtain ⟨M21, eM21, hf⟩ := nm_ex hf
    refine wk_put (ci := 3) G iX3_meet_X3 tyX3 tyX3_ok nmX3 (b + 6) (lb hb (by decide)) (ckb6 cI cZ ad hb (M (b + 6))) rfl 6 (Nat.le_of_ble_eq_true rfl) kX3_meet_47 rfl (by decide +kernel) (Nat.le_of_ble_eq_true rfl) (cpb6_6 cI cZ ad hb (M (b + 6)) x2) dX3_meet_6 eM21 ?_
    refine wk_goto (tgt := 88) G dX3_meet_9 (by decide) ?_
    exact wk_rv G hr hlocks dX3_meet_88 (Option.some.inj hf)
def fX3_canReach (b : Nat) (x1 : Int32) (x2 : Int32) (M : Mem) : Option Int32 := gd x2 6 (if (M (b + 9) (Int32.toNatClampNeg x2)) = 0 then (some (0 : Int32)) else (if (((M (b + 6) 6) >>> (x1 &&& 31)) &&& (1 : Int32)) = (((M (b + 6) 6) >>> (x2 &&& 31)) &&& (1 : Int32)) then (some (1 : Int32)) else (some (0 : Int32))))
theorem iX3_canReach_X3 : ∀ w ∈ wsX30, w ∈ wsX3_canReach := by decide +kernel
theorem kX3_canReach_18 : Cond.fieldLink RX3 18 "PartitionPlay$Nodes" "up" "[Z" ∈ wsX3_canReach := by decide +kernel
theorem kX3_canReach_47 : Cond.fieldLink RX3 47 "PartitionPlay$Nodes" "group" "I" ∈ wsX3_canReach := by decide +kernel
abbrev rmX3_canReach : Room := { frames := 0, cells := 0, slots := 0, locals := 0 }
set_option maxRecDepth 100000 in
set_option maxHeartbeats 4000000 in
theorem c_X3_canReach (l : Launch) (D : va_G) (cI cZ : ClassId) (ad : Nat → Nat) (b : Nat) (hb : b = 12 ∨ b = 34) (x1 : Int32) (x2 : Int32) (M : Mem) (r : Int32) (hf : fX3_canReach b x1 x2 M = some r) : MetI l yX3_canReach wsX3_canReach rmX3_canReach D cI cZ ad [.ref (ad (b + 6)), .int x1, .int x2] M r M := by
  refine met_i (cc := cX3_canReach) (nL := 3) (ret := (some .boolean)) (own := RX3) (by decide) rfl rfl (Nat.le_of_ble_eq_true rfl) ?_
  intro p e s m args below meth c A G hr hlocks
  unfold fX3_canReach at hf
  show Wk p l e (headSpec wsX3_canReach rmX3_canReach).room s m args below meth c D cI cZ ad A 3 0 0 (QI below D cI cZ ad A args s r M) M 0 [(0, .ref (ad (b + 6))), (1, .int x1), (2, .int x2)] []
  refine wk_aload_n G 0 dX3_canReach_0 rfl rfl ?_
  refine wk_get (ci := 3) (v := .ref (ad (b + 9))) G iX3_canReach_X3 (b + 6) (lb hb (by decide)) (ckb6 cI cZ ad hb (M (b + 6))) rfl 3 (Nat.le_of_ble_eq_true rfl) kX3_canReach_18 rfl dX3_canReach_1 ?_
  refine wk_iload_n G 2 dX3_canReach_4 rfl rfl ?_
  obtain ⟨h1, hf⟩ := gd_of hf
  refine wk_zald G (b + 9) (lb hb (by decide)) (ckb9 cI cZ ad hb) h1 dX3_canReach_5 ?_
  refine wk_if_eq (tgt := 32) G dX3_canReach_6 (by decide) (fun c2 => ?_) (fun c2 => ?_)
  · replace hf := it_t c2 hf
    refine wk_iconst (v := (0 : Int32)) G dX3_canReach_32 (by decide) ?_
    exact wk_rz G hr hlocks (Or.inl rfl) dX3_canReach_33 (congrArg (fun z => (z, M)) (Option.some.inj hf))
  · replace hf := it_f c2 hf
    refine wk_aload_n G 0 dX3_canReach_9 rfl rfl ?_
    refine wk_get (ci := 3) (v := .int (M (b + 6) 6)) G iX3_canReach_X3 (b + 6) (lb hb (by decide)) (ckb6 cI cZ ad hb (M (b + 6))) rfl 6 (Nat.le_of_ble_eq_true rfl) kX3_canReach_47 rfl dX3_canReach_10 ?_
    refine wk_iload_n G 1 dX3_canReach_13 rfl rfl ?_
    refine wk_ishr G dX3_canReach_14 ?_
    refine wk_iconst (v := (1 : Int32)) G dX3_canReach_15 (by decide) ?_
    refine wk_iand G dX3_canReach_16 ?_
    refine wk_aload_n G 0 dX3_canReach_17 rfl rfl ?_
    refine wk_get (ci := 3) (v := .int (M (b + 6) 6)) G iX3_canReach_X3 (b + 6) (lb hb (by decide)) (ckb6 cI cZ ad hb (M (b + 6))) rfl 6 (Nat.le_of_ble_eq_true rfl) kX3_canReach_47 rfl dX3_canReach_18 ?_
    refine wk_iload_n G 2 dX3_canReach_21 rfl rfl ?_
    refine wk_ishr G dX3_canReach_22 ?_
    refine wk_iconst (v := (1 : Int32)) G dX3_canReach_23 (by decide) ?_
    refine wk_iand G dX3_canReach_24 ?_
    refine wk_icmp_ne (tgt := 32) G dX3_canReach_25 (by decide) (fun c3 => ?_) (fun c3 => ?_)
    · replace hf := it_f c3 hf
      refine wk_iconst (v := (0 : Int32)) G dX3_canReach_32 (by decide) ?_
      exact wk_rz G hr hlocks (Or.inl rfl) dX3_canReach_33 (congrArg (fun z => (z, M)) (Option.some.inj hf))
    · replace hf := it_t c3 hf
      refine wk_iconst (v := (1 : Int32)) G dX3_canReach_28 (by decide) ?_
      refine wk_goto (tgt := 33) G dX3_canReach_29 (by decide) ?_
      exact wk_rz G hr hlocks (Or.inr rfl) dX3_canReach_33 (congrArg (fun z => (z, M)) (Option.some.inj hf))
def fX3_takeIn (b : Nat) (x1 : Int32) (x2 : Int32) (x3 : Int32) (x4 : Int32) (M : Mem) : Option Mem := (fX6_pair x2 x1).bind (fun (r1 : Int32) => gd r1 36 (nm ((if (M (b + 11) (Int32.toNatClampNeg r1)) < x3 then x3 else (M (b + 11) (Int32.toNatClampNeg r1)))) fun (v4 : Int32) => gd r1 36 (nm (st M (b + 11) (Int32.toNatClampNeg r1) v4) fun (M6 : Mem) => gd x2 6 (gd x2 6 (nm (st M6 (b + 8) (Int32.toNatClampNeg x2) ((M6 (b + 8) (Int32.toNatClampNeg x2)) ||| x4)) fun (M9 : Mem) => some M9)))))
theorem iX3_takeIn_X3 : ∀ w ∈ wsX30, w ∈ wsX3_takeIn := by decide +kernel
theorem kX3_takeIn_15 : Cond.fieldLink RX3 15 "PartitionPlay$Nodes" "known" "[I" ∈ wsX3_takeIn := by decide +kernel
theorem kX3_takeIn_25 : Cond.fieldLink RX3 25 "PartitionPlay$Nodes" "shown" "[I" ∈ wsX3_takeIn := by decide +kernel
abbrev rmX3_takeIn : Room := { frames := 1, cells := 0, slots := 0, locals := 21 }
set_option maxRecDepth 100000 in
set_option maxHeartbeats 4000000 in
theorem c_X3_takeIn (l : Launch) (D : va_G) (cI cZ : ClassId) (ad : Nat → Nat) (b : Nat) (hb : b = 12 ∨ b = 34) (x1 : Int32) (x2 : Int32) (x3 : Int32) (x4 : Int32) (M : Mem) (M' : Mem) (hf : fX3_takeIn b x1 x2 x3 x4 M = some M') : MetV l yX3_takeIn wsX3_takeIn rmX3_takeIn D cI cZ ad [.ref (ad (b + 6)), .int x1, .int x2, .int x3, .int x4] M M' := by
  refine met_v (cc := cX3_takeIn) (nL := 6) (ret := none) (own := RX3) (by decide) rfl rfl (Nat.le_of_ble_eq_true rfl) ?_
  intro p e s m args below meth c A G hr hlocks
  unfold fX3_takeIn at hf
  show Wk p l e (headSpec wsX3_takeIn rmX3_takeIn).room s m args below meth c D cI cZ ad A 6 0 0 (QV below D cI cZ ad A args s M') M 0 [(0, .ref (ad (b + 6))), (1, .int x1), (2, .int x2), (3, .int x3), (4, .int x4)] []
  refine wk_iload_n G 2 dX3_takeIn_0 rfl rfl ?_
  refine wk_iload_n G 1 dX3_takeIn_1 rfl rfl ?_
  obtain ⟨r1, q2, hf⟩ := bd_of hf
  refine wk_callNi (As := [.int x2, .int x1]) (rest := []) G (c_X6_pair l D cI cZ ad x2 x1 M r1 q2) ⟨va_cnB 2 G.2.2.2.2.1 gX3_takeIn_X6_pair_n58 rfl rfl rfl G.2.2.2.2.2.2.2.2.2.2.2.1 (G.2.2.2.2.1 _ (by decide +kernel)) (by decide +kernel) ⟨Nat.le_of_ble_eq_true rfl, Nat.le_of_ble_eq_true rfl⟩, G.2.2.2.2.1 _ (by decide +kernel), trivial⟩ rfl rfl (Nat.le_of_ble_eq_true rfl) dX3_takeIn_2 ⟨Nat.le_of_ble_eq_true rfl, Nat.le_of_ble_eq_true rfl⟩ ?_
  refine wk_istore (lv' := [(5, .int r1), (0, .ref (ad (b + 6))), (1, .int x1), (2, .int x2), (3, .int x3), (4, .int x4)]) G dX3_takeIn_5 (by decide) rfl ?_
  refine wk_aload_n G 1 dX3_takeIn_7 rfl rfl ?_
  refine wk_get (ci := 3) (v := .ref (ad (b + 11))) G iX3_takeIn_X3 (b + 6) (lb hb (by decide)) (ckb6 cI cZ ad hb (M (b + 6))) rfl 5 (Nat.le_of_ble_eq_true rfl) kX3_takeIn_25 rfl dX3_takeIn_8 ?_
  refine wk_iload G 0 dX3_takeIn_11 rfl ?_
  refine wk_aload_n G 1 dX3_takeIn_13 rfl rfl ?_
  refine wk_get (ci := 3) (v := .ref (ad (b + 11))) G iX3_takeIn_X3 (b + 6) (lb hb (by decide)) (ckb6 cI cZ ad hb (M (b + 6))) rfl 5 (Nat.le_of_ble_eq_true rfl) kX3_takeIn_25 rfl dX3_takeIn_14 ?_
  refine wk_iload G 0 dX3_takeIn_17 rfl ?_
  obtain ⟨h3, hf⟩ := gd_of hf
  refine wk_iald G (b + 11) (lb hb (by decide)) (ckb11 cI cZ ad hb) h3 dX3_takeIn_19 ?_
  refine wk_iload_n G 4 dX3_takeIn_20 rfl rfl ?_
  refine wk_mmax G (by decide +kernel) (by decide +kernel) (by decide +kernel) (by decide +kernel) (Nat.le_of_ble_eq_true rfl) (Nat.le_of_ble_eq_true rfl) (Nat.zero_le _) (Nat.zero_le _) dX3_takeIn_21 ?_
  obtain ⟨v4, ev4, hf⟩ := nm_ex hf
  refine wk_nme ev4 ?_
  obtain ⟨h5, hf⟩ := gd_of hf
  obtain ⟨M6, eM6, hf⟩ := nm_ex hf
  refine wk_iast G (b + 11) (lb hb (by decide)) (ckb11 cI cZ ad hb) h5 dX3_takeIn_24 eM6 ?_
  refine wk_aload_n G 1 dX3_takeIn_25 rfl rfl ?_
  refine wk_get (ci := 3) (v := .ref (ad (b + 8))) G iX3_takeIn_X3 (b + 6) (lb hb (by decide)) (ckb6 cI cZ ad hb (M6 (b + 6))) rfl 2 (Nat.le_of_ble_eq_true rfl) kX3_takeIn_15 rfl dX3_takeIn_26 ?_
  refine wk_iload_n G 3 dX3_takeIn_29 rfl rfl ?_
  refine wk_dup2 G dX3_takeIn_30 rfl rfl ?_
  obtain ⟨h7, hf⟩ := gd_of hf
  refine wk_iald G (b + 8) (lb hb (by decide)) (ckb8 cI cZ ad hb) h7 dX3_takeIn_31 ?_
  refine wk_iload G 5 dX3_takeIn_32 rfl ?_
  refine wk_ior G dX3_takeIn_34 ?_
  obtain ⟨h8, hf⟩ := gd_of hf
  obtain ⟨M9, eM9, hf⟩ := nm_ex hf
  refine wk_iast G (b + 8) (lb hb (by decide)) (ckb8 cI cZ ad hb) h8 dX3_takeIn_35 eM9 ?_
  exact wk_rv G hr hlocks dX3_takeIn_36 (Option.some.inj hf)
def fX3_thatShowedEnoughTo (b : Nat) (x1 : Int32) (M : Mem) : Option Int32 := (loop fu (un2 fun (v1 : Int32) (v2 : Int32) => (if (M 1 0) ≤ v2 then (some (.inr v1)) else (nm (fun (v4 : Int32) => nm (v2 + (1 : Int32)) fun (v5 : Int32) => some (.inl (v4, v5))) fun j42 => nm (fun (u6 : Unit) => nm (v1 + (1 : Int32)) fun (v7 : Int32) => j42 v7) fun j39 => if v2 = x1 then (j39 ()) else ((fX6_pair x1 v2).bind (fun (r9 : Int32) => gd r9 36 (gd x1 6 (if (M (b + 11) (Int32.toNatClampNeg r9)) < (M (b + 7) (Int32.toNatClampNeg x1)) then (j42 v1) else (j39 ())))))) : Option ((Int32 × Int32) ⊕ (Int32)))) ((0 : Int32), (0 : Int32))).bind (un1 fun (v14 : Int32) => some v14)
theorem iX3_thatShowedEnoughTo_X2 : ∀ w ∈ wsX20, w ∈ wsX3_thatShowedEnoughTo := by decide +kernel
theorem iX3_thatShowedEnoughTo_X3 : ∀ w ∈ wsX30, w ∈ wsX3_thatShowedEnoughTo := by decide +kernel
theorem kX3_thatShowedEnoughTo_9 : Cond.fieldLink RX3 9 "PartitionPlay$Nodes" "heights" "[I" ∈ wsX3_thatShowedEnoughTo := by decide +kernel
theorem kX3_thatShowedEnoughTo_25 : Cond.fieldLink RX3 25 "PartitionPlay$Nodes" "shown" "[I" ∈ wsX3_thatShowedEnoughTo := by decide +kernel
theorem kX3_thatShowedEnoughTo_28 : Cond.fieldLink RX3 28 "PartitionPlay$Nodes" "net" "LPartitionPlay$Net;" ∈ wsX3_thatShowedEnoughTo := by decide +kernel
theorem kX3_thatShowedEnoughTo_38 : Cond.fieldLink RX3 38 "PartitionPlay$Net" "size" "I" ∈ wsX3_thatShowedEnoughTo := by decide +kernel
abbrev rmX3_thatShowedEnoughTo : Room := { frames := 1, cells := 0, slots := 0, locals := 21 }
set_option maxRecDepth 100000 in
set_option maxHeartbeats 4000000 in
theorem c_X3_thatShowedEnoughTo (l : Launch) (D : va_G) (cI cZ : ClassId) (ad : Nat → Nat) (b : Nat) (hb : b = 12 ∨ b = 34) (x1 : Int32) (M : Mem) (r : Int32) (hf : fX3_thatShowedEnoughTo b x1 M = some r) : MetI l yX3_thatShowedEnoughTo wsX3_thatShowedEnoughTo rmX3_thatShowedEnoughTo D cI cZ ad [.ref (ad (b + 6)), .int x1] M r M := by
  refine met_i (cc := cX3_thatShowedEnoughTo) (nL := 4) (ret := (some .int)) (own := RX3) (by decide) rfl rfl (Nat.le_of_ble_eq_true rfl) ?_
  intro p e s m args below meth c A G hr hlocks
  unfold fX3_thatShowedEnoughTo at hf
  show Wk p l e (headSpec wsX3_thatShowedEnoughTo rmX3_thatShowedEnoughTo).room s m args below meth c D cI cZ ad A 4 0 0 (QI below D cI cZ ad A args s r M) M 0 [(0, .ref (ad (b + 6))), (1, .int x1)] []
  refine wk_iconst (v := (0 : Int32)) G dX3_thatShowedEnoughTo_0 (by decide) ?_
  refine wk_istore_n (lv' := [(2, .int (0 : Int32)), (0, .ref (ad (b + 6))), (1, .int x1)]) G dX3_thatShowedEnoughTo_1 rfl (by decide) rfl ?_
  refine wk_iconst (v := (0 : Int32)) G dX3_thatShowedEnoughTo_2 (by decide) ?_
  refine wk_istore_n (lv' := [(3, .int (0 : Int32)), (2, .int (0 : Int32)), (0, .ref (ad (b + 6))), (1, .int x1)]) G dX3_thatShowedEnoughTo_3 rfl (by decide) rfl ?_
  refine wk_sub [2, 3, 1, 0] rfl ?_
  obtain ⟨q15, q16, hf⟩ := bd_of hf
  have Cq15 : (up1 fun (v14 : Int32) => Wk p l e (headSpec wsX3_thatShowedEnoughTo rmX3_thatShowedEnoughTo).room s m args below meth c D cI cZ ad A 4 0 0 (QI below D cI cZ ad A args s r M) M 48 [(2, .int v14)] []) q15 := by
    obtain ⟨v14, rfl⟩ : ∃ z, z = q15 := ⟨_, rfl⟩
    replace hf := un1_of hf
    show Wk p l e (headSpec wsX3_thatShowedEnoughTo rmX3_thatShowedEnoughTo).room s m args below meth c D cI cZ ad A 4 0 0 (QI below D cI cZ ad A args s r M) M 48 [(2, .int v14)] []
    refine wk_iload_n G 0 dX3_thatShowedEnoughTo_48 rfl rfl ?_
    exact wk_ri G hr hlocks dX3_thatShowedEnoughTo_49 (congrArg (fun z => (z, M)) (Option.some.inj hf))
  have Lq15 : (up2 fun (v1 : Int32) (v2 : Int32) => Wk p l e (headSpec wsX3_thatShowedEnoughTo rmX3_thatShowedEnoughTo).room s m args below meth c D cI cZ ad A 4 0 0 (QI below D cI cZ ad A args s r M) M 4 [(0, .ref (ad (b + 6))), (1, .int x1), (2, .int v1), (3, .int v2)] []) ((0 : Int32), (0 : Int32)) := by
    refine loop_P (C := (up1 fun (v14 : Int32) => Wk p l e (headSpec wsX3_thatShowedEnoughTo rmX3_thatShowedEnoughTo).room s m args below meth c D cI cZ ad A 4 0 0 (QI below D cI cZ ad A args s r M) M 48 [(2, .int v14)] [])) ?_ fu ((0 : Int32), (0 : Int32)) q15 q16 Cq15
    clear hf Cq15 q16
    rintro ⟨v1, v2⟩ o hf hI hE
    replace hf := un2_of hf
    show Wk p l e (headSpec wsX3_thatShowedEnoughTo rmX3_thatShowedEnoughTo).room s m args below meth c D cI cZ ad A 4 0 0 (QI below D cI cZ ad A args s r M) M 4 [(0, .ref (ad (b + 6))), (1, .int x1), (2, .int v1), (3, .int v2)] []
    refine wk_iload_n G 3 dX3_thatShowedEnoughTo_4 rfl rfl ?_
    refine wk_aload_n G 0 dX3_thatShowedEnoughTo_5 rfl rfl ?_
    refine wk_get (ci := 3) (v := .ref (ad 1)) G iX3_thatShowedEnoughTo_X3 (b + 6) (lb hb (by decide)) (ckb6 cI cZ ad hb (M (b + 6))) rfl 0 (Nat.le_of_ble_eq_true rfl) kX3_thatShowedEnoughTo_28 rfl dX3_thatShowedEnoughTo_6 ?_
    refine wk_get (ci := 2) (v := .int (M 1 0)) G iX3_thatShowedEnoughTo_X2 1 (by decide) (ck1 cI cZ ad (M 1)) rfl 0 (Nat.le_of_ble_eq_true rfl) kX3_thatShowedEnoughTo_38 rfl dX3_thatShowedEnoughTo_9 ?_
    refine wk_icmp_ge (tgt := 48) G dX3_thatShowedEnoughTo_12 (by decide) (fun c3 => ?_) (fun c3 => ?_)
    · replace hf := it_t c3 hf
      refine wk_sub [2] rfl ?_
      exact hE _ (Option.some.inj hf).symm
    · replace hf := it_f c3 hf
      refine wk_iload_n G 3 dX3_thatShowedEnoughTo_15 rfl rfl ?_
      refine wk_iload_n G 1 dX3_thatShowedEnoughTo_16 rfl rfl ?_
      obtain ⟨j42, ej42, hf⟩ := nm_ex hf
      have J42 : ∀ (v4 : Int32), j42 v4 = some o → Wk p l e (headSpec wsX3_thatShowedEnoughTo rmX3_thatShowedEnoughTo).room s m args below meth c D cI cZ ad A 4 0 0 (QI below D cI cZ ad A args s r M) M 42 [(0, .ref (ad (b + 6))), (1, .int x1), (2, .int v4), (3, .int v2)] [] := by
        intro v4 hf
        replace hf := jn1 ej42 hf
        obtain ⟨v5, ev5, hf⟩ := nm_ex hf
        refine wk_iinc (v := v5) (lv' := [(3, .int v5), (0, .ref (ad (b + 6))), (1, .int x1), (2, .int v4)]) G 3 dX3_thatShowedEnoughTo_42 rfl (by rw [ev5]; rfl) (by decide) rfl ?_
        refine wk_goto (tgt := 4) G dX3_thatShowedEnoughTo_45 (by decide) ?_
        refine wk_sub [1, 2, 3, 0] rfl ?_
        exact hI _ (Option.some.inj hf).symm
      obtain ⟨j39, ej39, hf⟩ := nm_ex hf
      have J39 : ∀ (u6 : Unit), j39 u6 = some o → Wk p l e (headSpec wsX3_thatShowedEnoughTo rmX3_thatShowedEnoughTo).room s m args below meth c D cI cZ ad A 4 0 0 (QI below D cI cZ ad A args s r M) M 39 [(0, .ref (ad (b + 6))), (1, .int x1), (2, .int v1), (3, .int v2)] [] := by
        intro u6 hf
        replace hf := jn1 ej39 hf
        obtain ⟨v7, ev7, hf⟩ := nm_ex hf
        refine wk_iinc (v := v7) (lv' := [(2, .int v7), (0, .ref (ad (b + 6))), (1, .int x1), (3, .int v2)]) G 2 dX3_thatShowedEnoughTo_39 rfl (by rw [ev7]; rfl) (by decide) rfl ?_
        refine wk_sub [1, 2, 0, 3] rfl ?_
        exact J42 v7 hf
      refine wk_icmp_eq (tgt := 39) G dX3_thatShowedEnoughTo_17 (by decide) (fun c8 => ?_) (fun c8 => ?_)
      · replace hf := it_t c8 hf
        exact J39 () hf
      · replace hf := it_f c8 hf
        refine wk_aload_n G 0 dX3_thatShowedEnoughTo_20 rfl rfl ?_
        refine wk_get (ci := 3) (v := .ref (ad (b + 11))) G iX3_thatShowedEnoughTo_X3 (b + 6) (lb hb (by decide)) (ckb6 cI cZ ad hb (M (b + 6))) rfl 5 (Nat.le_of_ble_eq_true rfl) kX3_thatShowedEnoughTo_25 rfl dX3_thatShowedEnoughTo_21 ?_
        refine wk_iload_n G 1 dX3_thatShowedEnoughTo_24 rfl rfl ?_
        refine wk_iload_n G 3 dX3_thatShowedEnoughTo_25 rfl rfl ?_
        obtain ⟨r9, q10, hf⟩ := bd_of hf
        refine wk_callNi (As := [.int x1, .int v2]) (rest := [.ref (ad (b + 11))]) G (c_X6_pair l D cI cZ ad x1 v2 M r9 q10) ⟨va_cnB 2 G.2.2.2.2.1 gX3_thatShowedEnoughTo_X6_pair_n58 rfl rfl rfl G.2.2.2.2.2.2.2.2.2.2.2.1 (G.2.2.2.2.1 _ (by decide +kernel)) (by decide +kernel) ⟨Nat.le_of_ble_eq_true rfl, Nat.le_of_ble_eq_true rfl⟩, G.2.2.2.2.1 _ (by decide +kernel), trivial⟩ rfl rfl (Nat.le_of_ble_eq_true rfl) dX3_thatShowedEnoughTo_26 ⟨Nat.le_of_ble_eq_true rfl, Nat.le_of_ble_eq_true rfl⟩ ?_
        obtain ⟨h11, hf⟩ := gd_of hf
        refine wk_iald G (b + 11) (lb hb (by decide)) (ckb11 cI cZ ad hb) h11 dX3_thatShowedEnoughTo_29 ?_
        refine wk_aload_n G 0 dX3_thatShowedEnoughTo_30 rfl rfl ?_
        refine wk_get (ci := 3) (v := .ref (ad (b + 7))) G iX3_thatShowedEnoughTo_X3 (b + 6) (lb hb (by decide)) (ckb6 cI cZ ad hb (M (b + 6))) rfl 1 (Nat.le_of_ble_eq_true rfl) kX3_thatShowedEnoughTo_9 rfl dX3_thatShowedEnoughTo_31 ?_
        refine wk_iload_n G 1 dX3_thatShowedEnoughTo_34 rfl rfl ?_
        obtain ⟨h12, hf⟩ := gd_of hf
        refine wk_iald G (b + 7) (lb hb (by decide)) (ckb7 cI cZ ad hb) h12 dX3_thatShowedEnoughTo_35 ?_
        refine wk_icmp_lt (tgt := 42) G dX3_thatShowedEnoughTo_36 (by decide) (fun c13 => ?_) (fun c13 => ?_)
        · replace hf := it_t c13 hf
          exact J42 v1 hf
        · replace hf := it_f c13 hf
          exact J39 () hf
  exact Lq15
def fX3_grow (b : Nat) (M : Mem) : Option Mem := (loop fu (un2 fun (v1 : Int32) (M2 : Mem) => (if (M2 1 0) ≤ v1 then (some (.inr M2)) else (gd v1 6 (nm (fun (v5 : Int32) => gd v1 6 (nm (st M2 (b + 10) (Int32.toNatClampNeg v1) (vp_nar .boolean v5)) fun (M7 : Mem) => gd v1 6 (nm (fun (M9 : Mem) => nm (v1 + (1 : Int32)) fun (v10 : Int32) => some (.inl (v10, M9))) fun j67 => if (M7 (b + 10) (Int32.toNatClampNeg v1)) = 0 then (j67 M7) else (gd v1 6 (gd v1 6 (nm (st M7 (b + 7) (Int32.toNatClampNeg v1) ((M7 (b + 7) (Int32.toNatClampNeg v1)) + (1 : Int32))) fun (M14 : Mem) => j67 M14)))))) fun j47 => nm (fun (u15 : Unit) => j47 (0 : Int32)) fun j46 => if (M2 (b + 9) (Int32.toNatClampNeg v1)) = 0 then (j46 ()) else ((fX3_thatShowedEnoughTo b v1 M2).bind (fun (r17 : Int32) => (fX2_isMoreThanHalf r17 M2).bind (fun (r19 : Int32) => if r19 = 0 then (j46 ()) else (j47 (1 : Int32))))))) : Option ((Int32 × Mem) ⊕ (Mem)))) ((0 : Int32), M)).bind (un1 fun (M22 : Mem) => some M22)
theorem iX3_grow_X2 : ∀ w ∈ wsX20, w ∈ wsX3_grow := by decide +kernel
theorem iX3_grow_X3 : ∀ w ∈ wsX30, w ∈ wsX3_grow := by decide +kernel
theorem kX3_grow_9 : Cond.fieldLink RX3 9 "PartitionPlay$Nodes" "heights" "[I" ∈ wsX3_grow := by decide +kernel
theorem kX3_grow_18 : Cond.fieldLink RX3 18 "PartitionPlay$Nodes" "up" "[Z" ∈ wsX3_grow := by decide +kernel
theorem kX3_grow_22 : Cond.fieldLink RX3 22 "PartitionPlay$Nodes" "grew" "[Z" ∈ wsX3_grow := by decide +kernel
theorem kX3_grow_28 : Cond.fieldLink RX3 28 "PartitionPlay$Nodes" "net" "LPartitionPlay$Net;" ∈ wsX3_grow := by decide +kernel
theorem kX3_grow_38 : Cond.fieldLink RX3 38 "PartitionPlay$Net" "size" "I" ∈ wsX3_grow := by decide +kernel
abbrev rmX3_grow : Room := { frames := 2, cells := 0, slots := 0, locals := 44 }
set_option maxRecDepth 100000 in
set_option maxHeartbeats 4000000 in
theorem c_X3_grow (l : Launch) (D : va_G) (cI cZ : ClassId) (ad : Nat → Nat) (b : Nat) (hb : b = 12 ∨ b = 34) (M : Mem) (M' : Mem) (hf : fX3_grow b M = some M') : MetV l yX3_grow wsX3_grow rmX3_grow D cI cZ ad [.ref (ad (b + 6))] M M' := by
  refine met_v (cc := cX3_grow) (nL := 2) (ret := none) (own := RX3) (by decide) rfl rfl (Nat.le_of_ble_eq_true rfl) ?_
  intro p e s m args below meth c A G hr hlocks
  unfold fX3_grow at hf
  show Wk p l e (headSpec wsX3_grow rmX3_grow).room s m args below meth c D cI cZ ad A 2 0 0 (QV below D cI cZ ad A args s M') M 0 [(0, .ref (ad (b + 6)))] []
  refine wk_iconst (v := (0 : Int32)) G dX3_grow_0 (by decide) ?_
  refine wk_istore_n (lv' := [(1, .int (0 : Int32)), (0, .ref (ad (b + 6)))]) G dX3_grow_1 rfl (by decide) rfl ?_
  refine wk_sub [1, 0] rfl ?_
  obtain ⟨q23, q24, hf⟩ := bd_of hf
  have Cq23 : (up1 fun (M22 : Mem) => Wk p l e (headSpec wsX3_grow rmX3_grow).room s m args below meth c D cI cZ ad A 2 0 0 (QV below D cI cZ ad A args s M') M22 73 [] []) q23 := by
    obtain ⟨M22, rfl⟩ : ∃ z, z = q23 := ⟨_, rfl⟩
    replace hf := un1_of hf
    show Wk p l e (headSpec wsX3_grow rmX3_grow).room s m args below meth c D cI cZ ad A 2 0 0 (QV below D cI cZ ad A args s M') M22 73 [] []
    exact wk_rv G hr hlocks dX3_grow_73 (Option.some.inj hf)
  have Lq23 : (up2 fun (v1 : Int32) (M2 : Mem) => Wk p l e (headSpec wsX3_grow rmX3_grow).room s m args below meth c D cI cZ ad A 2 0 0 (QV below D cI cZ ad A args s M') M2 2 [(0, .ref (ad (b + 6))), (1, .int v1)] []) ((0 : Int32), M) := by
    refine loop_P (C := (up1 fun (M22 : Mem) => Wk p l e (headSpec wsX3_grow rmX3_grow).room s m args below meth c D cI cZ ad A 2 0 0 (QV below D cI cZ ad A args s M') M22 73 [] [])) ?_ fu ((0 : Int32), M) q23 q24 Cq23
    clear hf Cq23 q24
    rintro ⟨v1, M2⟩ o hf hI hE
    replace hf := un2_of hf
    show Wk p l e (headSpec wsX3_grow rmX3_grow).room s m args below meth c D cI cZ ad A 2 0 0 (QV below D cI cZ ad A args s M') M2 2 [(0, .ref (ad (b + 6))), (1, .int v1)] []
    refine wk_iload_n G 1 dX3_grow_2 rfl rfl ?_
    refine wk_aload_n G 0 dX3_grow_3 rfl rfl ?_
    refine wk_get (ci := 3) (v := .ref (ad 1)) G iX3_grow_X3 (b + 6) (lb hb (by decide)) (ckb6 cI cZ ad hb (M2 (b + 6))) rfl 0 (Nat.le_of_ble_eq_true rfl) kX3_grow_28 rfl dX3_grow_4 ?_
    refine wk_get (ci := 2) (v := .int (M2 1 0)) G iX3_grow_X2 1 (by decide) (ck1 cI cZ ad (M2 1)) rfl 0 (Nat.le_of_ble_eq_true rfl) kX3_grow_38 rfl dX3_grow_7 ?_
    refine wk_icmp_ge (tgt := 73) G dX3_grow_10 (by decide) (fun c3 => ?_) (fun c3 => ?_)
    · replace hf := it_t c3 hf
      refine wk_sub [] rfl ?_
      exact hE _ (Option.some.inj hf).symm
    · replace hf := it_f c3 hf
      refine wk_aload_n G 0 dX3_grow_13 rfl rfl ?_
      refine wk_get (ci := 3) (v := .ref (ad (b + 10))) G iX3_grow_X3 (b + 6) (lb hb (by decide)) (ckb6 cI cZ ad hb (M2 (b + 6))) rfl 4 (Nat.le_of_ble_eq_true rfl) kX3_grow_22 rfl dX3_grow_14 ?_
      refine wk_iload_n G 1 dX3_grow_17 rfl rfl ?_
      refine wk_aload_n G 0 dX3_grow_18 rfl rfl ?_
      refine wk_get (ci := 3) (v := .ref (ad (b + 9))) G iX3_grow_X3 (b + 6) (lb hb (by decide)) (ckb6 cI cZ ad hb (M2 (b + 6))) rfl 3 (Nat.le_of_ble_eq_true rfl) kX3_grow_18 rfl dX3_grow_19 ?_
      refine wk_iload_n G 1 dX3_grow_22 rfl rfl ?_
      obtain ⟨h4, hf⟩ := gd_of hf
      refine wk_zald G (b + 9) (lb hb (by decide)) (ckb9 cI cZ ad hb) h4 dX3_grow_23 ?_
      obtain ⟨j47, ej47, hf⟩ := nm_ex hf
      have J47 : ∀ (v5 : Int32), j47 v5 = some o → Wk p l e (headSpec wsX3_grow rmX3_grow).room s m args below meth c D cI cZ ad A 2 0 0 (QV below D cI cZ ad A args s M') M2 47 [(0, .ref (ad (b + 6))), (1, .int v1)] [.int v5, .int v1, .ref (ad (b + 10))] := by
        intro v5 hf
        replace hf := jn1 ej47 hf
        obtain ⟨h6, hf⟩ := gd_of hf
        obtain ⟨M7, eM7, hf⟩ := nm_ex hf
        refine wk_zast G (b + 10) (lb hb (by decide)) (ckb10 cI cZ ad hb) h6 dX3_grow_47 eM7 ?_
        refine wk_aload_n G 0 dX3_grow_48 rfl rfl ?_
        refine wk_get (ci := 3) (v := .ref (ad (b + 10))) G iX3_grow_X3 (b + 6) (lb hb (by decide)) (ckb6 cI cZ ad hb (M7 (b + 6))) rfl 4 (Nat.le_of_ble_eq_true rfl) kX3_grow_22 rfl dX3_grow_49 ?_
        refine wk_iload_n G 1 dX3_grow_52 rfl rfl ?_
        obtain ⟨h8, hf⟩ := gd_of hf
        refine wk_zald G (b + 10) (lb hb (by decide)) (ckb10 cI cZ ad hb) h8 dX3_grow_53 ?_
        obtain ⟨j67, ej67, hf⟩ := nm_ex hf
        have J67 : ∀ (M9 : Mem), j67 M9 = some o → Wk p l e (headSpec wsX3_grow rmX3_grow).room s m args below meth c D cI cZ ad A 2 0 0 (QV below D cI cZ ad A args s M') M9 67 [(0, .ref (ad (b + 6))), (1, .int v1)] [] := by
          intro M9 hf
          replace hf := jn1 ej67 hf
          obtain ⟨v10, ev10, hf⟩ := nm_ex hf
          refine wk_iinc (v := v10) (lv' := [(1, .int v10), (0, .ref (ad (b + 6)))]) G 1 dX3_grow_67 rfl (by rw [ev10]; rfl) (by decide) rfl ?_
          refine wk_goto (tgt := 2) G dX3_grow_70 (by decide) ?_
          refine wk_sub [1, 0] rfl ?_
          exact hI _ (Option.some.inj hf).symm
        refine wk_if_eq (tgt := 67) G dX3_grow_54 (by decide) (fun c11 => ?_) (fun c11 => ?_)
        · replace hf := it_t c11 hf
          exact J67 M7 hf
        · replace hf := it_f c11 hf
          refine wk_aload_n G 0 dX3_grow_57 rfl rfl ?_
          refine wk_get (ci := 3) (v := .ref (ad (b + 7))) G iX3_grow_X3 (b + 6) (lb hb (by decide)) (ckb6 cI cZ ad hb (M7 (b + 6))) rfl 1 (Nat.le_of_ble_eq_true rfl) kX3_grow_9 rfl dX3_grow_58 ?_
          refine wk_iload_n G 1 dX3_grow_61 rfl rfl ?_
          refine wk_dup2 G dX3_grow_62 rfl rfl ?_
          obtain ⟨h12, hf⟩ := gd_of hf
          refine wk_iald G (b + 7) (lb hb (by decide)) (ckb7 cI cZ ad hb) h12 dX3_grow_63 ?_
          refine wk_iconst (v := (1 : Int32)) G dX3_grow_64 (by decide) ?_
          refine wk_iadd G dX3_grow_65 ?_
          obtain ⟨h13, hf⟩ := gd_of hf
          obtain ⟨M14, eM14, hf⟩ := nm_ex hf
          refine wk_iast G (b + 7) (lb hb (by decide)) (ckb7 cI cZ ad hb) h13 dX3_grow_66 eM14 ?_
          exact J67 M14 hf
      obtain ⟨j46, ej46, hf⟩ := nm_ex hf
      have J46 : ∀ (u15 : Unit), j46 u15 = some o → Wk p l e (headSpec wsX3_grow rmX3_grow).room s m args below meth c D cI cZ ad A 2 0 0 (QV below D cI cZ ad A args s M') M2 46 [(0, .ref (ad (b + 6))), (1, .int v1)] [.int v1, .ref (ad (b + 10))] := by
        intro u15 hf
        replace hf := jn1 ej46 hf
        refine wk_iconst (v := (0 : Int32)) G dX3_grow_46 (by decide) ?_
        exact J47 (0 : Int32) hf
      refine wk_if_eq (tgt := 46) G dX3_grow_24 (by decide) (fun c16 => ?_) (fun c16 => ?_)
      · replace hf := it_t c16 hf
        exact J46 () hf
      · replace hf := it_f c16 hf
        refine wk_aload_n G 0 dX3_grow_27 rfl rfl ?_
        refine wk_get (ci := 3) (v := .ref (ad 1)) G iX3_grow_X3 (b + 6) (lb hb (by decide)) (ckb6 cI cZ ad hb (M2 (b + 6))) rfl 0 (Nat.le_of_ble_eq_true rfl) kX3_grow_28 rfl dX3_grow_28 ?_
        refine wk_aload_n G 0 dX3_grow_31 rfl rfl ?_
        refine wk_iload_n G 1 dX3_grow_32 rfl rfl ?_
        obtain ⟨r17, q18, hf⟩ := bd_of hf
        refine wk_callVi (As := [.int v1]) (rest := [.ref (ad 1), .int v1, .ref (ad (b + 10))]) (ci := 3) G (b + 6) (lb hb (by decide)) (c_X3_thatShowedEnoughTo l D cI cZ ad b hb v1 M2 r17 q18) (cwV 1 G.2.2.2.2.1 gX3_grow_X3_thatShowedEnoughTo rfl rfl rfl (by decide +kernel) ⟨Nat.le_of_ble_eq_true rfl, Nat.le_of_ble_eq_true rfl⟩) (ckb6 cI cZ ad hb (M2 (b + 6))) rfl rfl rfl (Nat.le_of_ble_eq_true rfl) dX3_grow_33 ⟨Nat.le_of_ble_eq_true rfl, Nat.le_of_ble_eq_true rfl⟩ ?_
        obtain ⟨r19, q20, hf⟩ := bd_of hf
        refine wk_callVi (As := [.int r17]) (rest := [.int v1, .ref (ad (b + 10))]) (ci := 2) G 1 (by decide) (c_X2_isMoreThanHalf l D cI cZ ad r17 M2 r19 q20) (cwV 1 G.2.2.2.2.1 gX3_grow_X2_isMoreThanHalf rfl rfl rfl (by decide +kernel) ⟨Nat.le_of_ble_eq_true rfl, Nat.le_of_ble_eq_true rfl⟩) (ck1 cI cZ ad (M2 1)) rfl rfl rfl (Nat.le_of_ble_eq_true rfl) dX3_grow_36 ⟨Nat.le_of_ble_eq_true rfl, Nat.le_of_ble_eq_true rfl⟩ ?_
        refine wk_if_eq (tgt := 46) G dX3_grow_39 (by decide) (fun c21 => ?_) (fun c21 => ?_)
        · replace hf := it_t c21 hf
          exact J46 () hf
        · replace hf := it_f c21 hf
          refine wk_iconst (v := (1 : Int32)) G dX3_grow_42 (by decide) ?_
          refine wk_goto (tgt := 47) G dX3_grow_43 (by decide) ?_
          exact J47 (1 : Int32) hf
  exact Lq23
def fX3_noLowerThan (b : Nat) (x1 : Int32) (M : Mem) : Option Int32 := (loop fu (un2 fun (v1 : Int32) (v2 : Int32) => (if (M 1 0) ≤ v2 then (some (.inr v1)) else (gd v2 6 (nm (fun (v5 : Int32) => nm (v2 + (1 : Int32)) fun (v6 : Int32) => some (.inl (v5, v6))) fun j28 => if (M (b + 7) (Int32.toNatClampNeg v2)) < x1 then (j28 v1) else (nm (v1 + (1 : Int32)) fun (v8 : Int32) => j28 v8))) : Option ((Int32 × Int32) ⊕ (Int32)))) ((0 : Int32), (0 : Int32))).bind (un1 fun (v9 : Int32) => some v9)
theorem iX3_noLowerThan_X2 : ∀ w ∈ wsX20, w ∈ wsX3_noLowerThan := by decide +kernel
theorem iX3_noLowerThan_X3 : ∀ w ∈ wsX30, w ∈ wsX3_noLowerThan := by decide +kernel
theorem kX3_noLowerThan_9 : Cond.fieldLink RX3 9 "PartitionPlay$Nodes" "heights" "[I" ∈ wsX3_noLowerThan := by decide +kernel
theorem kX3_noLowerThan_28 : Cond.fieldLink RX3 28 "PartitionPlay$Nodes" "net" "LPartitionPlay$Net;" ∈ wsX3_noLowerThan := by decide +kernel
theorem kX3_noLowerThan_38 : Cond.fieldLink RX3 38 "PartitionPlay$Net" "size" "I" ∈ wsX3_noLowerThan := by decide +kernel
abbrev rmX3_noLowerThan : Room := { frames := 0, cells := 0, slots := 0, locals := 0 }
set_option maxRecDepth 100000 in
set_option maxHeartbeats 4000000 in
theorem c_X3_noLowerThan (l : Launch) (D : va_G) (cI cZ : ClassId) (ad : Nat → Nat) (b : Nat) (hb : b = 12 ∨ b = 34) (x1 : Int32) (M : Mem) (r : Int32) (hf : fX3_noLowerThan b x1 M = some r) : MetI l yX3_noLowerThan wsX3_noLowerThan rmX3_noLowerThan D cI cZ ad [.ref (ad (b + 6)), .int x1] M r M := by
  refine met_i (cc := cX3_noLowerThan) (nL := 4) (ret := (some .int)) (own := RX3) (by decide) rfl rfl (Nat.le_of_ble_eq_true rfl) ?_
  intro p e s m args below meth c A G hr hlocks
  unfold fX3_noLowerThan at hf
  show Wk p l e (headSpec wsX3_noLowerThan rmX3_noLowerThan).room s m args below meth c D cI cZ ad A 4 0 0 (QI below D cI cZ ad A args s r M) M 0 [(0, .ref (ad (b + 6))), (1, .int x1)] []
  refine wk_iconst (v := (0 : Int32)) G dX3_noLowerThan_0 (by decide) ?_
  refine wk_istore_n (lv' := [(2, .int (0 : Int32)), (0, .ref (ad (b + 6))), (1, .int x1)]) G dX3_noLowerThan_1 rfl (by decide) rfl ?_
  refine wk_iconst (v := (0 : Int32)) G dX3_noLowerThan_2 (by decide) ?_
  refine wk_istore_n (lv' := [(3, .int (0 : Int32)), (2, .int (0 : Int32)), (0, .ref (ad (b + 6))), (1, .int x1)]) G dX3_noLowerThan_3 rfl (by decide) rfl ?_
  refine wk_sub [2, 3, 1, 0] rfl ?_
  obtain ⟨q10, q11, hf⟩ := bd_of hf
  have Cq10 : (up1 fun (v9 : Int32) => Wk p l e (headSpec wsX3_noLowerThan rmX3_noLowerThan).room s m args below meth c D cI cZ ad A 4 0 0 (QI below D cI cZ ad A args s r M) M 34 [(2, .int v9)] []) q10 := by
    obtain ⟨v9, rfl⟩ : ∃ z, z = q10 := ⟨_, rfl⟩
    replace hf := un1_of hf
    show Wk p l e (headSpec wsX3_noLowerThan rmX3_noLowerThan).room s m args below meth c D cI cZ ad A 4 0 0 (QI below D cI cZ ad A args s r M) M 34 [(2, .int v9)] []
    refine wk_iload_n G 0 dX3_noLowerThan_34 rfl rfl ?_
    exact wk_ri G hr hlocks dX3_noLowerThan_35 (congrArg (fun z => (z, M)) (Option.some.inj hf))
  have Lq10 : (up2 fun (v1 : Int32) (v2 : Int32) => Wk p l e (headSpec wsX3_noLowerThan rmX3_noLowerThan).room s m args below meth c D cI cZ ad A 4 0 0 (QI below D cI cZ ad A args s r M) M 4 [(0, .ref (ad (b + 6))), (1, .int x1), (2, .int v1), (3, .int v2)] []) ((0 : Int32), (0 : Int32)) := by
    refine loop_P (C := (up1 fun (v9 : Int32) => Wk p l e (headSpec wsX3_noLowerThan rmX3_noLowerThan).room s m args below meth c D cI cZ ad A 4 0 0 (QI below D cI cZ ad A args s r M) M 34 [(2, .int v9)] [])) ?_ fu ((0 : Int32), (0 : Int32)) q10 q11 Cq10
    clear hf Cq10 q11
    rintro ⟨v1, v2⟩ o hf hI hE
    replace hf := un2_of hf
    show Wk p l e (headSpec wsX3_noLowerThan rmX3_noLowerThan).room s m args below meth c D cI cZ ad A 4 0 0 (QI below D cI cZ ad A args s r M) M 4 [(0, .ref (ad (b + 6))), (1, .int x1), (2, .int v1), (3, .int v2)] []
    refine wk_iload_n G 3 dX3_noLowerThan_4 rfl rfl ?_
    refine wk_aload_n G 0 dX3_noLowerThan_5 rfl rfl ?_
    refine wk_get (ci := 3) (v := .ref (ad 1)) G iX3_noLowerThan_X3 (b + 6) (lb hb (by decide)) (ckb6 cI cZ ad hb (M (b + 6))) rfl 0 (Nat.le_of_ble_eq_true rfl) kX3_noLowerThan_28 rfl dX3_noLowerThan_6 ?_
    refine wk_get (ci := 2) (v := .int (M 1 0)) G iX3_noLowerThan_X2 1 (by decide) (ck1 cI cZ ad (M 1)) rfl 0 (Nat.le_of_ble_eq_true rfl) kX3_noLowerThan_38 rfl dX3_noLowerThan_9 ?_
    refine wk_icmp_ge (tgt := 34) G dX3_noLowerThan_12 (by decide) (fun c3 => ?_) (fun c3 => ?_)
    · replace hf := it_t c3 hf
      refine wk_sub [2] rfl ?_
      exact hE _ (Option.some.inj hf).symm
    · replace hf := it_f c3 hf
      refine wk_aload_n G 0 dX3_noLowerThan_15 rfl rfl ?_
      refine wk_get (ci := 3) (v := .ref (ad (b + 7))) G iX3_noLowerThan_X3 (b + 6) (lb hb (by decide)) (ckb6 cI cZ ad hb (M (b + 6))) rfl 1 (Nat.le_of_ble_eq_true rfl) kX3_noLowerThan_9 rfl dX3_noLowerThan_16 ?_
      refine wk_iload_n G 3 dX3_noLowerThan_19 rfl rfl ?_
      obtain ⟨h4, hf⟩ := gd_of hf
      refine wk_iald G (b + 7) (lb hb (by decide)) (ckb7 cI cZ ad hb) h4 dX3_noLowerThan_20 ?_
      refine wk_iload_n G 1 dX3_noLowerThan_21 rfl rfl ?_
      obtain ⟨j28, ej28, hf⟩ := nm_ex hf
      have J28 : ∀ (v5 : Int32), j28 v5 = some o → Wk p l e (headSpec wsX3_noLowerThan rmX3_noLowerThan).room s m args below meth c D cI cZ ad A 4 0 0 (QI below D cI cZ ad A args s r M) M 28 [(0, .ref (ad (b + 6))), (1, .int x1), (2, .int v5), (3, .int v2)] [] := by
        intro v5 hf
        replace hf := jn1 ej28 hf
        obtain ⟨v6, ev6, hf⟩ := nm_ex hf
        refine wk_iinc (v := v6) (lv' := [(3, .int v6), (0, .ref (ad (b + 6))), (1, .int x1), (2, .int v5)]) G 3 dX3_noLowerThan_28 rfl (by rw [ev6]; rfl) (by decide) rfl ?_
        refine wk_goto (tgt := 4) G dX3_noLowerThan_31 (by decide) ?_
        refine wk_sub [1, 2, 3, 0] rfl ?_
        exact hI _ (Option.some.inj hf).symm
      refine wk_icmp_lt (tgt := 28) G dX3_noLowerThan_22 (by decide) (fun c7 => ?_) (fun c7 => ?_)
      · replace hf := it_t c7 hf
        exact J28 v1 hf
      · replace hf := it_f c7 hf
        obtain ⟨v8, ev8, hf⟩ := nm_ex hf
        refine wk_iinc (v := v8) (lv' := [(2, .int v8), (0, .ref (ad (b + 6))), (1, .int x1), (3, .int v2)]) G 2 dX3_noLowerThan_25 rfl (by rw [ev8]; rfl) (by decide) rfl ?_
        refine wk_sub [1, 2, 0, 3] rfl ?_
        exact J28 v8 hf
  exact Lq10
def fX3_keepTheRule (b : Nat) (M : Mem) : Option Int32 := (loop fu (un2 fun (v1 : Int32) (v2 : Int32) => (if (M 1 0) ≤ v2 then (some (.inr v1)) else (gd v2 6 (nm (fun (v5 : Int32) => nm (v2 + (1 : Int32)) fun (v6 : Int32) => some (.inl (v5, v6))) fun j38 => if (M 2 (Int32.toNatClampNeg v2)) = 0 then (gd v2 6 (nm ((if v1 < (M (b + 7) (Int32.toNatClampNeg v2)) then (M (b + 7) (Int32.toNatClampNeg v2)) else v1)) fun (v9 : Int32) => j38 v9)) else (j38 v1))) : Option ((Int32 × Int32) ⊕ (Int32)))) ((0 : Int32), (0 : Int32))).bind (un1 fun (v10 : Int32) => nm (fun (u11 : Unit) => some (1 : Int32)) fun j65 => if v10 = 0 then (j65 ()) else ((fX3_noLowerThan b (v10 - (1 : Int32)) M).bind (fun (r13 : Int32) => (fX2_isMoreThanHalf r13 M).bind (fun (r15 : Int32) => if r15 = 0 then (some (0 : Int32)) else (j65 ())))))
theorem iX3_keepTheRule_X2 : ∀ w ∈ wsX20, w ∈ wsX3_keepTheRule := by decide +kernel
theorem iX3_keepTheRule_X3 : ∀ w ∈ wsX30, w ∈ wsX3_keepTheRule := by decide +kernel
theorem kX3_keepTheRule_9 : Cond.fieldLink RX3 9 "PartitionPlay$Nodes" "heights" "[I" ∈ wsX3_keepTheRule := by decide +kernel
theorem kX3_keepTheRule_28 : Cond.fieldLink RX3 28 "PartitionPlay$Nodes" "net" "LPartitionPlay$Net;" ∈ wsX3_keepTheRule := by decide +kernel
theorem kX3_keepTheRule_38 : Cond.fieldLink RX3 38 "PartitionPlay$Net" "size" "I" ∈ wsX3_keepTheRule := by decide +kernel
theorem kX3_keepTheRule_74 : Cond.fieldLink RX3 74 "PartitionPlay$Net" "behaviours" "[I" ∈ wsX3_keepTheRule := by decide +kernel
abbrev rmX3_keepTheRule : Room := { frames := 1, cells := 0, slots := 0, locals := 23 }
set_option maxRecDepth 100000 in
set_option maxHeartbeats 4000000 in
theorem c_X3_keepTheRule (l : Launch) (D : va_G) (cI cZ : ClassId) (ad : Nat → Nat) (b : Nat) (hb : b = 12 ∨ b = 34) (M : Mem) (r : Int32) (hf : fX3_keepTheRule b M = some r) : MetI l yX3_keepTheRule wsX3_keepTheRule rmX3_keepTheRule D cI cZ ad [.ref (ad (b + 6))] M r M := by
  refine met_i (cc := cX3_keepTheRule) (nL := 3) (ret := (some .boolean)) (own := RX3) (by decide) rfl rfl (Nat.le_of_ble_eq_true rfl) ?_
  intro p e s m args below meth c A G hr hlocks
  unfold fX3_keepTheRule at hf
  show Wk p l e (headSpec wsX3_keepTheRule rmX3_keepTheRule).room s m args below meth c D cI cZ ad A 3 0 0 (QI below D cI cZ ad A args s r M) M 0 [(0, .ref (ad (b + 6)))] []
  refine wk_iconst (v := (0 : Int32)) G dX3_keepTheRule_0 (by decide) ?_
  refine wk_istore_n (lv' := [(1, .int (0 : Int32)), (0, .ref (ad (b + 6)))]) G dX3_keepTheRule_1 rfl (by decide) rfl ?_
  refine wk_iconst (v := (0 : Int32)) G dX3_keepTheRule_2 (by decide) ?_
  refine wk_istore_n (lv' := [(2, .int (0 : Int32)), (1, .int (0 : Int32)), (0, .ref (ad (b + 6)))]) G dX3_keepTheRule_3 rfl (by decide) rfl ?_
  refine wk_sub [2, 1, 0] rfl ?_
  obtain ⟨q18, q19, hf⟩ := bd_of hf
  have Cq18 : (up1 fun (v10 : Int32) => Wk p l e (headSpec wsX3_keepTheRule rmX3_keepTheRule).room s m args below meth c D cI cZ ad A 3 0 0 (QI below D cI cZ ad A args s r M) M 44 [(0, .ref (ad (b + 6))), (1, .int v10)] []) q18 := by
    obtain ⟨v10, rfl⟩ : ∃ z, z = q18 := ⟨_, rfl⟩
    replace hf := un1_of hf
    show Wk p l e (headSpec wsX3_keepTheRule rmX3_keepTheRule).room s m args below meth c D cI cZ ad A 3 0 0 (QI below D cI cZ ad A args s r M) M 44 [(0, .ref (ad (b + 6))), (1, .int v10)] []
    refine wk_iload_n G 1 dX3_keepTheRule_44 rfl rfl ?_
    obtain ⟨j65, ej65, hf⟩ := nm_ex hf
    have J65 : ∀ (u11 : Unit), j65 u11 = some r → Wk p l e (headSpec wsX3_keepTheRule rmX3_keepTheRule).room s m args below meth c D cI cZ ad A 3 0 0 (QI below D cI cZ ad A args s r M) M 65 [] [] := by
      intro u11 hf
      replace hf := jn1 ej65 hf
      refine wk_iconst (v := (1 : Int32)) G dX3_keepTheRule_65 (by decide) ?_
      refine wk_goto (tgt := 70) G dX3_keepTheRule_66 (by decide) ?_
      exact wk_rz G hr hlocks (Or.inr rfl) dX3_keepTheRule_70 (congrArg (fun z => (z, M)) (Option.some.inj hf))
    refine wk_if_eq (tgt := 65) G dX3_keepTheRule_45 (by decide) (fun c12 => ?_) (fun c12 => ?_)
    · replace hf := it_t c12 hf
      refine wk_sub [] rfl ?_
      exact J65 () hf
    · replace hf := it_f c12 hf
      refine wk_aload_n G 0 dX3_keepTheRule_48 rfl rfl ?_
      refine wk_get (ci := 3) (v := .ref (ad 1)) G iX3_keepTheRule_X3 (b + 6) (lb hb (by decide)) (ckb6 cI cZ ad hb (M (b + 6))) rfl 0 (Nat.le_of_ble_eq_true rfl) kX3_keepTheRule_28 rfl dX3_keepTheRule_49 ?_
      refine wk_aload_n G 0 dX3_keepTheRule_52 rfl rfl ?_
      refine wk_iload_n G 1 dX3_keepTheRule_53 rfl rfl ?_
      refine wk_iconst (v := (1 : Int32)) G dX3_keepTheRule_54 (by decide) ?_
      refine wk_isub G dX3_keepTheRule_55 ?_
      obtain ⟨r13, q14, hf⟩ := bd_of hf
      refine wk_callVi (As := [.int (v10 - (1 : Int32))]) (rest := [.ref (ad 1)]) (ci := 3) G (b + 6) (lb hb (by decide)) (c_X3_noLowerThan l D cI cZ ad b hb (v10 - (1 : Int32)) M r13 q14) (cwV 1 G.2.2.2.2.1 gX3_keepTheRule_X3_noLowerThan rfl rfl rfl (by decide +kernel) ⟨Nat.le_of_ble_eq_true rfl, Nat.le_of_ble_eq_true rfl⟩) (ckb6 cI cZ ad hb (M (b + 6))) rfl rfl rfl (Nat.le_of_ble_eq_true rfl) dX3_keepTheRule_56 ⟨Nat.le_of_ble_eq_true rfl, Nat.le_of_ble_eq_true rfl⟩ ?_
      obtain ⟨r15, q16, hf⟩ := bd_of hf
      refine wk_callVi (As := [.int r13]) (rest := []) (ci := 2) G 1 (by decide) (c_X2_isMoreThanHalf l D cI cZ ad r13 M r15 q16) (cwV 1 G.2.2.2.2.1 gX3_keepTheRule_X2_isMoreThanHalf rfl rfl rfl (by decide +kernel) ⟨Nat.le_of_ble_eq_true rfl, Nat.le_of_ble_eq_true rfl⟩) (ck1 cI cZ ad (M 1)) rfl rfl rfl (Nat.le_of_ble_eq_true rfl) dX3_keepTheRule_59 ⟨Nat.le_of_ble_eq_true rfl, Nat.le_of_ble_eq_true rfl⟩ ?_
      refine wk_if_eq (tgt := 69) G dX3_keepTheRule_62 (by decide) (fun c17 => ?_) (fun c17 => ?_)
      · replace hf := it_t c17 hf
        refine wk_iconst (v := (0 : Int32)) G dX3_keepTheRule_69 (by decide) ?_
        exact wk_rz G hr hlocks (Or.inl rfl) dX3_keepTheRule_70 (congrArg (fun z => (z, M)) (Option.some.inj hf))
      · replace hf := it_f c17 hf
        refine wk_sub [] rfl ?_
        exact J65 () hf
  have Lq18 : (up2 fun (v1 : Int32) (v2 : Int32) => Wk p l e (headSpec wsX3_keepTheRule rmX3_keepTheRule).room s m args below meth c D cI cZ ad A 3 0 0 (QI below D cI cZ ad A args s r M) M 4 [(0, .ref (ad (b + 6))), (1, .int v1), (2, .int v2)] []) ((0 : Int32), (0 : Int32)) := by
    refine loop_P (C := (up1 fun (v10 : Int32) => Wk p l e (headSpec wsX3_keepTheRule rmX3_keepTheRule).room s m args below meth c D cI cZ ad A 3 0 0 (QI below D cI cZ ad A args s r M) M 44 [(0, .ref (ad (b + 6))), (1, .int v10)] [])) ?_ fu ((0 : Int32), (0 : Int32)) q18 q19 Cq18
    clear hf Cq18 q19
    rintro ⟨v1, v2⟩ o hf hI hE
    replace hf := un2_of hf
    show Wk p l e (headSpec wsX3_keepTheRule rmX3_keepTheRule).room s m args below meth c D cI cZ ad A 3 0 0 (QI below D cI cZ ad A args s r M) M 4 [(0, .ref (ad (b + 6))), (1, .int v1), (2, .int v2)] []
    refine wk_iload_n G 2 dX3_keepTheRule_4 rfl rfl ?_
    refine wk_aload_n G 0 dX3_keepTheRule_5 rfl rfl ?_
    refine wk_get (ci := 3) (v := .ref (ad 1)) G iX3_keepTheRule_X3 (b + 6) (lb hb (by decide)) (ckb6 cI cZ ad hb (M (b + 6))) rfl 0 (Nat.le_of_ble_eq_true rfl) kX3_keepTheRule_28 rfl dX3_keepTheRule_6 ?_
    refine wk_get (ci := 2) (v := .int (M 1 0)) G iX3_keepTheRule_X2 1 (by decide) (ck1 cI cZ ad (M 1)) rfl 0 (Nat.le_of_ble_eq_true rfl) kX3_keepTheRule_38 rfl dX3_keepTheRule_9 ?_
    refine wk_icmp_ge (tgt := 44) G dX3_keepTheRule_12 (by decide) (fun c3 => ?_) (fun c3 => ?_)
    · replace hf := it_t c3 hf
      refine wk_sub [0, 1] rfl ?_
      exact hE _ (Option.some.inj hf).symm
    · replace hf := it_f c3 hf
      refine wk_aload_n G 0 dX3_keepTheRule_15 rfl rfl ?_
      refine wk_get (ci := 3) (v := .ref (ad 1)) G iX3_keepTheRule_X3 (b + 6) (lb hb (by decide)) (ckb6 cI cZ ad hb (M (b + 6))) rfl 0 (Nat.le_of_ble_eq_true rfl) kX3_keepTheRule_28 rfl dX3_keepTheRule_16 ?_
      refine wk_get (ci := 2) (v := .ref (ad 2)) G iX3_keepTheRule_X2 1 (by decide) (ck1 cI cZ ad (M 1)) rfl 1 (Nat.le_of_ble_eq_true rfl) kX3_keepTheRule_74 rfl dX3_keepTheRule_19 ?_
      refine wk_iload_n G 2 dX3_keepTheRule_22 rfl rfl ?_
      obtain ⟨h4, hf⟩ := gd_of hf
      refine wk_iald G 2 (by decide) (ck2 cI cZ ad) h4 dX3_keepTheRule_23 ?_
      obtain ⟨j38, ej38, hf⟩ := nm_ex hf
      have J38 : ∀ (v5 : Int32), j38 v5 = some o → Wk p l e (headSpec wsX3_keepTheRule rmX3_keepTheRule).room s m args below meth c D cI cZ ad A 3 0 0 (QI below D cI cZ ad A args s r M) M 38 [(0, .ref (ad (b + 6))), (1, .int v5), (2, .int v2)] [] := by
        intro v5 hf
        replace hf := jn1 ej38 hf
        obtain ⟨v6, ev6, hf⟩ := nm_ex hf
        refine wk_iinc (v := v6) (lv' := [(2, .int v6), (0, .ref (ad (b + 6))), (1, .int v5)]) G 2 dX3_keepTheRule_38 rfl (by rw [ev6]; rfl) (by decide) rfl ?_
        refine wk_goto (tgt := 4) G dX3_keepTheRule_41 (by decide) ?_
        refine wk_sub [1, 2, 0] rfl ?_
        exact hI _ (Option.some.inj hf).symm
      refine wk_if_ne (tgt := 38) G dX3_keepTheRule_24 (by decide) (fun c7 => ?_) (fun c7 => ?_)
      · replace hf := it_f c7 hf
        exact J38 v1 hf
      · replace hf := it_t c7 hf
        refine wk_iload_n G 1 dX3_keepTheRule_27 rfl rfl ?_
        refine wk_aload_n G 0 dX3_keepTheRule_28 rfl rfl ?_
        refine wk_get (ci := 3) (v := .ref (ad (b + 7))) G iX3_keepTheRule_X3 (b + 6) (lb hb (by decide)) (ckb6 cI cZ ad hb (M (b + 6))) rfl 1 (Nat.le_of_ble_eq_true rfl) kX3_keepTheRule_9 rfl dX3_keepTheRule_29 ?_
        refine wk_iload_n G 2 dX3_keepTheRule_32 rfl rfl ?_
        obtain ⟨h8, hf⟩ := gd_of hf
        refine wk_iald G (b + 7) (lb hb (by decide)) (ckb7 cI cZ ad hb) h8 dX3_keepTheRule_33 ?_
        refine wk_mmax G (by decide +kernel) (by decide +kernel) (by decide +kernel) (by decide +kernel) (Nat.le_of_ble_eq_true rfl) (Nat.le_of_ble_eq_true rfl) (Nat.zero_le _) (Nat.zero_le _) dX3_keepTheRule_34 ?_
        obtain ⟨v9, ev9, hf⟩ := nm_ex hf
        refine wk_nme ev9 ?_
        refine wk_istore_n (lv' := [(1, .int v9), (0, .ref (ad (b + 6))), (2, .int v2)]) G dX3_keepTheRule_37 rfl (by decide) rfl ?_
        refine wk_sub [1, 0, 2] rfl ?_
        exact J38 v9 hf
  exact Lq18
def fX3_greatestHeight (b : Nat) (M : Mem) : Option Int32 := (loop fu (un2 fun (v1 : Int32) (v2 : Int32) => (if (M 1 0) ≤ v2 then (some (.inr v1)) else (gd v2 6 (nm ((if v1 < (M (b + 7) (Int32.toNatClampNeg v2)) then (M (b + 7) (Int32.toNatClampNeg v2)) else v1)) fun (v5 : Int32) => nm (v2 + (1 : Int32)) fun (v6 : Int32) => some (.inl (v5, v6)))) : Option ((Int32 × Int32) ⊕ (Int32)))) ((0 : Int32), (0 : Int32))).bind (un1 fun (v7 : Int32) => some v7)
theorem iX3_greatestHeight_X2 : ∀ w ∈ wsX20, w ∈ wsX3_greatestHeight := by decide +kernel
theorem iX3_greatestHeight_X3 : ∀ w ∈ wsX30, w ∈ wsX3_greatestHeight := by decide +kernel
theorem kX3_greatestHeight_9 : Cond.fieldLink RX3 9 "PartitionPlay$Nodes" "heights" "[I" ∈ wsX3_greatestHeight := by decide +kernel
theorem kX3_greatestHeight_28 : Cond.fieldLink RX3 28 "PartitionPlay$Nodes" "net" "LPartitionPlay$Net;" ∈ wsX3_greatestHeight := by decide +kernel
theorem kX3_greatestHeight_38 : Cond.fieldLink RX3 38 "PartitionPlay$Net" "size" "I" ∈ wsX3_greatestHeight := by decide +kernel
abbrev rmX3_greatestHeight : Room := { frames := 1, cells := 0, slots := 0, locals := 21 }
set_option maxRecDepth 100000 in
set_option maxHeartbeats 4000000 in
theorem c_X3_greatestHeight (l : Launch) (D : va_G) (cI cZ : ClassId) (ad : Nat → Nat) (b : Nat) (hb : b = 12 ∨ b = 34) (M : Mem) (r : Int32) (hf : fX3_greatestHeight b M = some r) : MetI l yX3_greatestHeight wsX3_greatestHeight rmX3_greatestHeight D cI cZ ad [.ref (ad (b + 6))] M r M := by
  refine met_i (cc := cX3_greatestHeight) (nL := 3) (ret := (some .int)) (own := RX3) (by decide) rfl rfl (Nat.le_of_ble_eq_true rfl) ?_
  intro p e s m args below meth c A G hr hlocks
  unfold fX3_greatestHeight at hf
  show Wk p l e (headSpec wsX3_greatestHeight rmX3_greatestHeight).room s m args below meth c D cI cZ ad A 3 0 0 (QI below D cI cZ ad A args s r M) M 0 [(0, .ref (ad (b + 6)))] []
  refine wk_iconst (v := (0 : Int32)) G dX3_greatestHeight_0 (by decide) ?_
  refine wk_istore_n (lv' := [(1, .int (0 : Int32)), (0, .ref (ad (b + 6)))]) G dX3_greatestHeight_1 rfl (by decide) rfl ?_
  refine wk_iconst (v := (0 : Int32)) G dX3_greatestHeight_2 (by decide) ?_
  refine wk_istore_n (lv' := [(2, .int (0 : Int32)), (1, .int (0 : Int32)), (0, .ref (ad (b + 6)))]) G dX3_greatestHeight_3 rfl (by decide) rfl ?_
  refine wk_sub [2, 1, 0] rfl ?_
  obtain ⟨q8, q9, hf⟩ := bd_of hf
  have Cq8 : (up1 fun (v7 : Int32) => Wk p l e (headSpec wsX3_greatestHeight rmX3_greatestHeight).room s m args below meth c D cI cZ ad A 3 0 0 (QI below D cI cZ ad A args s r M) M 32 [(1, .int v7)] []) q8 := by
    obtain ⟨v7, rfl⟩ : ∃ z, z = q8 := ⟨_, rfl⟩
    replace hf := un1_of hf
    show Wk p l e (headSpec wsX3_greatestHeight rmX3_greatestHeight).room s m args below meth c D cI cZ ad A 3 0 0 (QI below D cI cZ ad A args s r M) M 32 [(1, .int v7)] []
    refine wk_iload_n G 0 dX3_greatestHeight_32 rfl rfl ?_
    exact wk_ri G hr hlocks dX3_greatestHeight_33 (congrArg (fun z => (z, M)) (Option.some.inj hf))
  have Lq8 : (up2 fun (v1 : Int32) (v2 : Int32) => Wk p l e (headSpec wsX3_greatestHeight rmX3_greatestHeight).room s m args below meth c D cI cZ ad A 3 0 0 (QI below D cI cZ ad A args s r M) M 4 [(0, .ref (ad (b + 6))), (1, .int v1), (2, .int v2)] []) ((0 : Int32), (0 : Int32)) := by
    refine loop_P (C := (up1 fun (v7 : Int32) => Wk p l e (headSpec wsX3_greatestHeight rmX3_greatestHeight).room s m args below meth c D cI cZ ad A 3 0 0 (QI below D cI cZ ad A args s r M) M 32 [(1, .int v7)] [])) ?_ fu ((0 : Int32), (0 : Int32)) q8 q9 Cq8
    clear hf Cq8 q9
    rintro ⟨v1, v2⟩ o hf hI hE
    replace hf := un2_of hf
    show Wk p l e (headSpec wsX3_greatestHeight rmX3_greatestHeight).room s m args below meth c D cI cZ ad A 3 0 0 (QI below D cI cZ ad A args s r M) M 4 [(0, .ref (ad (b + 6))), (1, .int v1), (2, .int v2)] []
    refine wk_iload_n G 2 dX3_greatestHeight_4 rfl rfl ?_
    refine wk_aload_n G 0 dX3_greatestHeight_5 rfl rfl ?_
    refine wk_get (ci := 3) (v := .ref (ad 1)) G iX3_greatestHeight_X3 (b + 6) (lb hb (by decide)) (ckb6 cI cZ ad hb (M (b + 6))) rfl 0 (Nat.le_of_ble_eq_true rfl) kX3_greatestHeight_28 rfl dX3_greatestHeight_6 ?_
    refine wk_get (ci := 2) (v := .int (M 1 0)) G iX3_greatestHeight_X2 1 (by decide) (ck1 cI cZ ad (M 1)) rfl 0 (Nat.le_of_ble_eq_true rfl) kX3_greatestHeight_38 rfl dX3_greatestHeight_9 ?_
    refine wk_icmp_ge (tgt := 32) G dX3_greatestHeight_12 (by decide) (fun c3 => ?_) (fun c3 => ?_)
    · replace hf := it_t c3 hf
      refine wk_sub [1] rfl ?_
      exact hE _ (Option.some.inj hf).symm
    · replace hf := it_f c3 hf
      refine wk_iload_n G 1 dX3_greatestHeight_15 rfl rfl ?_
      refine wk_aload_n G 0 dX3_greatestHeight_16 rfl rfl ?_
      refine wk_get (ci := 3) (v := .ref (ad (b + 7))) G iX3_greatestHeight_X3 (b + 6) (lb hb (by decide)) (ckb6 cI cZ ad hb (M (b + 6))) rfl 1 (Nat.le_of_ble_eq_true rfl) kX3_greatestHeight_9 rfl dX3_greatestHeight_17 ?_
      refine wk_iload_n G 2 dX3_greatestHeight_20 rfl rfl ?_
      obtain ⟨h4, hf⟩ := gd_of hf
      refine wk_iald G (b + 7) (lb hb (by decide)) (ckb7 cI cZ ad hb) h4 dX3_greatestHeight_21 ?_
      refine wk_mmax G (by decide +kernel) (by decide +kernel) (by decide +kernel) (by decide +kernel) (Nat.le_of_ble_eq_true rfl) (Nat.le_of_ble_eq_true rfl) (Nat.zero_le _) (Nat.zero_le _) dX3_greatestHeight_22 ?_
      obtain ⟨v5, ev5, hf⟩ := nm_ex hf
      refine wk_nme ev5 ?_
      refine wk_istore_n (lv' := [(1, .int v5), (0, .ref (ad (b + 6))), (2, .int v2)]) G dX3_greatestHeight_25 rfl (by decide) rfl ?_
      obtain ⟨v6, ev6, hf⟩ := nm_ex hf
      refine wk_iinc (v := v6) (lv' := [(2, .int v6), (1, .int v5), (0, .ref (ad (b + 6)))]) G 2 dX3_greatestHeight_26 rfl (by rw [ev6]; rfl) (by decide) rfl ?_
      refine wk_goto (tgt := 4) G dX3_greatestHeight_29 (by decide) ?_
      refine wk_sub [2, 1, 0] rfl ?_
      exact hI _ (Option.some.inj hf).symm
  exact Lq8
def fX3_thatKnow (b : Nat) (x1 : Int32) (M : Mem) : Option Int32 := (loop fu (un2 fun (v1 : Int32) (v2 : Int32) => (if (M 1 0) ≤ v2 then (some (.inr v1)) else (gd v2 6 (nm ((v1 + (((M (b + 8) (Int32.toNatClampNeg v2)) >>> (x1 &&& 31)) &&& (1 : Int32)))) fun (v5 : Int32) => nm (v2 + (1 : Int32)) fun (v6 : Int32) => some (.inl (v5, v6)))) : Option ((Int32 × Int32) ⊕ (Int32)))) ((0 : Int32), (0 : Int32))).bind (un1 fun (v7 : Int32) => some v7)
theorem iX3_thatKnow_X2 : ∀ w ∈ wsX20, w ∈ wsX3_thatKnow := by decide +kernel
theorem iX3_thatKnow_X3 : ∀ w ∈ wsX30, w ∈ wsX3_thatKnow := by decide +kernel
theorem kX3_thatKnow_15 : Cond.fieldLink RX3 15 "PartitionPlay$Nodes" "known" "[I" ∈ wsX3_thatKnow := by decide +kernel
theorem kX3_thatKnow_28 : Cond.fieldLink RX3 28 "PartitionPlay$Nodes" "net" "LPartitionPlay$Net;" ∈ wsX3_thatKnow := by decide +kernel
theorem kX3_thatKnow_38 : Cond.fieldLink RX3 38 "PartitionPlay$Net" "size" "I" ∈ wsX3_thatKnow := by decide +kernel
abbrev rmX3_thatKnow : Room := { frames := 0, cells := 0, slots := 0, locals := 0 }
set_option maxRecDepth 100000 in
set_option maxHeartbeats 4000000 in
theorem c_X3_thatKnow (l : Launch) (D : va_G) (cI cZ : ClassId) (ad : Nat → Nat) (b : Nat) (hb : b = 12 ∨ b = 34) (x1 : Int32) (M : Mem) (r : Int32) (hf : fX3_thatKnow b x1 M = some r) : MetI l yX3_thatKnow wsX3_thatKnow rmX3_thatKnow D cI cZ ad [.ref (ad (b + 6)), .int x1] M r M := by
  refine met_i (cc := cX3_thatKnow) (nL := 4) (ret := (some .int)) (own := RX3) (by decide) rfl rfl (Nat.le_of_ble_eq_true rfl) ?_
  intro p e s m args below meth c A G hr hlocks
  unfold fX3_thatKnow at hf
  show Wk p l e (headSpec wsX3_thatKnow rmX3_thatKnow).room s m args below meth c D cI cZ ad A 4 0 0 (QI below D cI cZ ad A args s r M) M 0 [(0, .ref (ad (b + 6))), (1, .int x1)] []
  refine wk_iconst (v := (0 : Int32)) G dX3_thatKnow_0 (by decide) ?_
  refine wk_istore_n (lv' := [(2, .int (0 : Int32)), (0, .ref (ad (b + 6))), (1, .int x1)]) G dX3_thatKnow_1 rfl (by decide) rfl ?_
  refine wk_iconst (v := (0 : Int32)) G dX3_thatKnow_2 (by decide) ?_
  refine wk_istore_n (lv' := [(3, .int (0 : Int32)), (2, .int (0 : Int32)), (0, .ref (ad (b + 6))), (1, .int x1)]) G dX3_thatKnow_3 rfl (by decide) rfl ?_
  refine wk_sub [2, 3, 1, 0] rfl ?_
  obtain ⟨q8, q9, hf⟩ := bd_of hf
  have Cq8 : (up1 fun (v7 : Int32) => Wk p l e (headSpec wsX3_thatKnow rmX3_thatKnow).room s m args below meth c D cI cZ ad A 4 0 0 (QI below D cI cZ ad A args s r M) M 34 [(2, .int v7)] []) q8 := by
    obtain ⟨v7, rfl⟩ : ∃ z, z = q8 := ⟨_, rfl⟩
    replace hf := un1_of hf
    show Wk p l e (headSpec wsX3_thatKnow rmX3_thatKnow).room s m args below meth c D cI cZ ad A 4 0 0 (QI below D cI cZ ad A args s r M) M 34 [(2, .int v7)] []
    refine wk_iload_n G 0 dX3_thatKnow_34 rfl rfl ?_
    exact wk_ri G hr hlocks dX3_thatKnow_35 (congrArg (fun z => (z, M)) (Option.some.inj hf))
  have Lq8 : (up2 fun (v1 : Int32) (v2 : Int32) => Wk p l e (headSpec wsX3_thatKnow rmX3_thatKnow).room s m args below meth c D cI cZ ad A 4 0 0 (QI below D cI cZ ad A args s r M) M 4 [(0, .ref (ad (b + 6))), (1, .int x1), (2, .int v1), (3, .int v2)] []) ((0 : Int32), (0 : Int32)) := by
    refine loop_P (C := (up1 fun (v7 : Int32) => Wk p l e (headSpec wsX3_thatKnow rmX3_thatKnow).room s m args below meth c D cI cZ ad A 4 0 0 (QI below D cI cZ ad A args s r M) M 34 [(2, .int v7)] [])) ?_ fu ((0 : Int32), (0 : Int32)) q8 q9 Cq8
    clear hf Cq8 q9
    rintro ⟨v1, v2⟩ o hf hI hE
    replace hf := un2_of hf
    show Wk p l e (headSpec wsX3_thatKnow rmX3_thatKnow).room s m args below meth c D cI cZ ad A 4 0 0 (QI below D cI cZ ad A args s r M) M 4 [(0, .ref (ad (b + 6))), (1, .int x1), (2, .int v1), (3, .int v2)] []
    refine wk_iload_n G 3 dX3_thatKnow_4 rfl rfl ?_
    refine wk_aload_n G 0 dX3_thatKnow_5 rfl rfl ?_
    refine wk_get (ci := 3) (v := .ref (ad 1)) G iX3_thatKnow_X3 (b + 6) (lb hb (by decide)) (ckb6 cI cZ ad hb (M (b + 6))) rfl 0 (Nat.le_of_ble_eq_true rfl) kX3_thatKnow_28 rfl dX3_thatKnow_6 ?_
    refine wk_get (ci := 2) (v := .int (M 1 0)) G iX3_thatKnow_X2 1 (by decide) (ck1 cI cZ ad (M 1)) rfl 0 (Nat.le_of_ble_eq_true rfl) kX3_thatKnow_38 rfl dX3_thatKnow_9 ?_
    refine wk_icmp_ge (tgt := 34) G dX3_thatKnow_12 (by decide) (fun c3 => ?_) (fun c3 => ?_)
    · replace hf := it_t c3 hf
      refine wk_sub [2] rfl ?_
      exact hE _ (Option.some.inj hf).symm
    · replace hf := it_f c3 hf
      refine wk_iload_n G 2 dX3_thatKnow_15 rfl rfl ?_
      refine wk_aload_n G 0 dX3_thatKnow_16 rfl rfl ?_
      refine wk_get (ci := 3) (v := .ref (ad (b + 8))) G iX3_thatKnow_X3 (b + 6) (lb hb (by decide)) (ckb6 cI cZ ad hb (M (b + 6))) rfl 2 (Nat.le_of_ble_eq_true rfl) kX3_thatKnow_15 rfl dX3_thatKnow_17 ?_
      refine wk_iload_n G 3 dX3_thatKnow_20 rfl rfl ?_
      obtain ⟨h4, hf⟩ := gd_of hf
      refine wk_iald G (b + 8) (lb hb (by decide)) (ckb8 cI cZ ad hb) h4 dX3_thatKnow_21 ?_
      refine wk_iload_n G 1 dX3_thatKnow_22 rfl rfl ?_
      refine wk_ishr G dX3_thatKnow_23 ?_
      refine wk_iconst (v := (1 : Int32)) G dX3_thatKnow_24 (by decide) ?_
      refine wk_iand G dX3_thatKnow_25 ?_
      refine wk_iadd G dX3_thatKnow_26 ?_
      obtain ⟨v5, ev5, hf⟩ := nm_ex hf
      refine wk_nme ev5 ?_
      refine wk_istore_n (lv' := [(2, .int v5), (0, .ref (ad (b + 6))), (1, .int x1), (3, .int v2)]) G dX3_thatKnow_27 rfl (by decide) rfl ?_
      obtain ⟨v6, ev6, hf⟩ := nm_ex hf
      refine wk_iinc (v := v6) (lv' := [(3, .int v6), (2, .int v5), (0, .ref (ad (b + 6))), (1, .int x1)]) G 3 dX3_thatKnow_28 rfl (by rw [ev6]; rfl) (by decide) rfl ?_
      refine wk_goto (tgt := 4) G dX3_thatKnow_31 (by decide) ?_
      refine wk_sub [2, 3, 1, 0] rfl ?_
      exact hI _ (Option.some.inj hf).symm
  exact Lq8
def fX6_isTimed (x0 : Int32) : Option Int32 := if (3 : Int32) < x0 then (some (0 : Int32)) else (some (1 : Int32))
abbrev rmX6_isTimed : Room := { frames := 0, cells := 0, slots := 0, locals := 0 }
set_option maxRecDepth 100000 in
set_option maxHeartbeats 4000000 in
theorem c_X6_isTimed (l : Launch) (D : va_G) (cI cZ : ClassId) (ad : Nat → Nat) (x0 : Int32) (M : Mem) (r : Int32) (hf : fX6_isTimed x0 = some r) : MetI l yX6_isTimed wsX6_isTimed rmX6_isTimed D cI cZ ad [.int x0] M r M := by
  refine met_i (cc := cX6_isTimed) (nL := 1) (ret := (some .boolean)) (own := RX6) (by decide) rfl rfl (Nat.le_of_ble_eq_true rfl) ?_
  intro p e s m args below meth c A G hr hlocks
  unfold fX6_isTimed at hf
  show Wk p l e (headSpec wsX6_isTimed rmX6_isTimed).room s m args below meth c D cI cZ ad A 1 0 0 (QI below D cI cZ ad A args s r M) M 0 [(0, .int x0)] []
  refine wk_iload_n G 0 dX6_isTimed_0 rfl rfl ?_
  refine wk_iconst (v := (3 : Int32)) G dX6_isTimed_1 (by decide) ?_
  refine wk_icmp_gt (tgt := 9) G dX6_isTimed_2 (by decide) (fun c1 => ?_) (fun c1 => ?_)
  · replace hf := it_t c1 hf
    refine wk_iconst (v := (0 : Int32)) G dX6_isTimed_9 (by decide) ?_
    exact wk_rz G hr hlocks (Or.inl rfl) dX6_isTimed_10 (congrArg (fun z => (z, M)) (Option.some.inj hf))
  · replace hf := it_f c1 hf
    refine wk_iconst (v := (1 : Int32)) G dX6_isTimed_5 (by decide) ?_
    refine wk_goto (tgt := 10) G dX6_isTimed_6 (by decide) ?_
    exact wk_rz G hr hlocks (Or.inr rfl) dX6_isTimed_10 (congrArg (fun z => (z, M)) (Option.some.inj hf))
def fX6_isLetter (x0 : Int32) : Option Int32 := if x0 < 0 then (some (0 : Int32)) else (if (1200 : Int32) ≤ x0 then (some (0 : Int32)) else (some (1 : Int32)))
abbrev rmX6_isLetter : Room := { frames := 0, cells := 0, slots := 0, locals := 0 }
set_option maxRecDepth 100000 in
set_option maxHeartbeats 4000000 in
theorem c_X6_isLetter (l : Launch) (D : va_G) (cI cZ : ClassId) (ad : Nat → Nat) (x0 : Int32) (M : Mem) (r : Int32) (hf : fX6_isLetter x0 = some r) : MetI l yX6_isLetter wsX6_isLetter rmX6_isLetter D cI cZ ad [.int x0] M r M := by
  refine met_i (cc := cX6_isLetter) (nL := 1) (ret := (some .boolean)) (own := RX6) (by decide) rfl rfl (Nat.le_of_ble_eq_true rfl) ?_
  intro p e s m args below meth c A G hr hlocks
  unfold fX6_isLetter at hf
  show Wk p l e (headSpec wsX6_isLetter rmX6_isLetter).room s m args below meth c D cI cZ ad A 1 0 0 (QI below D cI cZ ad A args s r M) M 0 [(0, .int x0)] []
  refine wk_iload_n G 0 dX6_isLetter_0 rfl rfl ?_
  refine wk_if_lt (tgt := 15) G dX6_isLetter_1 (by decide) (fun c1 => ?_) (fun c1 => ?_)
  · replace hf := it_t c1 hf
    refine wk_iconst (v := (0 : Int32)) G dX6_isLetter_15 (by decide) ?_
    exact wk_rz G hr hlocks (Or.inl rfl) dX6_isLetter_16 (congrArg (fun z => (z, M)) (Option.some.inj hf))
  · replace hf := it_f c1 hf
    refine wk_iload_n G 0 dX6_isLetter_4 rfl rfl ?_
    refine wk_sipush (v := (1200 : Int32)) G dX6_isLetter_5 (by decide) ?_
    refine wk_icmp_ge (tgt := 15) G dX6_isLetter_8 (by decide) (fun c2 => ?_) (fun c2 => ?_)
    · replace hf := it_t c2 hf
      refine wk_iconst (v := (0 : Int32)) G dX6_isLetter_15 (by decide) ?_
      exact wk_rz G hr hlocks (Or.inl rfl) dX6_isLetter_16 (congrArg (fun z => (z, M)) (Option.some.inj hf))
    · replace hf := it_f c2 hf
      refine wk_iconst (v := (1 : Int32)) G dX6_isLetter_11 (by decide) ?_
      refine wk_goto (tgt := 16) G dX6_isLetter_12 (by decide) ?_
      exact wk_rz G hr hlocks (Or.inr rfl) dX6_isLetter_16 (congrArg (fun z => (z, M)) (Option.some.inj hf))
def fX6_place (x0 : Int32) (x1 : Int32) : Option Int32 := some ((x0 * (6 : Int32)) + x1)
abbrev rmX6_place : Room := { frames := 0, cells := 0, slots := 0, locals := 0 }
set_option maxRecDepth 100000 in
set_option maxHeartbeats 4000000 in
theorem c_X6_place (l : Launch) (D : va_G) (cI cZ : ClassId) (ad : Nat → Nat) (x0 : Int32) (x1 : Int32) (M : Mem) (r : Int32) (hf : fX6_place x0 x1 = some r) : MetI l yX6_place wsX6_place rmX6_place D cI cZ ad [.int x0, .int x1] M r M := by
  refine met_i (cc := cX6_place) (nL := 2) (ret := (some .int)) (own := RX6) (by decide) rfl rfl (Nat.le_of_ble_eq_true rfl) ?_
  intro p e s m args below meth c A G hr hlocks
  unfold fX6_place at hf
  show Wk p l e (headSpec wsX6_place rmX6_place).room s m args below meth c D cI cZ ad A 2 0 0 (QI below D cI cZ ad A args s r M) M 0 [(0, .int x0), (1, .int x1)] []
  refine wk_iload_n G 0 dX6_place_0 rfl rfl ?_
  refine wk_bipush (v := (6 : Int32)) G dX6_place_1 (by decide) ?_
  refine wk_imul G dX6_place_3 ?_
  refine wk_iload_n G 1 dX6_place_4 rfl rfl ?_
  refine wk_iadd G dX6_place_5 ?_
  exact wk_ri G hr hlocks dX6_place_6 (congrArg (fun z => (z, M)) (Option.some.inj hf))
def fX6_namesLetter (x0 : Int32) : Option Int32 := if x0 < (4 : Int32) then (some (0 : Int32)) else (some (1 : Int32))
abbrev rmX6_namesLetter : Room := { frames := 0, cells := 0, slots := 0, locals := 0 }
set_option maxRecDepth 100000 in
set_option maxHeartbeats 4000000 in
theorem c_X6_namesLetter (l : Launch) (D : va_G) (cI cZ : ClassId) (ad : Nat → Nat) (x0 : Int32) (M : Mem) (r : Int32) (hf : fX6_namesLetter x0 = some r) : MetI l yX6_namesLetter wsX6_namesLetter rmX6_namesLetter D cI cZ ad [.int x0] M r M := by
  refine met_i (cc := cX6_namesLetter) (nL := 1) (ret := (some .boolean)) (own := RX6) (by decide) rfl rfl (Nat.le_of_ble_eq_true rfl) ?_
  intro p e s m args below meth c A G hr hlocks
  unfold fX6_namesLetter at hf
  show Wk p l e (headSpec wsX6_namesLetter rmX6_namesLetter).room s m args below meth c D cI cZ ad A 1 0 0 (QI below D cI cZ ad A args s r M) M 0 [(0, .int x0)] []
  refine wk_iload_n G 0 dX6_namesLetter_0 rfl rfl ?_
  refine wk_iconst (v := (4 : Int32)) G dX6_namesLetter_1 (by decide) ?_
  refine wk_icmp_lt (tgt := 9) G dX6_namesLetter_2 (by decide) (fun c1 => ?_) (fun c1 => ?_)
  · replace hf := it_t c1 hf
    refine wk_iconst (v := (0 : Int32)) G dX6_namesLetter_9 (by decide) ?_
    exact wk_rz G hr hlocks (Or.inl rfl) dX6_namesLetter_10 (congrArg (fun z => (z, M)) (Option.some.inj hf))
  · replace hf := it_f c1 hf
    refine wk_iconst (v := (1 : Int32)) G dX6_namesLetter_5 (by decide) ?_
    refine wk_goto (tgt := 10) G dX6_namesLetter_6 (by decide) ?_
    exact wk_rz G hr hlocks (Or.inr rfl) dX6_namesLetter_10 (congrArg (fun z => (z, M)) (Option.some.inj hf))
