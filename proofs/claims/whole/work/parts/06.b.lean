def fX4_hasTurn (b : Nat) (x1 : Int32) (M : Mem) : Option Int32 := if x1 < 0 then (some (0 : Int32)) else (if (M b 8) ≤ x1 then (some (0 : Int32)) else (some (1 : Int32)))
theorem iX4_hasTurn_X4 : ∀ w ∈ wsX40, w ∈ wsX4_hasTurn := by decide +kernel
theorem kX4_hasTurn_58 : Cond.fieldLink RX4 58 "PartitionPlay$Play" "turns" "I" ∈ wsX4_hasTurn := by decide +kernel
abbrev rmX4_hasTurn : Room := { frames := 0, cells := 0, slots := 0, locals := 0 }
set_option maxRecDepth 100000 in
set_option maxHeartbeats 4000000 in
theorem c_X4_hasTurn (l : Launch) (D : va_G) (cI cZ : ClassId) (ad : Nat → Nat) (b : Nat) (hb : b = 12 ∨ b = 34) (x1 : Int32) (M : Mem) (r : Int32) (hf : fX4_hasTurn b x1 M = some r) : MetI l yX4_hasTurn wsX4_hasTurn rmX4_hasTurn D cI cZ ad [.ref (ad b), .int x1] M r M := by
  refine met_i (cc := cX4_hasTurn) (nL := 2) (ret := (some .boolean)) (own := RX4) (by decide) rfl rfl (Nat.le_of_ble_eq_true rfl) ?_
  intro p e s m args below meth c A G hr hlocks
  unfold fX4_hasTurn at hf
  show Wk p l e (headSpec wsX4_hasTurn rmX4_hasTurn).room s m args below meth c D cI cZ ad A 2 0 0 (QI below D cI cZ ad A args s r M) M 0 [(0, .ref (ad b)), (1, .int x1)] []
  refine wk_iload_n G 1 dX4_hasTurn_0 rfl rfl ?_
  refine wk_if_lt (tgt := 16) G dX4_hasTurn_1 (by decide) (fun c1 => ?_) (fun c1 => ?_)
  · replace hf := it_t c1 hf
    refine wk_iconst (v := (0 : Int32)) G dX4_hasTurn_16 (by decide) ?_
    exact wk_rz G hr hlocks (Or.inl rfl) dX4_hasTurn_17 (congrArg (fun z => (z, M)) (Option.some.inj hf))
  · replace hf := it_f c1 hf
    refine wk_iload_n G 1 dX4_hasTurn_4 rfl rfl ?_
    refine wk_aload_n G 0 dX4_hasTurn_5 rfl rfl ?_
    refine wk_get (ci := 4) (v := .int (M b 8)) G iX4_hasTurn_X4 b (lb0 hb) (ckb0 cI cZ ad hb (M b)) rfl 8 (Nat.le_of_ble_eq_true rfl) kX4_hasTurn_58 rfl dX4_hasTurn_6 ?_
    refine wk_icmp_ge (tgt := 16) G dX4_hasTurn_9 (by decide) (fun c2 => ?_) (fun c2 => ?_)
    · replace hf := it_t c2 hf
      refine wk_iconst (v := (0 : Int32)) G dX4_hasTurn_16 (by decide) ?_
      exact wk_rz G hr hlocks (Or.inl rfl) dX4_hasTurn_17 (congrArg (fun z => (z, M)) (Option.some.inj hf))
    · replace hf := it_f c2 hf
      refine wk_iconst (v := (1 : Int32)) G dX4_hasTurn_12 (by decide) ?_
      refine wk_goto (tgt := 17) G dX4_hasTurn_13 (by decide) ?_
      exact wk_rz G hr hlocks (Or.inr rfl) dX4_hasTurn_17 (congrArg (fun z => (z, M)) (Option.some.inj hf))
def fX4_begin (b : Nat) (x1 : Int32) (x2 : Int32) (M : Mem) : Option Mem := nm ((if (40 : Int32) < x1 then (40 : Int32) else x1)) fun (v1 : Int32) => nm (st M b 8 v1) fun (M2 : Mem) => nm (st M2 b 12 x2) fun (M3 : Mem) => nm (st M3 b 9 (-1 : Int32)) fun (M4 : Mem) => nm (st M4 b 10 (0 : Int32)) fun (M5 : Mem) => nm (st M5 b 11 (0 : Int32)) fun (M6 : Mem) => (fX1_clear b M6).bind (fun (M7 : Mem) => (fX0_clear b M7).bind (fun (M9 : Mem) => (fX3_begin b M9).bind (fun (M11 : Mem) => some M11)))
theorem iX4_begin_X4 : ∀ w ∈ wsX40, w ∈ wsX4_begin := by decide +kernel
theorem kX4_begin_12 : Cond.fieldLink RX4 12 "PartitionPlay$Play" "comings" "LPartitionPlay$Comings;" ∈ wsX4_begin := by decide +kernel
theorem kX4_begin_21 : Cond.fieldLink RX4 21 "PartitionPlay$Play" "letters" "LPartitionPlay$Letters;" ∈ wsX4_begin := by decide +kernel
theorem kX4_begin_33 : Cond.fieldLink RX4 33 "PartitionPlay$Play" "failedAt" "I" ∈ wsX4_begin := by decide +kernel
theorem kX4_begin_54 : Cond.fieldLink RX4 54 "PartitionPlay$Play" "nodes" "LPartitionPlay$Nodes;" ∈ wsX4_begin := by decide +kernel
theorem kX4_begin_58 : Cond.fieldLink RX4 58 "PartitionPlay$Play" "turns" "I" ∈ wsX4_begin := by decide +kernel
theorem kX4_begin_87 : Cond.fieldLink RX4 87 "PartitionPlay$Play" "alsoLost" "I" ∈ wsX4_begin := by decide +kernel
theorem kX4_begin_90 : Cond.fieldLink RX4 90 "PartitionPlay$Play" "taken" "I" ∈ wsX4_begin := by decide +kernel
theorem kX4_begin_93 : Cond.fieldLink RX4 93 "PartitionPlay$Play" "gone" "I" ∈ wsX4_begin := by decide +kernel
abbrev rmX4_begin : Room := { frames := 2, cells := 0, slots := 0, locals := 44 }
set_option maxRecDepth 100000 in
set_option maxHeartbeats 4000000 in
theorem c_X4_begin (l : Launch) (D : va_G) (cI cZ : ClassId) (ad : Nat → Nat) (b : Nat) (hb : b = 12 ∨ b = 34) (x1 : Int32) (x2 : Int32) (M : Mem) (M' : Mem) (hf : fX4_begin b x1 x2 M = some M') : MetV l yX4_begin wsX4_begin rmX4_begin D cI cZ ad [.ref (ad b), .int x1, .int x2] M M' := by
  refine met_v (cc := cX4_begin) (nL := 3) (ret := none) (own := RX4) (by decide) rfl rfl (Nat.le_of_ble_eq_true rfl) ?_
  intro p e s m args below meth c A G hr hlocks
  unfold fX4_begin at hf
  show Wk p l e (headSpec wsX4_begin rmX4_begin).room s m args below meth c D cI cZ ad A 3 0 0 (QV below D cI cZ ad A args s M') M 0 [(0, .ref (ad b)), (1, .int x1), (2, .int x2)] []
  refine wk_aload_n G 0 dX4_begin_0 rfl rfl ?_
  refine wk_iload_n G 1 dX4_begin_1 rfl rfl ?_
  refine wk_bipush (v := (40 : Int32)) G dX4_begin_2 (by decide) ?_
  refine wk_mmin G (by decide +kernel) (by decide +kernel) (by decide +kernel) (by decide +kernel) (Nat.le_of_ble_eq_true rfl) (Nat.le_of_ble_eq_true rfl) (Nat.zero_le _) (Nat.zero_le _) dX4_begin_4 ?_
  obtain ⟨v1, ev1, hf⟩ := nm_ex hf
  refine wk_nme ev1 ?_
  obtain ⟨M2, eM2, hf⟩ := nm_ex hf
  refine wk_put (ci := 4) G iX4_begin_X4 tyX4 tyX4_ok nmX4 b (lb0 hb) (ckb0 cI cZ ad hb (M b)) rfl 8 (Nat.le_of_ble_eq_true rfl) kX4_begin_58 rfl (by decide +kernel) (Nat.le_of_ble_eq_true rfl) (cpb0_8 cI cZ ad hb (M b) v1) dX4_begin_7 eM2 ?_
  refine wk_aload_n G 0 dX4_begin_10 rfl rfl ?_
  refine wk_iload_n G 2 dX4_begin_11 rfl rfl ?_
  obtain ⟨M3, eM3, hf⟩ := nm_ex hf
  refine wk_put (ci := 4) G iX4_begin_X4 tyX4 tyX4_ok nmX4 b (lb0 hb) (ckb0 cI cZ ad hb (M2 b)) rfl 12 (Nat.le_of_ble_eq_true rfl) kX4_begin_87 rfl (by decide +kernel) (Nat.le_of_ble_eq_true rfl) (cpb0_12 cI cZ ad hb (M2 b) x2) dX4_begin_12 eM3 ?_
  refine wk_aload_n G 0 dX4_begin_15 rfl rfl ?_
  refine wk_iconst (v := (-1 : Int32)) G dX4_begin_16 (by decide) ?_
  obtain ⟨M4, eM4, hf⟩ := nm_ex hf
  refine wk_put (ci := 4) G iX4_begin_X4 tyX4 tyX4_ok nmX4 b (lb0 hb) (ckb0 cI cZ ad hb (M3 b)) rfl 9 (Nat.le_of_ble_eq_true rfl) kX4_begin_33 rfl (by decide +kernel) (Nat.le_of_ble_eq_true rfl) (cpb0_9 cI cZ ad hb (M3 b) (-1 : Int32)) dX4_begin_17 eM4 ?_
  refine wk_aload_n G 0 dX4_begin_20 rfl rfl ?_
  refine wk_iconst (v := (0 : Int32)) G dX4_begin_21 (by decide) ?_
  obtain ⟨M5, eM5, hf⟩ := nm_ex hf
  refine wk_put (ci := 4) G iX4_begin_X4 tyX4 tyX4_ok nmX4 b (lb0 hb) (ckb0 cI cZ ad hb (M4 b)) rfl 10 (Nat.le_of_ble_eq_true rfl) kX4_begin_90 rfl (by decide +kernel) (Nat.le_of_ble_eq_true rfl) (cpb0_10 cI cZ ad hb (M4 b) (0 : Int32)) dX4_begin_22 eM5 ?_
  refine wk_aload_n G 0 dX4_begin_25 rfl rfl ?_
  refine wk_iconst (v := (0 : Int32)) G dX4_begin_26 (by decide) ?_
  obtain ⟨M6, eM6, hf⟩ := nm_ex hf
  refine wk_put (ci := 4) G iX4_begin_X4 tyX4 tyX4_ok nmX4 b (lb0 hb) (ckb0 cI cZ ad hb (M5 b)) rfl 11 (Nat.le_of_ble_eq_true rfl) kX4_begin_93 rfl (by decide +kernel) (Nat.le_of_ble_eq_true rfl) (cpb0_11 cI cZ ad hb (M5 b) (0 : Int32)) dX4_begin_27 eM6 ?_
  refine wk_aload_n G 0 dX4_begin_30 rfl rfl ?_
  refine wk_get (ci := 4) (v := .ref (ad (b + 12))) G iX4_begin_X4 b (lb0 hb) (ckb0 cI cZ ad hb (M6 b)) rfl 5 (Nat.le_of_ble_eq_true rfl) kX4_begin_21 rfl dX4_begin_31 ?_
  obtain ⟨M7, q8, hf⟩ := bd_of hf
  refine wk_callVv (As := []) (rest := []) (ci := 1) G (b + 12) (lb hb (by decide)) (c_X1_clear l D cI cZ ad b hb M6 M7 q8) (cwV 0 G.2.2.2.2.1 gX4_begin_X1_clear rfl rfl rfl (by decide +kernel) ⟨Nat.le_of_ble_eq_true rfl, Nat.le_of_ble_eq_true rfl⟩) (ckb12 cI cZ ad hb (M6 (b + 12))) rfl rfl rfl (Nat.le_of_ble_eq_true rfl) dX4_begin_34 ⟨Nat.le_of_ble_eq_true rfl, Nat.le_of_ble_eq_true rfl⟩ ?_
  refine wk_aload_n G 0 dX4_begin_37 rfl rfl ?_
  refine wk_get (ci := 4) (v := .ref (ad (b + 1))) G iX4_begin_X4 b (lb0 hb) (ckb0 cI cZ ad hb (M7 b)) rfl 3 (Nat.le_of_ble_eq_true rfl) kX4_begin_12 rfl dX4_begin_38 ?_
  obtain ⟨M9, q10, hf⟩ := bd_of hf
  refine wk_callVv (As := []) (rest := []) (ci := 0) G (b + 1) (lb hb (by decide)) (c_X0_clear l D cI cZ ad b hb M7 M9 q10) (cwV 0 G.2.2.2.2.1 gX4_begin_X0_clear rfl rfl rfl (by decide +kernel) ⟨Nat.le_of_ble_eq_true rfl, Nat.le_of_ble_eq_true rfl⟩) (ckb1 cI cZ ad hb (M7 (b + 1))) rfl rfl rfl (Nat.le_of_ble_eq_true rfl) dX4_begin_41 ⟨Nat.le_of_ble_eq_true rfl, Nat.le_of_ble_eq_true rfl⟩ ?_
  refine wk_aload_n G 0 dX4_begin_44 rfl rfl ?_
  refine wk_get (ci := 4) (v := .ref (ad (b + 6))) G iX4_begin_X4 b (lb0 hb) (ckb0 cI cZ ad hb (M9 b)) rfl 4 (Nat.le_of_ble_eq_true rfl) kX4_begin_54 rfl dX4_begin_45 ?_
  obtain ⟨M11, q12, hf⟩ := bd_of hf
  refine wk_callVv (As := []) (rest := []) (ci := 3) G (b + 6) (lb hb (by decide)) (c_X3_begin l D cI cZ ad b hb M9 M11 q12) (cwV 0 G.2.2.2.2.1 gX4_begin_X3_begin rfl rfl rfl (by decide +kernel) ⟨Nat.le_of_ble_eq_true rfl, Nat.le_of_ble_eq_true rfl⟩) (ckb6 cI cZ ad hb (M9 (b + 6))) rfl rfl rfl (Nat.le_of_ble_eq_true rfl) dX4_begin_48 ⟨Nat.le_of_ble_eq_true rfl, Nat.le_of_ble_eq_true rfl⟩ ?_
  exact wk_rv G hr hlocks dX4_begin_51 (Option.some.inj hf)
def fX5_happensAt (x1 : Int32) (x2 : Int32) (M : Mem) : Option Int32 := gd x1 20 (if (M 10 (Int32.toNatClampNeg x1)) = 0 then (gd x1 20 ((fX6_isTimed (M 6 (Int32.toNatClampNeg x1))).bind (fun (r4 : Int32) => if r4 = 0 then (some (0 : Int32)) else (gd x1 20 (if (M 7 (Int32.toNatClampNeg x1)) = x2 then (some (1 : Int32)) else (some (0 : Int32))))))) else (some (0 : Int32)))
theorem iX5_happensAt_X5 : ∀ w ∈ wsX50, w ∈ wsX5_happensAt := by decide +kernel
theorem kX5_happensAt_9 : Cond.fieldLink RX5 9 "PartitionPlay$Schedule" "kinds" "[I" ∈ wsX5_happensAt := by decide +kernel
theorem kX5_happensAt_15 : Cond.fieldLink RX5 15 "PartitionPlay$Schedule" "turns" "[I" ∈ wsX5_happensAt := by decide +kernel
theorem kX5_happensAt_24 : Cond.fieldLink RX5 24 "PartitionPlay$Schedule" "leftOut" "[Z" ∈ wsX5_happensAt := by decide +kernel
abbrev rmX5_happensAt : Room := { frames := 1, cells := 0, slots := 0, locals := 20 }
set_option maxRecDepth 100000 in
set_option maxHeartbeats 4000000 in
theorem c_X5_happensAt (l : Launch) (D : va_G) (cI cZ : ClassId) (ad : Nat → Nat) (x1 : Int32) (x2 : Int32) (M : Mem) (r : Int32) (hf : fX5_happensAt x1 x2 M = some r) : MetI l yX5_happensAt wsX5_happensAt rmX5_happensAt D cI cZ ad [.ref (ad 5), .int x1, .int x2] M r M := by
  refine met_i (cc := cX5_happensAt) (nL := 3) (ret := (some .boolean)) (own := RX5) (by decide) rfl rfl (Nat.le_of_ble_eq_true rfl) ?_
  intro p e s m args below meth c A G hr hlocks
  unfold fX5_happensAt at hf
  show Wk p l e (headSpec wsX5_happensAt rmX5_happensAt).room s m args below meth c D cI cZ ad A 3 0 0 (QI below D cI cZ ad A args s r M) M 0 [(0, .ref (ad 5)), (1, .int x1), (2, .int x2)] []
  refine wk_aload_n G 0 dX5_happensAt_0 rfl rfl ?_
  refine wk_get (ci := 5) (v := .ref (ad 10)) G iX5_happensAt_X5 5 (by decide) (ck5 cI cZ ad (M 5)) rfl 5 (Nat.le_of_ble_eq_true rfl) kX5_happensAt_24 rfl dX5_happensAt_1 ?_
  refine wk_iload_n G 1 dX5_happensAt_4 rfl rfl ?_
  obtain ⟨h1, hf⟩ := gd_of hf
  refine wk_zald G 10 (by decide) (ck10 cI cZ ad) h1 dX5_happensAt_5 ?_
  refine wk_if_ne (tgt := 35) G dX5_happensAt_6 (by decide) (fun c2 => ?_) (fun c2 => ?_)
  · replace hf := it_f c2 hf
    refine wk_iconst (v := (0 : Int32)) G dX5_happensAt_35 (by decide) ?_
    exact wk_rz G hr hlocks (Or.inl rfl) dX5_happensAt_36 (congrArg (fun z => (z, M)) (Option.some.inj hf))
  · replace hf := it_t c2 hf
    refine wk_aload_n G 0 dX5_happensAt_9 rfl rfl ?_
    refine wk_get (ci := 5) (v := .ref (ad 6)) G iX5_happensAt_X5 5 (by decide) (ck5 cI cZ ad (M 5)) rfl 1 (Nat.le_of_ble_eq_true rfl) kX5_happensAt_9 rfl dX5_happensAt_10 ?_
    refine wk_iload_n G 1 dX5_happensAt_13 rfl rfl ?_
    obtain ⟨h3, hf⟩ := gd_of hf
    refine wk_iald G 6 (by decide) (ck6 cI cZ ad) h3 dX5_happensAt_14 ?_
    obtain ⟨r4, q5, hf⟩ := bd_of hf
    refine wk_callNi (As := [.int (M 6 (Int32.toNatClampNeg x1))]) (rest := []) G (c_X6_isTimed l D cI cZ ad (M 6 (Int32.toNatClampNeg x1)) M r4 q5) ⟨va_cnB 1 G.2.2.2.2.1 gX5_happensAt_X6_isTimed_n53 rfl rfl rfl G.2.2.2.2.2.2.2.2.2.2.1 (G.2.2.2.2.1 _ (by decide +kernel)) (by decide +kernel) ⟨Nat.le_of_ble_eq_true rfl, Nat.le_of_ble_eq_true rfl⟩, G.2.2.2.2.1 _ (by decide +kernel), trivial⟩ rfl rfl (Nat.le_of_ble_eq_true rfl) dX5_happensAt_15 ⟨Nat.le_of_ble_eq_true rfl, Nat.le_of_ble_eq_true rfl⟩ ?_
    refine wk_if_eq (tgt := 35) G dX5_happensAt_18 (by decide) (fun c6 => ?_) (fun c6 => ?_)
    · replace hf := it_t c6 hf
      refine wk_iconst (v := (0 : Int32)) G dX5_happensAt_35 (by decide) ?_
      exact wk_rz G hr hlocks (Or.inl rfl) dX5_happensAt_36 (congrArg (fun z => (z, M)) (Option.some.inj hf))
    · replace hf := it_f c6 hf
      refine wk_aload_n G 0 dX5_happensAt_21 rfl rfl ?_
      refine wk_get (ci := 5) (v := .ref (ad 7)) G iX5_happensAt_X5 5 (by decide) (ck5 cI cZ ad (M 5)) rfl 2 (Nat.le_of_ble_eq_true rfl) kX5_happensAt_15 rfl dX5_happensAt_22 ?_
      refine wk_iload_n G 1 dX5_happensAt_25 rfl rfl ?_
      obtain ⟨h7, hf⟩ := gd_of hf
      refine wk_iald G 7 (by decide) (ck7 cI cZ ad) h7 dX5_happensAt_26 ?_
      refine wk_iload_n G 2 dX5_happensAt_27 rfl rfl ?_
      refine wk_icmp_ne (tgt := 35) G dX5_happensAt_28 (by decide) (fun c8 => ?_) (fun c8 => ?_)
      · replace hf := it_f c8 hf
        refine wk_iconst (v := (0 : Int32)) G dX5_happensAt_35 (by decide) ?_
        exact wk_rz G hr hlocks (Or.inl rfl) dX5_happensAt_36 (congrArg (fun z => (z, M)) (Option.some.inj hf))
      · replace hf := it_t c8 hf
        refine wk_iconst (v := (1 : Int32)) G dX5_happensAt_31 (by decide) ?_
        refine wk_goto (tgt := 36) G dX5_happensAt_32 (by decide) ?_
        exact wk_rz G hr hlocks (Or.inr rfl) dX5_happensAt_36 (congrArg (fun z => (z, M)) (Option.some.inj hf))
def fX4_meetEvents (b : Nat) (x1 : Int32) (M : Mem) : Option Mem := (loop fu (un2 fun (v1 : Int32) (M2 : Mem) => (if (M2 5 0) ≤ v1 then (some (.inr M2)) else ((fX5_happensAt v1 x1 M2).bind (fun (r4 : Int32) => nm (fun (M6 : Mem) => nm (v1 + (1 : Int32)) fun (v7 : Int32) => some (.inl (v7, M6))) fun j50 => if r4 = 0 then (j50 M2) else (gd v1 20 (gd v1 20 ((fX3_meet b (M2 6 (Int32.toNatClampNeg v1)) (M2 8 (Int32.toNatClampNeg v1)) M2).bind (fun (M11 : Mem) => j50 M11)))))) : Option ((Int32 × Mem) ⊕ (Mem)))) ((0 : Int32), M)).bind (un1 fun (M13 : Mem) => some M13)
theorem iX4_meetEvents_X4 : ∀ w ∈ wsX40, w ∈ wsX4_meetEvents := by decide +kernel
theorem iX4_meetEvents_X5 : ∀ w ∈ wsX50, w ∈ wsX4_meetEvents := by decide +kernel
theorem kX4_meetEvents_41 : Cond.fieldLink RX4 41 "PartitionPlay$Play" "schedule" "LPartitionPlay$Schedule;" ∈ wsX4_meetEvents := by decide +kernel
theorem kX4_meetEvents_54 : Cond.fieldLink RX4 54 "PartitionPlay$Play" "nodes" "LPartitionPlay$Nodes;" ∈ wsX4_meetEvents := by decide +kernel
theorem kX4_meetEvents_102 : Cond.fieldLink RX4 102 "PartitionPlay$Schedule" "size" "I" ∈ wsX4_meetEvents := by decide +kernel
theorem kX4_meetEvents_111 : Cond.fieldLink RX4 111 "PartitionPlay$Schedule" "kinds" "[I" ∈ wsX4_meetEvents := by decide +kernel
theorem kX4_meetEvents_114 : Cond.fieldLink RX4 114 "PartitionPlay$Schedule" "as" "[I" ∈ wsX4_meetEvents := by decide +kernel
abbrev rmX4_meetEvents : Room := { frames := 3, cells := 0, slots := 0, locals := 65 }
set_option maxRecDepth 100000 in
set_option maxHeartbeats 4000000 in
theorem c_X4_meetEvents (l : Launch) (D : va_G) (cI cZ : ClassId) (ad : Nat → Nat) (b : Nat) (hb : b = 12 ∨ b = 34) (x1 : Int32) (M : Mem) (M' : Mem) (hf : fX4_meetEvents b x1 M = some M') : MetV l yX4_meetEvents wsX4_meetEvents rmX4_meetEvents D cI cZ ad [.ref (ad b), .int x1] M M' := by
  refine met_v (cc := cX4_meetEvents) (nL := 3) (ret := none) (own := RX4) (by decide) rfl rfl (Nat.le_of_ble_eq_true rfl) ?_
  intro p e s m args below meth c A G hr hlocks
  unfold fX4_meetEvents at hf
  show Wk p l e (headSpec wsX4_meetEvents rmX4_meetEvents).room s m args below meth c D cI cZ ad A 3 0 0 (QV below D cI cZ ad A args s M') M 0 [(0, .ref (ad b)), (1, .int x1)] []
  refine wk_iconst (v := (0 : Int32)) G dX4_meetEvents_0 (by decide) ?_
  refine wk_istore_n (lv' := [(2, .int (0 : Int32)), (0, .ref (ad b)), (1, .int x1)]) G dX4_meetEvents_1 rfl (by decide) rfl ?_
  refine wk_sub [1, 2, 0] rfl ?_
  obtain ⟨q14, q15, hf⟩ := bd_of hf
  have Cq14 : (up1 fun (M13 : Mem) => Wk p l e (headSpec wsX4_meetEvents rmX4_meetEvents).room s m args below meth c D cI cZ ad A 3 0 0 (QV below D cI cZ ad A args s M') M13 56 [] []) q14 := by
    obtain ⟨M13, rfl⟩ : ∃ z, z = q14 := ⟨_, rfl⟩
    replace hf := un1_of hf
    show Wk p l e (headSpec wsX4_meetEvents rmX4_meetEvents).room s m args below meth c D cI cZ ad A 3 0 0 (QV below D cI cZ ad A args s M') M13 56 [] []
    exact wk_rv G hr hlocks dX4_meetEvents_56 (Option.some.inj hf)
  have Lq14 : (up2 fun (v1 : Int32) (M2 : Mem) => Wk p l e (headSpec wsX4_meetEvents rmX4_meetEvents).room s m args below meth c D cI cZ ad A 3 0 0 (QV below D cI cZ ad A args s M') M2 2 [(0, .ref (ad b)), (1, .int x1), (2, .int v1)] []) ((0 : Int32), M) := by
    refine loop_P (C := (up1 fun (M13 : Mem) => Wk p l e (headSpec wsX4_meetEvents rmX4_meetEvents).room s m args below meth c D cI cZ ad A 3 0 0 (QV below D cI cZ ad A args s M') M13 56 [] [])) ?_ fu ((0 : Int32), M) q14 q15 Cq14
    clear hf Cq14 q15
    rintro ⟨v1, M2⟩ o hf hI hE
    replace hf := un2_of hf
    show Wk p l e (headSpec wsX4_meetEvents rmX4_meetEvents).room s m args below meth c D cI cZ ad A 3 0 0 (QV below D cI cZ ad A args s M') M2 2 [(0, .ref (ad b)), (1, .int x1), (2, .int v1)] []
    refine wk_iload_n G 2 dX4_meetEvents_2 rfl rfl ?_
    refine wk_aload_n G 0 dX4_meetEvents_3 rfl rfl ?_
    refine wk_get (ci := 4) (v := .ref (ad 5)) G iX4_meetEvents_X4 b (lb0 hb) (ckb0 cI cZ ad hb (M2 b)) rfl 1 (Nat.le_of_ble_eq_true rfl) kX4_meetEvents_41 rfl dX4_meetEvents_4 ?_
    refine wk_get (ci := 5) (v := .int (M2 5 0)) G iX4_meetEvents_X5 5 (by decide) (ck5 cI cZ ad (M2 5)) rfl 0 (Nat.le_of_ble_eq_true rfl) kX4_meetEvents_102 rfl dX4_meetEvents_7 ?_
    refine wk_icmp_ge (tgt := 56) G dX4_meetEvents_10 (by decide) (fun c3 => ?_) (fun c3 => ?_)
    · replace hf := it_t c3 hf
      refine wk_sub [] rfl ?_
      exact hE _ (Option.some.inj hf).symm
    · replace hf := it_f c3 hf
      refine wk_aload_n G 0 dX4_meetEvents_13 rfl rfl ?_
      refine wk_get (ci := 4) (v := .ref (ad 5)) G iX4_meetEvents_X4 b (lb0 hb) (ckb0 cI cZ ad hb (M2 b)) rfl 1 (Nat.le_of_ble_eq_true rfl) kX4_meetEvents_41 rfl dX4_meetEvents_14 ?_
      refine wk_iload_n G 2 dX4_meetEvents_17 rfl rfl ?_
      refine wk_iload_n G 1 dX4_meetEvents_18 rfl rfl ?_
      obtain ⟨r4, q5, hf⟩ := bd_of hf
      refine wk_callVi (As := [.int v1, .int x1]) (rest := []) (ci := 5) G 5 (by decide) (c_X5_happensAt l D cI cZ ad v1 x1 M2 r4 q5) (cwV 2 G.2.2.2.2.1 gX4_meetEvents_X5_happensAt rfl rfl rfl (by decide +kernel) ⟨Nat.le_of_ble_eq_true rfl, Nat.le_of_ble_eq_true rfl⟩) (ck5 cI cZ ad (M2 5)) rfl rfl rfl (Nat.le_of_ble_eq_true rfl) dX4_meetEvents_19 ⟨Nat.le_of_ble_eq_true rfl, Nat.le_of_ble_eq_true rfl⟩ ?_
      obtain ⟨j50, ej50, hf⟩ := nm_ex hf
      have J50 : ∀ (M6 : Mem), j50 M6 = some o → Wk p l e (headSpec wsX4_meetEvents rmX4_meetEvents).room s m args below meth c D cI cZ ad A 3 0 0 (QV below D cI cZ ad A args s M') M6 50 [(0, .ref (ad b)), (1, .int x1), (2, .int v1)] [] := by
        intro M6 hf
        replace hf := jn1 ej50 hf
        obtain ⟨v7, ev7, hf⟩ := nm_ex hf
        refine wk_iinc (v := v7) (lv' := [(2, .int v7), (0, .ref (ad b)), (1, .int x1)]) G 2 dX4_meetEvents_50 rfl (by rw [ev7]; rfl) (by decide) rfl ?_
        refine wk_goto (tgt := 2) G dX4_meetEvents_53 (by decide) ?_
        refine wk_sub [1, 2, 0] rfl ?_
        exact hI _ (Option.some.inj hf).symm
      refine wk_if_eq (tgt := 50) G dX4_meetEvents_22 (by decide) (fun c8 => ?_) (fun c8 => ?_)
      · replace hf := it_t c8 hf
        exact J50 M2 hf
      · replace hf := it_f c8 hf
        refine wk_aload_n G 0 dX4_meetEvents_25 rfl rfl ?_
        refine wk_get (ci := 4) (v := .ref (ad (b + 6))) G iX4_meetEvents_X4 b (lb0 hb) (ckb0 cI cZ ad hb (M2 b)) rfl 4 (Nat.le_of_ble_eq_true rfl) kX4_meetEvents_54 rfl dX4_meetEvents_26 ?_
        refine wk_aload_n G 0 dX4_meetEvents_29 rfl rfl ?_
        refine wk_get (ci := 4) (v := .ref (ad 5)) G iX4_meetEvents_X4 b (lb0 hb) (ckb0 cI cZ ad hb (M2 b)) rfl 1 (Nat.le_of_ble_eq_true rfl) kX4_meetEvents_41 rfl dX4_meetEvents_30 ?_
        refine wk_get (ci := 5) (v := .ref (ad 6)) G iX4_meetEvents_X5 5 (by decide) (ck5 cI cZ ad (M2 5)) rfl 1 (Nat.le_of_ble_eq_true rfl) kX4_meetEvents_111 rfl dX4_meetEvents_33 ?_
        refine wk_iload_n G 2 dX4_meetEvents_36 rfl rfl ?_
        obtain ⟨h9, hf⟩ := gd_of hf
        refine wk_iald G 6 (by decide) (ck6 cI cZ ad) h9 dX4_meetEvents_37 ?_
        refine wk_aload_n G 0 dX4_meetEvents_38 rfl rfl ?_
        refine wk_get (ci := 4) (v := .ref (ad 5)) G iX4_meetEvents_X4 b (lb0 hb) (ckb0 cI cZ ad hb (M2 b)) rfl 1 (Nat.le_of_ble_eq_true rfl) kX4_meetEvents_41 rfl dX4_meetEvents_39 ?_
        refine wk_get (ci := 5) (v := .ref (ad 8)) G iX4_meetEvents_X5 5 (by decide) (ck5 cI cZ ad (M2 5)) rfl 3 (Nat.le_of_ble_eq_true rfl) kX4_meetEvents_114 rfl dX4_meetEvents_42 ?_
        refine wk_iload_n G 2 dX4_meetEvents_45 rfl rfl ?_
        obtain ⟨h10, hf⟩ := gd_of hf
        refine wk_iald G 8 (by decide) (ck8 cI cZ ad) h10 dX4_meetEvents_46 ?_
        obtain ⟨M11, q12, hf⟩ := bd_of hf
        refine wk_callVv (As := [.int (M2 6 (Int32.toNatClampNeg v1)), .int (M2 8 (Int32.toNatClampNeg v1))]) (rest := []) (ci := 3) G (b + 6) (lb hb (by decide)) (c_X3_meet l D cI cZ ad b hb (M2 6 (Int32.toNatClampNeg v1)) (M2 8 (Int32.toNatClampNeg v1)) M2 M11 q12) (cwV 2 G.2.2.2.2.1 gX4_meetEvents_X3_meet rfl rfl rfl (by decide +kernel) ⟨Nat.le_of_ble_eq_true rfl, Nat.le_of_ble_eq_true rfl⟩) (ckb6 cI cZ ad hb (M2 (b + 6))) rfl rfl rfl (Nat.le_of_ble_eq_true rfl) dX4_meetEvents_47 ⟨Nat.le_of_ble_eq_true rfl, Nat.le_of_ble_eq_true rfl⟩ ?_
        exact J50 M11 hf
  exact Lq14
def fX4_takeIn (b : Nat) (x1 : Int32) (M : Mem) : Option Mem := (fX1_has b x1 M).bind (fun (r1 : Int32) => if r1 = 0 then (some M) else (gd x1 1200 (nm ((M (b + 13) (Int32.toNatClampNeg x1))) fun (v5 : Int32) => gd x1 1200 (nm ((M (b + 14) (Int32.toNatClampNeg x1))) fun (v7 : Int32) => (fX3_canReach b v5 v7 M).bind (fun (r8 : Int32) => if r8 = 0 then (nm (st M b 11 ((M b 11) + (1 : Int32))) fun (M19 : Mem) => some M19) else (gd x1 1200 (gd x1 1200 ((fX3_takeIn b v5 v7 (M (b + 16) (Int32.toNatClampNeg x1)) (M (b + 17) (Int32.toNatClampNeg x1)) M).bind (fun (M13 : Mem) => gd x1 1200 (gd x1 1200 (nm (st M13 (b + 19) (Int32.toNatClampNeg x1) ((M13 (b + 19) (Int32.toNatClampNeg x1)) + (1 : Int32))) fun (M17 : Mem) => nm (st M17 b 10 ((M17 b 10) + (1 : Int32))) fun (M18 : Mem) => some M18)))))))))))
theorem iX4_takeIn_X1 : ∀ w ∈ wsX10, w ∈ wsX4_takeIn := by decide +kernel
theorem iX4_takeIn_X4 : ∀ w ∈ wsX40, w ∈ wsX4_takeIn := by decide +kernel
theorem kX4_takeIn_21 : Cond.fieldLink RX4 21 "PartitionPlay$Play" "letters" "LPartitionPlay$Letters;" ∈ wsX4_takeIn := by decide +kernel
theorem kX4_takeIn_54 : Cond.fieldLink RX4 54 "PartitionPlay$Play" "nodes" "LPartitionPlay$Nodes;" ∈ wsX4_takeIn := by decide +kernel
theorem kX4_takeIn_90 : Cond.fieldLink RX4 90 "PartitionPlay$Play" "taken" "I" ∈ wsX4_takeIn := by decide +kernel
theorem kX4_takeIn_93 : Cond.fieldLink RX4 93 "PartitionPlay$Play" "gone" "I" ∈ wsX4_takeIn := by decide +kernel
theorem kX4_takeIn_137 : Cond.fieldLink RX4 137 "PartitionPlay$Letters" "senders" "[I" ∈ wsX4_takeIn := by decide +kernel
theorem kX4_takeIn_140 : Cond.fieldLink RX4 140 "PartitionPlay$Letters" "receivers" "[I" ∈ wsX4_takeIn := by decide +kernel
theorem kX4_takeIn_146 : Cond.fieldLink RX4 146 "PartitionPlay$Letters" "heights" "[I" ∈ wsX4_takeIn := by decide +kernel
theorem kX4_takeIn_147 : Cond.fieldLink RX4 147 "PartitionPlay$Letters" "rumours" "[I" ∈ wsX4_takeIn := by decide +kernel
theorem kX4_takeIn_153 : Cond.fieldLink RX4 153 "PartitionPlay$Letters" "takenIn" "[I" ∈ wsX4_takeIn := by decide +kernel
abbrev rmX4_takeIn : Room := { frames := 2, cells := 0, slots := 0, locals := 46 }
set_option maxRecDepth 100000 in
set_option maxHeartbeats 4000000 in
theorem c_X4_takeIn (l : Launch) (D : va_G) (cI cZ : ClassId) (ad : Nat → Nat) (b : Nat) (hb : b = 12 ∨ b = 34) (x1 : Int32) (M : Mem) (M' : Mem) (hf : fX4_takeIn b x1 M = some M') : MetV l yX4_takeIn wsX4_takeIn rmX4_takeIn D cI cZ ad [.ref (ad b), .int x1] M M' := by
  refine met_v (cc := cX4_takeIn) (nL := 4) (ret := none) (own := RX4) (by decide) rfl rfl (Nat.le_of_ble_eq_true rfl) ?_
  intro p e s m args below meth c A G hr hlocks
  unfold fX4_takeIn at hf
  show Wk p l e (headSpec wsX4_takeIn rmX4_takeIn).room s m args below meth c D cI cZ ad A 4 0 0 (QV below D cI cZ ad A args s M') M 0 [(0, .ref (ad b)), (1, .int x1)] []
  refine wk_aload_n G 0 dX4_takeIn_0 rfl rfl ?_
  refine wk_get (ci := 4) (v := .ref (ad (b + 12))) G iX4_takeIn_X4 b (lb0 hb) (ckb0 cI cZ ad hb (M b)) rfl 5 (Nat.le_of_ble_eq_true rfl) kX4_takeIn_21 rfl dX4_takeIn_1 ?_
  refine wk_iload_n G 1 dX4_takeIn_4 rfl rfl ?_
  obtain ⟨r1, q2, hf⟩ := bd_of hf
  refine wk_callVi (As := [.int x1]) (rest := []) (ci := 1) G (b + 12) (lb hb (by decide)) (c_X1_has l D cI cZ ad b hb x1 M r1 q2) (cwV 1 G.2.2.2.2.1 gX4_takeIn_X1_has rfl rfl rfl (by decide +kernel) ⟨Nat.le_of_ble_eq_true rfl, Nat.le_of_ble_eq_true rfl⟩) (ckb12 cI cZ ad hb (M (b + 12))) rfl rfl rfl (Nat.le_of_ble_eq_true rfl) dX4_takeIn_5 ⟨Nat.le_of_ble_eq_true rfl, Nat.le_of_ble_eq_true rfl⟩ ?_
  refine wk_if_ne (tgt := 12) G dX4_takeIn_8 (by decide) (fun c3 => ?_) (fun c3 => ?_)
  · replace hf := it_f c3 hf
    refine wk_aload_n G 0 dX4_takeIn_12 rfl rfl ?_
    refine wk_get (ci := 4) (v := .ref (ad (b + 12))) G iX4_takeIn_X4 b (lb0 hb) (ckb0 cI cZ ad hb (M b)) rfl 5 (Nat.le_of_ble_eq_true rfl) kX4_takeIn_21 rfl dX4_takeIn_13 ?_
    refine wk_get (ci := 1) (v := .ref (ad (b + 13))) G iX4_takeIn_X1 (b + 12) (lb hb (by decide)) (ckb12 cI cZ ad hb (M (b + 12))) rfl 2 (Nat.le_of_ble_eq_true rfl) kX4_takeIn_137 rfl dX4_takeIn_16 ?_
    refine wk_iload_n G 1 dX4_takeIn_19 rfl rfl ?_
    obtain ⟨h4, hf⟩ := gd_of hf
    refine wk_iald G (b + 13) (lb hb (by decide)) (ckb13 cI cZ ad hb) h4 dX4_takeIn_20 ?_
    obtain ⟨v5, ev5, hf⟩ := nm_ex hf
    refine wk_nme ev5 ?_
    refine wk_istore_n (lv' := [(2, .int v5), (0, .ref (ad b)), (1, .int x1)]) G dX4_takeIn_21 rfl (by decide) rfl ?_
    refine wk_aload_n G 1 dX4_takeIn_22 rfl rfl ?_
    refine wk_get (ci := 4) (v := .ref (ad (b + 12))) G iX4_takeIn_X4 b (lb0 hb) (ckb0 cI cZ ad hb (M b)) rfl 5 (Nat.le_of_ble_eq_true rfl) kX4_takeIn_21 rfl dX4_takeIn_23 ?_
    refine wk_get (ci := 1) (v := .ref (ad (b + 14))) G iX4_takeIn_X1 (b + 12) (lb hb (by decide)) (ckb12 cI cZ ad hb (M (b + 12))) rfl 3 (Nat.le_of_ble_eq_true rfl) kX4_takeIn_140 rfl dX4_takeIn_26 ?_
    refine wk_iload_n G 2 dX4_takeIn_29 rfl rfl ?_
    obtain ⟨h6, hf⟩ := gd_of hf
    refine wk_iald G (b + 14) (lb hb (by decide)) (ckb14 cI cZ ad hb) h6 dX4_takeIn_30 ?_
    obtain ⟨v7, ev7, hf⟩ := nm_ex hf
    refine wk_nme ev7 ?_
    refine wk_istore_n (lv' := [(3, .int v7), (2, .int v5), (0, .ref (ad b)), (1, .int x1)]) G dX4_takeIn_31 rfl (by decide) rfl ?_
    refine wk_aload_n G 2 dX4_takeIn_32 rfl rfl ?_
    refine wk_get (ci := 4) (v := .ref (ad (b + 6))) G iX4_takeIn_X4 b (lb0 hb) (ckb0 cI cZ ad hb (M b)) rfl 4 (Nat.le_of_ble_eq_true rfl) kX4_takeIn_54 rfl dX4_takeIn_33 ?_
    refine wk_iload_n G 1 dX4_takeIn_36 rfl rfl ?_
    refine wk_iload_n G 0 dX4_takeIn_37 rfl rfl ?_
    obtain ⟨r8, q9, hf⟩ := bd_of hf
    refine wk_callVi (As := [.int v5, .int v7]) (rest := []) (ci := 3) G (b + 6) (lb hb (by decide)) (c_X3_canReach l D cI cZ ad b hb v5 v7 M r8 q9) (cwV 2 G.2.2.2.2.1 gX4_takeIn_X3_canReach rfl rfl rfl (by decide +kernel) ⟨Nat.le_of_ble_eq_true rfl, Nat.le_of_ble_eq_true rfl⟩) (ckb6 cI cZ ad hb (M (b + 6))) rfl rfl rfl (Nat.le_of_ble_eq_true rfl) dX4_takeIn_38 ⟨Nat.le_of_ble_eq_true rfl, Nat.le_of_ble_eq_true rfl⟩ ?_
    refine wk_if_ne (tgt := 55) G dX4_takeIn_41 (by decide) (fun c10 => ?_) (fun c10 => ?_)
    · replace hf := it_f c10 hf
      refine wk_aload_n G 2 dX4_takeIn_55 rfl rfl ?_
      refine wk_get (ci := 4) (v := .ref (ad (b + 6))) G iX4_takeIn_X4 b (lb0 hb) (ckb0 cI cZ ad hb (M b)) rfl 4 (Nat.le_of_ble_eq_true rfl) kX4_takeIn_54 rfl dX4_takeIn_56 ?_
      refine wk_iload_n G 1 dX4_takeIn_59 rfl rfl ?_
      refine wk_iload_n G 0 dX4_takeIn_60 rfl rfl ?_
      refine wk_aload_n G 2 dX4_takeIn_61 rfl rfl ?_
      refine wk_get (ci := 4) (v := .ref (ad (b + 12))) G iX4_takeIn_X4 b (lb0 hb) (ckb0 cI cZ ad hb (M b)) rfl 5 (Nat.le_of_ble_eq_true rfl) kX4_takeIn_21 rfl dX4_takeIn_62 ?_
      refine wk_get (ci := 1) (v := .ref (ad (b + 16))) G iX4_takeIn_X1 (b + 12) (lb hb (by decide)) (ckb12 cI cZ ad hb (M (b + 12))) rfl 5 (Nat.le_of_ble_eq_true rfl) kX4_takeIn_146 rfl dX4_takeIn_65 ?_
      refine wk_iload_n G 3 dX4_takeIn_68 rfl rfl ?_
      obtain ⟨h11, hf⟩ := gd_of hf
      refine wk_iald G (b + 16) (lb hb (by decide)) (ckb16 cI cZ ad hb) h11 dX4_takeIn_69 ?_
      refine wk_aload_n G 2 dX4_takeIn_70 rfl rfl ?_
      refine wk_get (ci := 4) (v := .ref (ad (b + 12))) G iX4_takeIn_X4 b (lb0 hb) (ckb0 cI cZ ad hb (M b)) rfl 5 (Nat.le_of_ble_eq_true rfl) kX4_takeIn_21 rfl dX4_takeIn_71 ?_
      refine wk_get (ci := 1) (v := .ref (ad (b + 17))) G iX4_takeIn_X1 (b + 12) (lb hb (by decide)) (ckb12 cI cZ ad hb (M (b + 12))) rfl 6 (Nat.le_of_ble_eq_true rfl) kX4_takeIn_147 rfl dX4_takeIn_74 ?_
      refine wk_iload_n G 3 dX4_takeIn_77 rfl rfl ?_
      obtain ⟨h12, hf⟩ := gd_of hf
      refine wk_iald G (b + 17) (lb hb (by decide)) (ckb17 cI cZ ad hb) h12 dX4_takeIn_78 ?_
      obtain ⟨M13, q14, hf⟩ := bd_of hf
      refine wk_callVv (As := [.int v5, .int v7, .int (M (b + 16) (Int32.toNatClampNeg x1)), .int (M (b + 17) (Int32.toNatClampNeg x1))]) (rest := []) (ci := 3) G (b + 6) (lb hb (by decide)) (c_X3_takeIn l D cI cZ ad b hb v5 v7 (M (b + 16) (Int32.toNatClampNeg x1)) (M (b + 17) (Int32.toNatClampNeg x1)) M M13 q14) (cwV 4 G.2.2.2.2.1 gX4_takeIn_X3_takeIn rfl rfl rfl (by decide +kernel) ⟨Nat.le_of_ble_eq_true rfl, Nat.le_of_ble_eq_true rfl⟩) (ckb6 cI cZ ad hb (M (b + 6))) rfl rfl rfl (Nat.le_of_ble_eq_true rfl) dX4_takeIn_79 ⟨Nat.le_of_ble_eq_true rfl, Nat.le_of_ble_eq_true rfl⟩ ?_
      refine wk_aload_n G 2 dX4_takeIn_82 rfl rfl ?_
      refine wk_get (ci := 4) (v := .ref (ad (b + 12))) G iX4_takeIn_X4 b (lb0 hb) (ckb0 cI cZ ad hb (M13 b)) rfl 5 (Nat.le_of_ble_eq_true rfl) kX4_takeIn_21 rfl dX4_takeIn_83 ?_
      refine wk_get (ci := 1) (v := .ref (ad (b + 19))) G iX4_takeIn_X1 (b + 12) (lb hb (by decide)) (ckb12 cI cZ ad hb (M13 (b + 12))) rfl 8 (Nat.le_of_ble_eq_true rfl) kX4_takeIn_153 rfl dX4_takeIn_86 ?_
      refine wk_iload_n G 3 dX4_takeIn_89 rfl rfl ?_
      refine wk_dup2 G dX4_takeIn_90 rfl rfl ?_
      obtain ⟨h15, hf⟩ := gd_of hf
      refine wk_iald G (b + 19) (lb hb (by decide)) (ckb19 cI cZ ad hb) h15 dX4_takeIn_91 ?_
      refine wk_iconst (v := (1 : Int32)) G dX4_takeIn_92 (by decide) ?_
      refine wk_iadd G dX4_takeIn_93 ?_
      obtain ⟨h16, hf⟩ := gd_of hf
      obtain ⟨M17, eM17, hf⟩ := nm_ex hf
      refine wk_iast G (b + 19) (lb hb (by decide)) (ckb19 cI cZ ad hb) h16 dX4_takeIn_94 eM17 ?_
      refine wk_aload_n G 2 dX4_takeIn_95 rfl rfl ?_
      refine wk_dup G dX4_takeIn_96 rfl ?_
      refine wk_get (ci := 4) (v := .int (M17 b 10)) G iX4_takeIn_X4 b (lb0 hb) (ckb0 cI cZ ad hb (M17 b)) rfl 10 (Nat.le_of_ble_eq_true rfl) kX4_takeIn_90 rfl dX4_takeIn_97 ?_
      refine wk_iconst (v := (1 : Int32)) G dX4_takeIn_100 (by decide) ?_
      refine wk_iadd G dX4_takeIn_101 ?_
      obtain ⟨M18, eM18, hf⟩ := nm_ex hf
      refine wk_put (ci := 4) G iX4_takeIn_X4 tyX4 tyX4_ok nmX4 b (lb0 hb) (ckb0 cI cZ ad hb (M17 b)) rfl 10 (Nat.le_of_ble_eq_true rfl) kX4_takeIn_90 rfl (by decide +kernel) (Nat.le_of_ble_eq_true rfl) (cpb0_10 cI cZ ad hb (M17 b) ((M17 b 10) + (1 : Int32))) dX4_takeIn_102 eM18 ?_
      exact wk_rv G hr hlocks dX4_takeIn_105 (Option.some.inj hf)
    · replace hf := it_t c10 hf
      refine wk_aload_n G 2 dX4_takeIn_44 rfl rfl ?_
      refine wk_dup G dX4_takeIn_45 rfl ?_
      refine wk_get (ci := 4) (v := .int (M b 11)) G iX4_takeIn_X4 b (lb0 hb) (ckb0 cI cZ ad hb (M b)) rfl 11 (Nat.le_of_ble_eq_true rfl) kX4_takeIn_93 rfl dX4_takeIn_46 ?_
      refine wk_iconst (v := (1 : Int32)) G dX4_takeIn_49 (by decide) ?_
      refine wk_iadd G dX4_takeIn_50 ?_
      obtain ⟨M19, eM19, hf⟩ := nm_ex hf
      refine wk_put (ci := 4) G iX4_takeIn_X4 tyX4 tyX4_ok nmX4 b (lb0 hb) (ckb0 cI cZ ad hb (M b)) rfl 11 (Nat.le_of_ble_eq_true rfl) kX4_takeIn_93 rfl (by decide +kernel) (Nat.le_of_ble_eq_true rfl) (cpb0_11 cI cZ ad hb (M b) ((M b 11) + (1 : Int32))) dX4_takeIn_51 eM19 ?_
      exact wk_rv G hr hlocks dX4_takeIn_54 (Option.some.inj hf)
  · replace hf := it_t c3 hf
    exact wk_rv G hr hlocks dX4_takeIn_11 (Option.some.inj hf)
def fX4_takeInComings (b : Nat) (x1 : Int32) (M : Mem) : Option Mem := (fX0_firstAt b x1 M).bind (fun (r1 : Int32) => (loop fu (un3 fun (v3 : Int32) (v4 : Int32) (M5 : Mem) => (if (1220 : Int32) ≤ v4 then (some (.inr M5)) else (if v3 = (-1 : Int32) then (some (.inr M5)) else ((fX0_letterOf b v3 M5).bind (fun (r8 : Int32) => (fX4_takeIn b r8 M5).bind (fun (M10 : Mem) => (fX0_behind b v3 M10).bind (fun (r12 : Int32) => nm (v4 + (1 : Int32)) fun (v14 : Int32) => some (.inl (r12, v14, M10))))))) : Option ((Int32 × Int32 × Mem) ⊕ (Mem)))) (r1, (0 : Int32), M)).bind (un1 fun (M15 : Mem) => some M15))
theorem iX4_takeInComings_X4 : ∀ w ∈ wsX40, w ∈ wsX4_takeInComings := by decide +kernel
theorem kX4_takeInComings_12 : Cond.fieldLink RX4 12 "PartitionPlay$Play" "comings" "LPartitionPlay$Comings;" ∈ wsX4_takeInComings := by decide +kernel
abbrev rmX4_takeInComings : Room := { frames := 3, cells := 0, slots := 0, locals := 69 }
set_option maxRecDepth 100000 in
set_option maxHeartbeats 4000000 in
theorem c_X4_takeInComings (l : Launch) (D : va_G) (cI cZ : ClassId) (ad : Nat → Nat) (b : Nat) (hb : b = 12 ∨ b = 34) (x1 : Int32) (M : Mem) (M' : Mem) (hf : fX4_takeInComings b x1 M = some M') : MetV l yX4_takeInComings wsX4_takeInComings rmX4_takeInComings D cI cZ ad [.ref (ad b), .int x1] M M' := by
  refine met_v (cc := cX4_takeInComings) (nL := 4) (ret := none) (own := RX4) (by decide) rfl rfl (Nat.le_of_ble_eq_true rfl) ?_
  intro p e s m args below meth c A G hr hlocks
  unfold fX4_takeInComings at hf
  show Wk p l e (headSpec wsX4_takeInComings rmX4_takeInComings).room s m args below meth c D cI cZ ad A 4 0 0 (QV below D cI cZ ad A args s M') M 0 [(0, .ref (ad b)), (1, .int x1)] []
  refine wk_aload_n G 0 dX4_takeInComings_0 rfl rfl ?_
  refine wk_get (ci := 4) (v := .ref (ad (b + 1))) G iX4_takeInComings_X4 b (lb0 hb) (ckb0 cI cZ ad hb (M b)) rfl 3 (Nat.le_of_ble_eq_true rfl) kX4_takeInComings_12 rfl dX4_takeInComings_1 ?_
  refine wk_iload_n G 1 dX4_takeInComings_4 rfl rfl ?_
  obtain ⟨r1, q2, hf⟩ := bd_of hf
  refine wk_callVi (As := [.int x1]) (rest := []) (ci := 0) G (b + 1) (lb hb (by decide)) (c_X0_firstAt l D cI cZ ad b hb x1 M r1 q2) (cwV 1 G.2.2.2.2.1 gX4_takeInComings_X0_firstAt rfl rfl rfl (by decide +kernel) ⟨Nat.le_of_ble_eq_true rfl, Nat.le_of_ble_eq_true rfl⟩) (ckb1 cI cZ ad hb (M (b + 1))) rfl rfl rfl (Nat.le_of_ble_eq_true rfl) dX4_takeInComings_5 ⟨Nat.le_of_ble_eq_true rfl, Nat.le_of_ble_eq_true rfl⟩ ?_
  refine wk_istore_n (lv' := [(2, .int r1), (0, .ref (ad b)), (1, .int x1)]) G dX4_takeInComings_8 rfl (by decide) rfl ?_
  refine wk_iconst (v := (0 : Int32)) G dX4_takeInComings_9 (by decide) ?_
  refine wk_istore_n (lv' := [(3, .int (0 : Int32)), (2, .int r1), (0, .ref (ad b)), (1, .int x1)]) G dX4_takeInComings_10 rfl (by decide) rfl ?_
  refine wk_sub [2, 1, 0] rfl ?_
  obtain ⟨q16, q17, hf⟩ := bd_of hf
  have Cq16 : (up1 fun (M15 : Mem) => Wk p l e (headSpec wsX4_takeInComings rmX4_takeInComings).room s m args below meth c D cI cZ ad A 4 0 0 (QV below D cI cZ ad A args s M') M15 50 [] []) q16 := by
    obtain ⟨M15, rfl⟩ : ∃ z, z = q16 := ⟨_, rfl⟩
    replace hf := un1_of hf
    show Wk p l e (headSpec wsX4_takeInComings rmX4_takeInComings).room s m args below meth c D cI cZ ad A 4 0 0 (QV below D cI cZ ad A args s M') M15 50 [] []
    exact wk_rv G hr hlocks dX4_takeInComings_50 (Option.some.inj hf)
  have Lq16 : (up3 fun (v3 : Int32) (v4 : Int32) (M5 : Mem) => Wk p l e (headSpec wsX4_takeInComings rmX4_takeInComings).room s m args below meth c D cI cZ ad A 4 0 0 (QV below D cI cZ ad A args s M') M5 11 [(0, .ref (ad b)), (2, .int v3), (3, .int v4)] []) (r1, (0 : Int32), M) := by
    refine loop_P (C := (up1 fun (M15 : Mem) => Wk p l e (headSpec wsX4_takeInComings rmX4_takeInComings).room s m args below meth c D cI cZ ad A 4 0 0 (QV below D cI cZ ad A args s M') M15 50 [] [])) ?_ fu (r1, (0 : Int32), M) q16 q17 Cq16
    clear hf Cq16 q17
    rintro ⟨v3, v4, M5⟩ o hf hI hE
    replace hf := un3_of hf
    show Wk p l e (headSpec wsX4_takeInComings rmX4_takeInComings).room s m args below meth c D cI cZ ad A 4 0 0 (QV below D cI cZ ad A args s M') M5 11 [(0, .ref (ad b)), (2, .int v3), (3, .int v4)] []
    refine wk_iload_n G 2 dX4_takeInComings_11 rfl rfl ?_
    refine wk_sipush (v := (1220 : Int32)) G dX4_takeInComings_12 (by decide) ?_
    refine wk_icmp_ge (tgt := 50) G dX4_takeInComings_15 (by decide) (fun c6 => ?_) (fun c6 => ?_)
    · replace hf := it_t c6 hf
      refine wk_sub [] rfl ?_
      exact hE _ (Option.some.inj hf).symm
    · replace hf := it_f c6 hf
      refine wk_iload_n G 1 dX4_takeInComings_18 rfl rfl ?_
      refine wk_iconst (v := (-1 : Int32)) G dX4_takeInComings_19 (by decide) ?_
      refine wk_icmp_eq (tgt := 50) G dX4_takeInComings_20 (by decide) (fun c7 => ?_) (fun c7 => ?_)
      · replace hf := it_t c7 hf
        refine wk_sub [] rfl ?_
        exact hE _ (Option.some.inj hf).symm
      · replace hf := it_f c7 hf
        refine wk_aload_n G 0 dX4_takeInComings_23 rfl rfl ?_
        refine wk_aload_n G 0 dX4_takeInComings_24 rfl rfl ?_
        refine wk_get (ci := 4) (v := .ref (ad (b + 1))) G iX4_takeInComings_X4 b (lb0 hb) (ckb0 cI cZ ad hb (M5 b)) rfl 3 (Nat.le_of_ble_eq_true rfl) kX4_takeInComings_12 rfl dX4_takeInComings_25 ?_
        refine wk_iload_n G 1 dX4_takeInComings_28 rfl rfl ?_
        obtain ⟨r8, q9, hf⟩ := bd_of hf
        refine wk_callVi (As := [.int v3]) (rest := [.ref (ad b)]) (ci := 0) G (b + 1) (lb hb (by decide)) (c_X0_letterOf l D cI cZ ad b hb v3 M5 r8 q9) (cwV 1 G.2.2.2.2.1 gX4_takeInComings_X0_letterOf rfl rfl rfl (by decide +kernel) ⟨Nat.le_of_ble_eq_true rfl, Nat.le_of_ble_eq_true rfl⟩) (ckb1 cI cZ ad hb (M5 (b + 1))) rfl rfl rfl (Nat.le_of_ble_eq_true rfl) dX4_takeInComings_29 ⟨Nat.le_of_ble_eq_true rfl, Nat.le_of_ble_eq_true rfl⟩ ?_
        obtain ⟨M10, q11, hf⟩ := bd_of hf
        refine wk_callVv (As := [.int r8]) (rest := []) (ci := 4) G b (lb0 hb) (c_X4_takeIn l D cI cZ ad b hb r8 M5 M10 q11) (cwV 1 G.2.2.2.2.1 gX4_takeInComings_X4_takeIn rfl rfl rfl (by decide +kernel) ⟨Nat.le_of_ble_eq_true rfl, Nat.le_of_ble_eq_true rfl⟩) (ckb0 cI cZ ad hb (M5 b)) rfl rfl rfl (Nat.le_of_ble_eq_true rfl) dX4_takeInComings_32 ⟨Nat.le_of_ble_eq_true rfl, Nat.le_of_ble_eq_true rfl⟩ ?_
        refine wk_aload_n G 0 dX4_takeInComings_35 rfl rfl ?_
        refine wk_get (ci := 4) (v := .ref (ad (b + 1))) G iX4_takeInComings_X4 b (lb0 hb) (ckb0 cI cZ ad hb (M10 b)) rfl 3 (Nat.le_of_ble_eq_true rfl) kX4_takeInComings_12 rfl dX4_takeInComings_36 ?_
        refine wk_iload_n G 1 dX4_takeInComings_39 rfl rfl ?_
        obtain ⟨r12, q13, hf⟩ := bd_of hf
        refine wk_callVi (As := [.int v3]) (rest := []) (ci := 0) G (b + 1) (lb hb (by decide)) (c_X0_behind l D cI cZ ad b hb v3 M10 r12 q13) (cwV 1 G.2.2.2.2.1 gX4_takeInComings_X0_behind rfl rfl rfl (by decide +kernel) ⟨Nat.le_of_ble_eq_true rfl, Nat.le_of_ble_eq_true rfl⟩) (ckb1 cI cZ ad hb (M10 (b + 1))) rfl rfl rfl (Nat.le_of_ble_eq_true rfl) dX4_takeInComings_40 ⟨Nat.le_of_ble_eq_true rfl, Nat.le_of_ble_eq_true rfl⟩ ?_
        refine wk_istore_n (lv' := [(2, .int r12), (0, .ref (ad b)), (3, .int v4)]) G dX4_takeInComings_43 rfl (by decide) rfl ?_
        obtain ⟨v14, ev14, hf⟩ := nm_ex hf
        refine wk_iinc (v := v14) (lv' := [(3, .int v14), (2, .int r12), (0, .ref (ad b))]) G 2 dX4_takeInComings_44 rfl (by rw [ev14]; rfl) (by decide) rfl ?_
        refine wk_goto (tgt := 11) G dX4_takeInComings_47 (by decide) ?_
        refine wk_sub [2, 1, 0] rfl ?_
        exact hI _ (Option.some.inj hf).symm
  exact Lq16
def fX5_names (x1 : Int32) (M : Mem) : Option Int32 := (fX6_isLetter x1).bind (fun (r1 : Int32) => if r1 = 0 then (some (0 : Int32)) else (gd x1 1200 (if (M 11 (Int32.toNatClampNeg x1)) ≤ 0 then (some (0 : Int32)) else (some (1 : Int32)))))
theorem iX5_names_X5 : ∀ w ∈ wsX50, w ∈ wsX5_names := by decide +kernel
theorem kX5_names_28 : Cond.fieldLink RX5 28 "PartitionPlay$Schedule" "namings" "[I" ∈ wsX5_names := by decide +kernel
abbrev rmX5_names : Room := { frames := 1, cells := 0, slots := 0, locals := 20 }
set_option maxRecDepth 100000 in
set_option maxHeartbeats 4000000 in
theorem c_X5_names (l : Launch) (D : va_G) (cI cZ : ClassId) (ad : Nat → Nat) (x1 : Int32) (M : Mem) (r : Int32) (hf : fX5_names x1 M = some r) : MetI l yX5_names wsX5_names rmX5_names D cI cZ ad [.ref (ad 5), .int x1] M r M := by
  refine met_i (cc := cX5_names) (nL := 2) (ret := (some .boolean)) (own := RX5) (by decide) rfl rfl (Nat.le_of_ble_eq_true rfl) ?_
  intro p e s m args below meth c A G hr hlocks
  unfold fX5_names at hf
  show Wk p l e (headSpec wsX5_names rmX5_names).room s m args below meth c D cI cZ ad A 2 0 0 (QI below D cI cZ ad A args s r M) M 0 [(0, .ref (ad 5)), (1, .int x1)] []
  refine wk_iload_n G 1 dX5_names_0 rfl rfl ?_
  obtain ⟨r1, q2, hf⟩ := bd_of hf
  refine wk_callNi (As := [.int x1]) (rest := []) G (c_X6_isLetter l D cI cZ ad x1 M r1 q2) ⟨va_cnB 1 G.2.2.2.2.1 gX5_names_X6_isLetter_n50 rfl rfl rfl G.2.2.2.2.2.2.2.2.2.1 (G.2.2.2.2.1 _ (by decide +kernel)) (by decide +kernel) ⟨Nat.le_of_ble_eq_true rfl, Nat.le_of_ble_eq_true rfl⟩, G.2.2.2.2.1 _ (by decide +kernel), trivial⟩ rfl rfl (Nat.le_of_ble_eq_true rfl) dX5_names_1 ⟨Nat.le_of_ble_eq_true rfl, Nat.le_of_ble_eq_true rfl⟩ ?_
  refine wk_if_eq (tgt := 20) G dX5_names_4 (by decide) (fun c3 => ?_) (fun c3 => ?_)
  · replace hf := it_t c3 hf
    refine wk_iconst (v := (0 : Int32)) G dX5_names_20 (by decide) ?_
    exact wk_rz G hr hlocks (Or.inl rfl) dX5_names_21 (congrArg (fun z => (z, M)) (Option.some.inj hf))
  · replace hf := it_f c3 hf
    refine wk_aload_n G 0 dX5_names_7 rfl rfl ?_
    refine wk_get (ci := 5) (v := .ref (ad 11)) G iX5_names_X5 5 (by decide) (ck5 cI cZ ad (M 5)) rfl 6 (Nat.le_of_ble_eq_true rfl) kX5_names_28 rfl dX5_names_8 ?_
    refine wk_iload_n G 1 dX5_names_11 rfl rfl ?_
    obtain ⟨h4, hf⟩ := gd_of hf
    refine wk_iald G 11 (by decide) (ck11 cI cZ ad) h4 dX5_names_12 ?_
    refine wk_if_le (tgt := 20) G dX5_names_13 (by decide) (fun c5 => ?_) (fun c5 => ?_)
    · replace hf := it_t c5 hf
      refine wk_iconst (v := (0 : Int32)) G dX5_names_20 (by decide) ?_
      exact wk_rz G hr hlocks (Or.inl rfl) dX5_names_21 (congrArg (fun z => (z, M)) (Option.some.inj hf))
    · replace hf := it_f c5 hf
      refine wk_iconst (v := (1 : Int32)) G dX5_names_16 (by decide) ?_
      refine wk_goto (tgt := 21) G dX5_names_17 (by decide) ?_
      exact wk_rz G hr hlocks (Or.inr rfl) dX5_names_21 (congrArg (fun z => (z, M)) (Option.some.inj hf))
def fX4_isAlsoLost (b : Nat) (x1 : Int32) (M : Mem) : Option Int32 := if (5 : Int32) ≤ x1 then (some (0 : Int32)) else (if (((M b 12) >>> (x1 &&& 31)) &&& (1 : Int32)) = 0 then (some (0 : Int32)) else (some (1 : Int32)))
theorem iX4_isAlsoLost_X4 : ∀ w ∈ wsX40, w ∈ wsX4_isAlsoLost := by decide +kernel
theorem kX4_isAlsoLost_87 : Cond.fieldLink RX4 87 "PartitionPlay$Play" "alsoLost" "I" ∈ wsX4_isAlsoLost := by decide +kernel
abbrev rmX4_isAlsoLost : Room := { frames := 0, cells := 0, slots := 0, locals := 0 }
set_option maxRecDepth 100000 in
set_option maxHeartbeats 4000000 in
theorem c_X4_isAlsoLost (l : Launch) (D : va_G) (cI cZ : ClassId) (ad : Nat → Nat) (b : Nat) (hb : b = 12 ∨ b = 34) (x1 : Int32) (M : Mem) (r : Int32) (hf : fX4_isAlsoLost b x1 M = some r) : MetI l yX4_isAlsoLost wsX4_isAlsoLost rmX4_isAlsoLost D cI cZ ad [.ref (ad b), .int x1] M r M := by
  refine met_i (cc := cX4_isAlsoLost) (nL := 2) (ret := (some .boolean)) (own := RX4) (by decide) rfl rfl (Nat.le_of_ble_eq_true rfl) ?_
  intro p e s m args below meth c A G hr hlocks
  unfold fX4_isAlsoLost at hf
  show Wk p l e (headSpec wsX4_isAlsoLost rmX4_isAlsoLost).room s m args below meth c D cI cZ ad A 2 0 0 (QI below D cI cZ ad A args s r M) M 0 [(0, .ref (ad b)), (1, .int x1)] []
  refine wk_iload_n G 1 dX4_isAlsoLost_0 rfl rfl ?_
  refine wk_iconst (v := (5 : Int32)) G dX4_isAlsoLost_1 (by decide) ?_
  refine wk_icmp_ge (tgt := 20) G dX4_isAlsoLost_2 (by decide) (fun c1 => ?_) (fun c1 => ?_)
  · replace hf := it_t c1 hf
    refine wk_iconst (v := (0 : Int32)) G dX4_isAlsoLost_20 (by decide) ?_
    exact wk_rz G hr hlocks (Or.inl rfl) dX4_isAlsoLost_21 (congrArg (fun z => (z, M)) (Option.some.inj hf))
  · replace hf := it_f c1 hf
    refine wk_aload_n G 0 dX4_isAlsoLost_5 rfl rfl ?_
    refine wk_get (ci := 4) (v := .int (M b 12)) G iX4_isAlsoLost_X4 b (lb0 hb) (ckb0 cI cZ ad hb (M b)) rfl 12 (Nat.le_of_ble_eq_true rfl) kX4_isAlsoLost_87 rfl dX4_isAlsoLost_6 ?_
    refine wk_iload_n G 1 dX4_isAlsoLost_9 rfl rfl ?_
    refine wk_ishr G dX4_isAlsoLost_10 ?_
    refine wk_iconst (v := (1 : Int32)) G dX4_isAlsoLost_11 (by decide) ?_
    refine wk_iand G dX4_isAlsoLost_12 ?_
    refine wk_if_eq (tgt := 20) G dX4_isAlsoLost_13 (by decide) (fun c2 => ?_) (fun c2 => ?_)
    · replace hf := it_t c2 hf
      refine wk_iconst (v := (0 : Int32)) G dX4_isAlsoLost_20 (by decide) ?_
      exact wk_rz G hr hlocks (Or.inl rfl) dX4_isAlsoLost_21 (congrArg (fun z => (z, M)) (Option.some.inj hf))
    · replace hf := it_f c2 hf
      refine wk_iconst (v := (1 : Int32)) G dX4_isAlsoLost_16 (by decide) ?_
      refine wk_goto (tgt := 21) G dX4_isAlsoLost_17 (by decide) ?_
      exact wk_rz G hr hlocks (Or.inr rfl) dX4_isAlsoLost_21 (congrArg (fun z => (z, M)) (Option.some.inj hf))
def fX5_does (x1 : Int32) (x2 : Int32) (x3 : Int32) (M : Mem) : Option Int32 := gd x1 20 (if (M 10 (Int32.toNatClampNeg x1)) = 0 then (gd x1 20 (if (M 6 (Int32.toNatClampNeg x1)) = x2 then (gd x1 20 (if (M 8 (Int32.toNatClampNeg x1)) = x3 then (some (1 : Int32)) else (some (0 : Int32)))) else (some (0 : Int32)))) else (some (0 : Int32)))
theorem iX5_does_X5 : ∀ w ∈ wsX50, w ∈ wsX5_does := by decide +kernel
theorem kX5_does_9 : Cond.fieldLink RX5 9 "PartitionPlay$Schedule" "kinds" "[I" ∈ wsX5_does := by decide +kernel
theorem kX5_does_18 : Cond.fieldLink RX5 18 "PartitionPlay$Schedule" "as" "[I" ∈ wsX5_does := by decide +kernel
theorem kX5_does_24 : Cond.fieldLink RX5 24 "PartitionPlay$Schedule" "leftOut" "[Z" ∈ wsX5_does := by decide +kernel
abbrev rmX5_does : Room := { frames := 0, cells := 0, slots := 0, locals := 0 }
set_option maxRecDepth 100000 in
set_option maxHeartbeats 4000000 in
theorem c_X5_does (l : Launch) (D : va_G) (cI cZ : ClassId) (ad : Nat → Nat) (x1 : Int32) (x2 : Int32) (x3 : Int32) (M : Mem) (r : Int32) (hf : fX5_does x1 x2 x3 M = some r) : MetI l yX5_does wsX5_does rmX5_does D cI cZ ad [.ref (ad 5), .int x1, .int x2, .int x3] M r M := by
  refine met_i (cc := cX5_does) (nL := 4) (ret := (some .boolean)) (own := RX5) (by decide) rfl rfl (Nat.le_of_ble_eq_true rfl) ?_
  intro p e s m args below meth c A G hr hlocks
  unfold fX5_does at hf
  show Wk p l e (headSpec wsX5_does rmX5_does).room s m args below meth c D cI cZ ad A 4 0 0 (QI below D cI cZ ad A args s r M) M 0 [(0, .ref (ad 5)), (1, .int x1), (2, .int x2), (3, .int x3)] []
  refine wk_aload_n G 0 dX5_does_0 rfl rfl ?_
  refine wk_get (ci := 5) (v := .ref (ad 10)) G iX5_does_X5 5 (by decide) (ck5 cI cZ ad (M 5)) rfl 5 (Nat.le_of_ble_eq_true rfl) kX5_does_24 rfl dX5_does_1 ?_
  refine wk_iload_n G 1 dX5_does_4 rfl rfl ?_
  obtain ⟨h1, hf⟩ := gd_of hf
  refine wk_zald G 10 (by decide) (ck10 cI cZ ad) h1 dX5_does_5 ?_
  refine wk_if_ne (tgt := 33) G dX5_does_6 (by decide) (fun c2 => ?_) (fun c2 => ?_)
  · replace hf := it_f c2 hf
    refine wk_iconst (v := (0 : Int32)) G dX5_does_33 (by decide) ?_
    exact wk_rz G hr hlocks (Or.inl rfl) dX5_does_34 (congrArg (fun z => (z, M)) (Option.some.inj hf))
  · replace hf := it_t c2 hf
    refine wk_aload_n G 0 dX5_does_9 rfl rfl ?_
    refine wk_get (ci := 5) (v := .ref (ad 6)) G iX5_does_X5 5 (by decide) (ck5 cI cZ ad (M 5)) rfl 1 (Nat.le_of_ble_eq_true rfl) kX5_does_9 rfl dX5_does_10 ?_
    refine wk_iload_n G 1 dX5_does_13 rfl rfl ?_
    obtain ⟨h3, hf⟩ := gd_of hf
    refine wk_iald G 6 (by decide) (ck6 cI cZ ad) h3 dX5_does_14 ?_
    refine wk_iload_n G 2 dX5_does_15 rfl rfl ?_
    refine wk_icmp_ne (tgt := 33) G dX5_does_16 (by decide) (fun c4 => ?_) (fun c4 => ?_)
    · replace hf := it_f c4 hf
      refine wk_iconst (v := (0 : Int32)) G dX5_does_33 (by decide) ?_
      exact wk_rz G hr hlocks (Or.inl rfl) dX5_does_34 (congrArg (fun z => (z, M)) (Option.some.inj hf))
    · replace hf := it_t c4 hf
      refine wk_aload_n G 0 dX5_does_19 rfl rfl ?_
      refine wk_get (ci := 5) (v := .ref (ad 8)) G iX5_does_X5 5 (by decide) (ck5 cI cZ ad (M 5)) rfl 3 (Nat.le_of_ble_eq_true rfl) kX5_does_18 rfl dX5_does_20 ?_
      refine wk_iload_n G 1 dX5_does_23 rfl rfl ?_
      obtain ⟨h5, hf⟩ := gd_of hf
      refine wk_iald G 8 (by decide) (ck8 cI cZ ad) h5 dX5_does_24 ?_
      refine wk_iload_n G 3 dX5_does_25 rfl rfl ?_
      refine wk_icmp_ne (tgt := 33) G dX5_does_26 (by decide) (fun c6 => ?_) (fun c6 => ?_)
      · replace hf := it_f c6 hf
        refine wk_iconst (v := (0 : Int32)) G dX5_does_33 (by decide) ?_
        exact wk_rz G hr hlocks (Or.inl rfl) dX5_does_34 (congrArg (fun z => (z, M)) (Option.some.inj hf))
      · replace hf := it_t c6 hf
        refine wk_iconst (v := (1 : Int32)) G dX5_does_29 (by decide) ?_
        refine wk_goto (tgt := 34) G dX5_does_30 (by decide) ?_
        exact wk_rz G hr hlocks (Or.inr rfl) dX5_does_34 (congrArg (fun z => (z, M)) (Option.some.inj hf))
def fX5_loses (x1 : Int32) (M : Mem) : Option Int32 := (loop fu (un1 fun (v1 : Int32) => (if (M 5 0) ≤ v1 then (some (.inr (.inr ()))) else ((fX5_does v1 (4 : Int32) x1 M).bind (fun (r3 : Int32) => if r3 = 0 then (nm (v1 + (1 : Int32)) fun (v6 : Int32) => some (.inl v6)) else (some (.inr (.inl (1 : Int32)))))) : Option ((Int32) ⊕ ((Int32) ⊕ (Unit))))) (0 : Int32)).bind (Sum.elim (fun rm => some rm) (fun (_ : Unit) => some (0 : Int32)))
theorem iX5_loses_X5 : ∀ w ∈ wsX50, w ∈ wsX5_loses := by decide +kernel
theorem kX5_loses_31 : Cond.fieldLink RX5 31 "PartitionPlay$Schedule" "size" "I" ∈ wsX5_loses := by decide +kernel
abbrev rmX5_loses : Room := { frames := 1, cells := 0, slots := 0, locals := 23 }
set_option maxRecDepth 100000 in
set_option maxHeartbeats 4000000 in
theorem c_X5_loses (l : Launch) (D : va_G) (cI cZ : ClassId) (ad : Nat → Nat) (x1 : Int32) (M : Mem) (r : Int32) (hf : fX5_loses x1 M = some r) : MetI l yX5_loses wsX5_loses rmX5_loses D cI cZ ad [.ref (ad 5), .int x1] M r M := by
  refine met_i (cc := cX5_loses) (nL := 3) (ret := (some .boolean)) (own := RX5) (by decide) rfl rfl (Nat.le_of_ble_eq_true rfl) ?_
  intro p e s m args below meth c A G hr hlocks
  unfold fX5_loses at hf
  show Wk p l e (headSpec wsX5_loses rmX5_loses).room s m args below meth c D cI cZ ad A 3 0 0 (QI below D cI cZ ad A args s r M) M 0 [(0, .ref (ad 5)), (1, .int x1)] []
  refine wk_iconst (v := (0 : Int32)) G dX5_loses_0 (by decide) ?_
  refine wk_istore_n (lv' := [(2, .int (0 : Int32)), (0, .ref (ad 5)), (1, .int x1)]) G dX5_loses_1 rfl (by decide) rfl ?_
  refine wk_sub [1, 2, 0] rfl ?_
  obtain ⟨q7, q8, hf⟩ := bd_of hf
  have Cq7 : (Sum.elim (fun rm => rm = r) (fun (_ : Unit) => Wk p l e (headSpec wsX5_loses rmX5_loses).room s m args below meth c D cI cZ ad A 3 0 0 (QI below D cI cZ ad A args s r M) M 28 [] [])) q7 := by
    rcases q7 with rm | ⟨⟩
    · exact Option.some.inj hf
    · skip
      show Wk p l e (headSpec wsX5_loses rmX5_loses).room s m args below meth c D cI cZ ad A 3 0 0 (QI below D cI cZ ad A args s r M) M 28 [] []
      refine wk_iconst (v := (0 : Int32)) G dX5_loses_28 (by decide) ?_
      exact wk_rz G hr hlocks (Or.inl rfl) dX5_loses_29 (congrArg (fun z => (z, M)) (Option.some.inj hf))
  have Lq7 : (up1 fun (v1 : Int32) => Wk p l e (headSpec wsX5_loses rmX5_loses).room s m args below meth c D cI cZ ad A 3 0 0 (QI below D cI cZ ad A args s r M) M 2 [(0, .ref (ad 5)), (1, .int x1), (2, .int v1)] []) (0 : Int32) := by
    refine loop_P (C := (Sum.elim (fun rm => rm = r) (fun (_ : Unit) => Wk p l e (headSpec wsX5_loses rmX5_loses).room s m args below meth c D cI cZ ad A 3 0 0 (QI below D cI cZ ad A args s r M) M 28 [] []))) ?_ fu (0 : Int32) q7 q8 Cq7
    clear hf Cq7 q8
    intro v1 o hf hI hE
    replace hf := un1_of hf
    show Wk p l e (headSpec wsX5_loses rmX5_loses).room s m args below meth c D cI cZ ad A 3 0 0 (QI below D cI cZ ad A args s r M) M 2 [(0, .ref (ad 5)), (1, .int x1), (2, .int v1)] []
    refine wk_iload_n G 2 dX5_loses_2 rfl rfl ?_
    refine wk_aload_n G 0 dX5_loses_3 rfl rfl ?_
    refine wk_get (ci := 5) (v := .int (M 5 0)) G iX5_loses_X5 5 (by decide) (ck5 cI cZ ad (M 5)) rfl 0 (Nat.le_of_ble_eq_true rfl) kX5_loses_31 rfl dX5_loses_4 ?_
    refine wk_icmp_ge (tgt := 28) G dX5_loses_7 (by decide) (fun c2 => ?_) (fun c2 => ?_)
    · replace hf := it_t c2 hf
      refine wk_sub [] rfl ?_
      exact hE _ (Option.some.inj hf).symm
    · replace hf := it_f c2 hf
      refine wk_aload_n G 0 dX5_loses_10 rfl rfl ?_
      refine wk_iload_n G 2 dX5_loses_11 rfl rfl ?_
      refine wk_iconst (v := (4 : Int32)) G dX5_loses_12 (by decide) ?_
      refine wk_iload_n G 1 dX5_loses_13 rfl rfl ?_
      obtain ⟨r3, q4, hf⟩ := bd_of hf
      refine wk_callVi (As := [.int v1, .int (4 : Int32), .int x1]) (rest := []) (ci := 5) G 5 (by decide) (c_X5_does l D cI cZ ad v1 (4 : Int32) x1 M r3 q4) (cwV 3 G.2.2.2.2.1 gX5_loses_X5_does rfl rfl rfl (by decide +kernel) ⟨Nat.le_of_ble_eq_true rfl, Nat.le_of_ble_eq_true rfl⟩) (ck5 cI cZ ad (M 5)) rfl rfl rfl (Nat.le_of_ble_eq_true rfl) dX5_loses_14 ⟨Nat.le_of_ble_eq_true rfl, Nat.le_of_ble_eq_true rfl⟩ ?_
      refine wk_if_eq (tgt := 22) G dX5_loses_17 (by decide) (fun c5 => ?_) (fun c5 => ?_)
      · replace hf := it_t c5 hf
        obtain ⟨v6, ev6, hf⟩ := nm_ex hf
        refine wk_iinc (v := v6) (lv' := [(2, .int v6), (0, .ref (ad 5)), (1, .int x1)]) G 2 dX5_loses_22 rfl (by rw [ev6]; rfl) (by decide) rfl ?_
        refine wk_goto (tgt := 2) G dX5_loses_25 (by decide) ?_
        refine wk_sub [1, 2, 0] rfl ?_
        exact hI _ (Option.some.inj hf).symm
      · replace hf := it_f c5 hf
        refine wk_iconst (v := (1 : Int32)) G dX5_loses_20 (by decide) ?_
        exact wk_rz G hr hlocks (Or.inr rfl) dX5_loses_21 (congrArg (fun z => (z, M)) (hE _ (Option.some.inj hf).symm))
  exact Lq7
def fX5_lateness (x1 : Int32) (M : Mem) : Option Int32 := (loop fu (un2 fun (v1 : Int32) (v2 : Int32) => (if (M 5 0) ≤ v2 then (some (.inr v1)) else ((fX5_does v2 (6 : Int32) x1 M).bind (fun (r4 : Int32) => nm (fun (v6 : Int32) => nm (v2 + (1 : Int32)) fun (v7 : Int32) => some (.inl (v6, v7))) fun j32 => if r4 = 0 then (j32 v1) else (gd v2 20 (nm ((v1 + (M 9 (Int32.toNatClampNeg v2)))) fun (v10 : Int32) => j32 v10)))) : Option ((Int32 × Int32) ⊕ (Int32)))) ((0 : Int32), (0 : Int32))).bind (un1 fun (v11 : Int32) => some v11)
theorem iX5_lateness_X5 : ∀ w ∈ wsX50, w ∈ wsX5_lateness := by decide +kernel
theorem kX5_lateness_21 : Cond.fieldLink RX5 21 "PartitionPlay$Schedule" "bs" "[I" ∈ wsX5_lateness := by decide +kernel
theorem kX5_lateness_31 : Cond.fieldLink RX5 31 "PartitionPlay$Schedule" "size" "I" ∈ wsX5_lateness := by decide +kernel
abbrev rmX5_lateness : Room := { frames := 1, cells := 0, slots := 0, locals := 23 }
set_option maxRecDepth 100000 in
set_option maxHeartbeats 4000000 in
theorem c_X5_lateness (l : Launch) (D : va_G) (cI cZ : ClassId) (ad : Nat → Nat) (x1 : Int32) (M : Mem) (r : Int32) (hf : fX5_lateness x1 M = some r) : MetI l yX5_lateness wsX5_lateness rmX5_lateness D cI cZ ad [.ref (ad 5), .int x1] M r M := by
  refine met_i (cc := cX5_lateness) (nL := 4) (ret := (some .int)) (own := RX5) (by decide) rfl rfl (Nat.le_of_ble_eq_true rfl) ?_
  intro p e s m args below meth c A G hr hlocks
  unfold fX5_lateness at hf
  show Wk p l e (headSpec wsX5_lateness rmX5_lateness).room s m args below meth c D cI cZ ad A 4 0 0 (QI below D cI cZ ad A args s r M) M 0 [(0, .ref (ad 5)), (1, .int x1)] []
  refine wk_iconst (v := (0 : Int32)) G dX5_lateness_0 (by decide) ?_
  refine wk_istore_n (lv' := [(2, .int (0 : Int32)), (0, .ref (ad 5)), (1, .int x1)]) G dX5_lateness_1 rfl (by decide) rfl ?_
  refine wk_iconst (v := (0 : Int32)) G dX5_lateness_2 (by decide) ?_
  refine wk_istore_n (lv' := [(3, .int (0 : Int32)), (2, .int (0 : Int32)), (0, .ref (ad 5)), (1, .int x1)]) G dX5_lateness_3 rfl (by decide) rfl ?_
  refine wk_sub [2, 3, 1, 0] rfl ?_
  obtain ⟨q12, q13, hf⟩ := bd_of hf
  have Cq12 : (up1 fun (v11 : Int32) => Wk p l e (headSpec wsX5_lateness rmX5_lateness).room s m args below meth c D cI cZ ad A 4 0 0 (QI below D cI cZ ad A args s r M) M 38 [(2, .int v11)] []) q12 := by
    obtain ⟨v11, rfl⟩ : ∃ z, z = q12 := ⟨_, rfl⟩
    replace hf := un1_of hf
    show Wk p l e (headSpec wsX5_lateness rmX5_lateness).room s m args below meth c D cI cZ ad A 4 0 0 (QI below D cI cZ ad A args s r M) M 38 [(2, .int v11)] []
    refine wk_iload_n G 0 dX5_lateness_38 rfl rfl ?_
    exact wk_ri G hr hlocks dX5_lateness_39 (congrArg (fun z => (z, M)) (Option.some.inj hf))
  have Lq12 : (up2 fun (v1 : Int32) (v2 : Int32) => Wk p l e (headSpec wsX5_lateness rmX5_lateness).room s m args below meth c D cI cZ ad A 4 0 0 (QI below D cI cZ ad A args s r M) M 4 [(0, .ref (ad 5)), (1, .int x1), (2, .int v1), (3, .int v2)] []) ((0 : Int32), (0 : Int32)) := by
    refine loop_P (C := (up1 fun (v11 : Int32) => Wk p l e (headSpec wsX5_lateness rmX5_lateness).room s m args below meth c D cI cZ ad A 4 0 0 (QI below D cI cZ ad A args s r M) M 38 [(2, .int v11)] [])) ?_ fu ((0 : Int32), (0 : Int32)) q12 q13 Cq12
    clear hf Cq12 q13
    rintro ⟨v1, v2⟩ o hf hI hE
    replace hf := un2_of hf
    show Wk p l e (headSpec wsX5_lateness rmX5_lateness).room s m args below meth c D cI cZ ad A 4 0 0 (QI below D cI cZ ad A args s r M) M 4 [(0, .ref (ad 5)), (1, .int x1), (2, .int v1), (3, .int v2)] []
    refine wk_iload_n G 3 dX5_lateness_4 rfl rfl ?_
    refine wk_aload_n G 0 dX5_lateness_5 rfl rfl ?_
    refine wk_get (ci := 5) (v := .int (M 5 0)) G iX5_lateness_X5 5 (by decide) (ck5 cI cZ ad (M 5)) rfl 0 (Nat.le_of_ble_eq_true rfl) kX5_lateness_31 rfl dX5_lateness_6 ?_
    refine wk_icmp_ge (tgt := 38) G dX5_lateness_9 (by decide) (fun c3 => ?_) (fun c3 => ?_)
    · replace hf := it_t c3 hf
      refine wk_sub [2] rfl ?_
      exact hE _ (Option.some.inj hf).symm
    · replace hf := it_f c3 hf
      refine wk_aload_n G 0 dX5_lateness_12 rfl rfl ?_
      refine wk_iload_n G 3 dX5_lateness_13 rfl rfl ?_
      refine wk_bipush (v := (6 : Int32)) G dX5_lateness_14 (by decide) ?_
      refine wk_iload_n G 1 dX5_lateness_16 rfl rfl ?_
      obtain ⟨r4, q5, hf⟩ := bd_of hf
      refine wk_callVi (As := [.int v2, .int (6 : Int32), .int x1]) (rest := []) (ci := 5) G 5 (by decide) (c_X5_does l D cI cZ ad v2 (6 : Int32) x1 M r4 q5) (cwV 3 G.2.2.2.2.1 gX5_lateness_X5_does rfl rfl rfl (by decide +kernel) ⟨Nat.le_of_ble_eq_true rfl, Nat.le_of_ble_eq_true rfl⟩) (ck5 cI cZ ad (M 5)) rfl rfl rfl (Nat.le_of_ble_eq_true rfl) dX5_lateness_17 ⟨Nat.le_of_ble_eq_true rfl, Nat.le_of_ble_eq_true rfl⟩ ?_
      obtain ⟨j32, ej32, hf⟩ := nm_ex hf
      have J32 : ∀ (v6 : Int32), j32 v6 = some o → Wk p l e (headSpec wsX5_lateness rmX5_lateness).room s m args below meth c D cI cZ ad A 4 0 0 (QI below D cI cZ ad A args s r M) M 32 [(0, .ref (ad 5)), (1, .int x1), (2, .int v6), (3, .int v2)] [] := by
        intro v6 hf
        replace hf := jn1 ej32 hf
        obtain ⟨v7, ev7, hf⟩ := nm_ex hf
        refine wk_iinc (v := v7) (lv' := [(3, .int v7), (0, .ref (ad 5)), (1, .int x1), (2, .int v6)]) G 3 dX5_lateness_32 rfl (by rw [ev7]; rfl) (by decide) rfl ?_
        refine wk_goto (tgt := 4) G dX5_lateness_35 (by decide) ?_
        refine wk_sub [1, 2, 3, 0] rfl ?_
        exact hI _ (Option.some.inj hf).symm
      refine wk_if_eq (tgt := 32) G dX5_lateness_20 (by decide) (fun c8 => ?_) (fun c8 => ?_)
      · replace hf := it_t c8 hf
        exact J32 v1 hf
      · replace hf := it_f c8 hf
        refine wk_iload_n G 2 dX5_lateness_23 rfl rfl ?_
        refine wk_aload_n G 0 dX5_lateness_24 rfl rfl ?_
        refine wk_get (ci := 5) (v := .ref (ad 9)) G iX5_lateness_X5 5 (by decide) (ck5 cI cZ ad (M 5)) rfl 4 (Nat.le_of_ble_eq_true rfl) kX5_lateness_21 rfl dX5_lateness_25 ?_
        refine wk_iload_n G 3 dX5_lateness_28 rfl rfl ?_
        obtain ⟨h9, hf⟩ := gd_of hf
        refine wk_iald G 9 (by decide) (ck9 cI cZ ad) h9 dX5_lateness_29 ?_
        refine wk_iadd G dX5_lateness_30 ?_
        obtain ⟨v10, ev10, hf⟩ := nm_ex hf
        refine wk_nme ev10 ?_
        refine wk_istore_n (lv' := [(2, .int v10), (0, .ref (ad 5)), (1, .int x1), (3, .int v2)]) G dX5_lateness_31 rfl (by decide) rfl ?_
        refine wk_sub [1, 2, 0, 3] rfl ?_
        exact J32 v10 hf
  exact Lq12
def fX4_postDoubles (b : Nat) (x1 : Int32) (x2 : Int32) (M : Mem) : Option Mem := (loop fu (un2 fun (v1 : Int32) (M2 : Mem) => (if (M2 5 0) ≤ v1 then (some (.inr M2)) else ((fX5_does v1 (5 : Int32) x1 M2).bind (fun (r4 : Int32) => nm (fun (M6 : Mem) => nm (v1 + (1 : Int32)) fun (v7 : Int32) => some (.inl (v7, M6))) fun j45 => if r4 = 0 then (j45 M2) else (gd v1 20 ((fX0_add b x1 (x2 + (M2 9 (Int32.toNatClampNeg v1))) M2).bind (fun (M10 : Mem) => j45 M10))))) : Option ((Int32 × Mem) ⊕ (Mem)))) ((0 : Int32), M)).bind (un1 fun (M12 : Mem) => some M12)
theorem iX4_postDoubles_X4 : ∀ w ∈ wsX40, w ∈ wsX4_postDoubles := by decide +kernel
theorem iX4_postDoubles_X5 : ∀ w ∈ wsX50, w ∈ wsX4_postDoubles := by decide +kernel
theorem kX4_postDoubles_12 : Cond.fieldLink RX4 12 "PartitionPlay$Play" "comings" "LPartitionPlay$Comings;" ∈ wsX4_postDoubles := by decide +kernel
theorem kX4_postDoubles_41 : Cond.fieldLink RX4 41 "PartitionPlay$Play" "schedule" "LPartitionPlay$Schedule;" ∈ wsX4_postDoubles := by decide +kernel
theorem kX4_postDoubles_102 : Cond.fieldLink RX4 102 "PartitionPlay$Schedule" "size" "I" ∈ wsX4_postDoubles := by decide +kernel
theorem kX4_postDoubles_218 : Cond.fieldLink RX4 218 "PartitionPlay$Schedule" "bs" "[I" ∈ wsX4_postDoubles := by decide +kernel
abbrev rmX4_postDoubles : Room := { frames := 1, cells := 0, slots := 0, locals := 23 }
set_option maxRecDepth 100000 in
set_option maxHeartbeats 4000000 in
theorem c_X4_postDoubles (l : Launch) (D : va_G) (cI cZ : ClassId) (ad : Nat → Nat) (b : Nat) (hb : b = 12 ∨ b = 34) (x1 : Int32) (x2 : Int32) (M : Mem) (M' : Mem) (hf : fX4_postDoubles b x1 x2 M = some M') : MetV l yX4_postDoubles wsX4_postDoubles rmX4_postDoubles D cI cZ ad [.ref (ad b), .int x1, .int x2] M M' := by
  refine met_v (cc := cX4_postDoubles) (nL := 4) (ret := none) (own := RX4) (by decide) rfl rfl (Nat.le_of_ble_eq_true rfl) ?_
  intro p e s m args below meth c A G hr hlocks
  unfold fX4_postDoubles at hf
  show Wk p l e (headSpec wsX4_postDoubles rmX4_postDoubles).room s m args below meth c D cI cZ ad A 4 0 0 (QV below D cI cZ ad A args s M') M 0 [(0, .ref (ad b)), (1, .int x1), (2, .int x2)] []
  refine wk_iconst (v := (0 : Int32)) G dX4_postDoubles_0 (by decide) ?_
  refine wk_istore_n (lv' := [(3, .int (0 : Int32)), (0, .ref (ad b)), (1, .int x1), (2, .int x2)]) G dX4_postDoubles_1 rfl (by decide) rfl ?_
  refine wk_sub [1, 2, 3, 0] rfl ?_
  obtain ⟨q13, q14, hf⟩ := bd_of hf
  have Cq13 : (up1 fun (M12 : Mem) => Wk p l e (headSpec wsX4_postDoubles rmX4_postDoubles).room s m args below meth c D cI cZ ad A 4 0 0 (QV below D cI cZ ad A args s M') M12 51 [] []) q13 := by
    obtain ⟨M12, rfl⟩ : ∃ z, z = q13 := ⟨_, rfl⟩
    replace hf := un1_of hf
    show Wk p l e (headSpec wsX4_postDoubles rmX4_postDoubles).room s m args below meth c D cI cZ ad A 4 0 0 (QV below D cI cZ ad A args s M') M12 51 [] []
    exact wk_rv G hr hlocks dX4_postDoubles_51 (Option.some.inj hf)
  have Lq13 : (up2 fun (v1 : Int32) (M2 : Mem) => Wk p l e (headSpec wsX4_postDoubles rmX4_postDoubles).room s m args below meth c D cI cZ ad A 4 0 0 (QV below D cI cZ ad A args s M') M2 2 [(0, .ref (ad b)), (1, .int x1), (2, .int x2), (3, .int v1)] []) ((0 : Int32), M) := by
    refine loop_P (C := (up1 fun (M12 : Mem) => Wk p l e (headSpec wsX4_postDoubles rmX4_postDoubles).room s m args below meth c D cI cZ ad A 4 0 0 (QV below D cI cZ ad A args s M') M12 51 [] [])) ?_ fu ((0 : Int32), M) q13 q14 Cq13
    clear hf Cq13 q14
    rintro ⟨v1, M2⟩ o hf hI hE
    replace hf := un2_of hf
    show Wk p l e (headSpec wsX4_postDoubles rmX4_postDoubles).room s m args below meth c D cI cZ ad A 4 0 0 (QV below D cI cZ ad A args s M') M2 2 [(0, .ref (ad b)), (1, .int x1), (2, .int x2), (3, .int v1)] []
    refine wk_iload_n G 3 dX4_postDoubles_2 rfl rfl ?_
    refine wk_aload_n G 0 dX4_postDoubles_3 rfl rfl ?_
    refine wk_get (ci := 4) (v := .ref (ad 5)) G iX4_postDoubles_X4 b (lb0 hb) (ckb0 cI cZ ad hb (M2 b)) rfl 1 (Nat.le_of_ble_eq_true rfl) kX4_postDoubles_41 rfl dX4_postDoubles_4 ?_
    refine wk_get (ci := 5) (v := .int (M2 5 0)) G iX4_postDoubles_X5 5 (by decide) (ck5 cI cZ ad (M2 5)) rfl 0 (Nat.le_of_ble_eq_true rfl) kX4_postDoubles_102 rfl dX4_postDoubles_7 ?_
    refine wk_icmp_ge (tgt := 51) G dX4_postDoubles_10 (by decide) (fun c3 => ?_) (fun c3 => ?_)
    · replace hf := it_t c3 hf
      refine wk_sub [] rfl ?_
      exact hE _ (Option.some.inj hf).symm
    · replace hf := it_f c3 hf
      refine wk_aload_n G 0 dX4_postDoubles_13 rfl rfl ?_
      refine wk_get (ci := 4) (v := .ref (ad 5)) G iX4_postDoubles_X4 b (lb0 hb) (ckb0 cI cZ ad hb (M2 b)) rfl 1 (Nat.le_of_ble_eq_true rfl) kX4_postDoubles_41 rfl dX4_postDoubles_14 ?_
      refine wk_iload_n G 3 dX4_postDoubles_17 rfl rfl ?_
      refine wk_iconst (v := (5 : Int32)) G dX4_postDoubles_18 (by decide) ?_
      refine wk_iload_n G 1 dX4_postDoubles_19 rfl rfl ?_
      obtain ⟨r4, q5, hf⟩ := bd_of hf
      refine wk_callVi (As := [.int v1, .int (5 : Int32), .int x1]) (rest := []) (ci := 5) G 5 (by decide) (c_X5_does l D cI cZ ad v1 (5 : Int32) x1 M2 r4 q5) (cwV 3 G.2.2.2.2.1 gX4_postDoubles_X5_does rfl rfl rfl (by decide +kernel) ⟨Nat.le_of_ble_eq_true rfl, Nat.le_of_ble_eq_true rfl⟩) (ck5 cI cZ ad (M2 5)) rfl rfl rfl (Nat.le_of_ble_eq_true rfl) dX4_postDoubles_20 ⟨Nat.le_of_ble_eq_true rfl, Nat.le_of_ble_eq_true rfl⟩ ?_
      obtain ⟨j45, ej45, hf⟩ := nm_ex hf
      have J45 : ∀ (M6 : Mem), j45 M6 = some o → Wk p l e (headSpec wsX4_postDoubles rmX4_postDoubles).room s m args below meth c D cI cZ ad A 4 0 0 (QV below D cI cZ ad A args s M') M6 45 [(0, .ref (ad b)), (1, .int x1), (2, .int x2), (3, .int v1)] [] := by
        intro M6 hf
        replace hf := jn1 ej45 hf
        obtain ⟨v7, ev7, hf⟩ := nm_ex hf
        refine wk_iinc (v := v7) (lv' := [(3, .int v7), (0, .ref (ad b)), (1, .int x1), (2, .int x2)]) G 3 dX4_postDoubles_45 rfl (by rw [ev7]; rfl) (by decide) rfl ?_
        refine wk_goto (tgt := 2) G dX4_postDoubles_48 (by decide) ?_
        refine wk_sub [1, 2, 3, 0] rfl ?_
        exact hI _ (Option.some.inj hf).symm
      refine wk_if_eq (tgt := 45) G dX4_postDoubles_23 (by decide) (fun c8 => ?_) (fun c8 => ?_)
      · replace hf := it_t c8 hf
        exact J45 M2 hf
      · replace hf := it_f c8 hf
        refine wk_aload_n G 0 dX4_postDoubles_26 rfl rfl ?_
        refine wk_get (ci := 4) (v := .ref (ad (b + 1))) G iX4_postDoubles_X4 b (lb0 hb) (ckb0 cI cZ ad hb (M2 b)) rfl 3 (Nat.le_of_ble_eq_true rfl) kX4_postDoubles_12 rfl dX4_postDoubles_27 ?_
        refine wk_iload_n G 1 dX4_postDoubles_30 rfl rfl ?_
        refine wk_iload_n G 2 dX4_postDoubles_31 rfl rfl ?_
        refine wk_aload_n G 0 dX4_postDoubles_32 rfl rfl ?_
        refine wk_get (ci := 4) (v := .ref (ad 5)) G iX4_postDoubles_X4 b (lb0 hb) (ckb0 cI cZ ad hb (M2 b)) rfl 1 (Nat.le_of_ble_eq_true rfl) kX4_postDoubles_41 rfl dX4_postDoubles_33 ?_
        refine wk_get (ci := 5) (v := .ref (ad 9)) G iX4_postDoubles_X5 5 (by decide) (ck5 cI cZ ad (M2 5)) rfl 4 (Nat.le_of_ble_eq_true rfl) kX4_postDoubles_218 rfl dX4_postDoubles_36 ?_
        refine wk_iload_n G 3 dX4_postDoubles_39 rfl rfl ?_
        obtain ⟨h9, hf⟩ := gd_of hf
        refine wk_iald G 9 (by decide) (ck9 cI cZ ad) h9 dX4_postDoubles_40 ?_
        refine wk_iadd G dX4_postDoubles_41 ?_
        obtain ⟨M10, q11, hf⟩ := bd_of hf
        refine wk_callVv (As := [.int x1, .int (x2 + (M2 9 (Int32.toNatClampNeg v1)))]) (rest := []) (ci := 0) G (b + 1) (lb hb (by decide)) (c_X0_add l D cI cZ ad b hb x1 (x2 + (M2 9 (Int32.toNatClampNeg v1))) M2 M10 q11) (cwV 2 G.2.2.2.2.1 gX4_postDoubles_X0_add rfl rfl rfl (by decide +kernel) ⟨Nat.le_of_ble_eq_true rfl, Nat.le_of_ble_eq_true rfl⟩) (ckb1 cI cZ ad hb (M2 (b + 1))) rfl rfl rfl (Nat.le_of_ble_eq_true rfl) dX4_postDoubles_42 ⟨Nat.le_of_ble_eq_true rfl, Nat.le_of_ble_eq_true rfl⟩ ?_
        exact J45 M10 hf
  exact Lq13
def fX4_post (b : Nat) (x1 : Int32) (x2 : Int32) (M : Mem) : Option Mem := (fX1_has b x1 M).bind (fun (r1 : Int32) => if r1 = 0 then (some M) else ((fX5_names x1 M).bind (fun (r4 : Int32) => (fX4_isAlsoLost b x1 M).bind (fun (r6 : Int32) => nm (fun (u8 : Unit) => nm (st M (b + 12) 1 ((M (b + 12) 1) + (1 : Int32))) fun (M9 : Mem) => some M9) fun j44 => if r6 = 0 then (nm (fun (u11 : Unit) => nm (fun (v12 : Int32) => gd x1 1200 (nm (st M (b + 18) (Int32.toNatClampNeg x1) v12) fun (M14 : Mem) => (fX0_add b x1 v12 M14).bind (fun (M15 : Mem) => if r4 = 0 then (some M15) else ((fX4_postDoubles b x1 v12 M15).bind (fun (M18 : Mem) => some M18))))) fun j76 => if r4 = 0 then (j76 x2) else ((fX5_lateness x1 M).bind (fun (r21 : Int32) => j76 (x2 + r21)))) fun j58 => if r4 = 0 then (j58 ()) else ((fX5_loses x1 M).bind (fun (r24 : Int32) => if r24 = 0 then (j58 ()) else (j44 ())))) else (j44 ())))))
theorem iX4_post_X1 : ∀ w ∈ wsX10, w ∈ wsX4_post := by decide +kernel
theorem iX4_post_X4 : ∀ w ∈ wsX40, w ∈ wsX4_post := by decide +kernel
theorem kX4_post_12 : Cond.fieldLink RX4 12 "PartitionPlay$Play" "comings" "LPartitionPlay$Comings;" ∈ wsX4_post := by decide +kernel
theorem kX4_post_21 : Cond.fieldLink RX4 21 "PartitionPlay$Play" "letters" "LPartitionPlay$Letters;" ∈ wsX4_post := by decide +kernel
theorem kX4_post_41 : Cond.fieldLink RX4 41 "PartitionPlay$Play" "schedule" "LPartitionPlay$Schedule;" ∈ wsX4_post := by decide +kernel
theorem kX4_post_200 : Cond.fieldLink RX4 200 "PartitionPlay$Letters" "lost" "I" ∈ wsX4_post := by decide +kernel
theorem kX4_post_206 : Cond.fieldLink RX4 206 "PartitionPlay$Letters" "firstComings" "[I" ∈ wsX4_post := by decide +kernel
abbrev rmX4_post : Room := { frames := 2, cells := 0, slots := 0, locals := 46 }
set_option maxRecDepth 100000 in
set_option maxHeartbeats 4000000 in
theorem c_X4_post (l : Launch) (D : va_G) (cI cZ : ClassId) (ad : Nat → Nat) (b : Nat) (hb : b = 12 ∨ b = 34) (x1 : Int32) (x2 : Int32) (M : Mem) (M' : Mem) (hf : fX4_post b x1 x2 M = some M') : MetV l yX4_post wsX4_post rmX4_post D cI cZ ad [.ref (ad b), .int x1, .int x2] M M' := by
  refine met_v (cc := cX4_post) (nL := 5) (ret := none) (own := RX4) (by decide) rfl rfl (Nat.le_of_ble_eq_true rfl) ?_
  intro p e s m args below meth c A G hr hlocks
  unfold fX4_post at hf
  show Wk p l e (headSpec wsX4_post rmX4_post).room s m args below meth c D cI cZ ad A 5 0 0 (QV below D cI cZ ad A args s M') M 0 [(0, .ref (ad b)), (1, .int x1), (2, .int x2)] []
  refine wk_aload_n G 0 dX4_post_0 rfl rfl ?_
  refine wk_get (ci := 4) (v := .ref (ad (b + 12))) G iX4_post_X4 b (lb0 hb) (ckb0 cI cZ ad hb (M b)) rfl 5 (Nat.le_of_ble_eq_true rfl) kX4_post_21 rfl dX4_post_1 ?_
  refine wk_iload_n G 1 dX4_post_4 rfl rfl ?_
  obtain ⟨r1, q2, hf⟩ := bd_of hf
  refine wk_callVi (As := [.int x1]) (rest := []) (ci := 1) G (b + 12) (lb hb (by decide)) (c_X1_has l D cI cZ ad b hb x1 M r1 q2) (cwV 1 G.2.2.2.2.1 gX4_post_X1_has rfl rfl rfl (by decide +kernel) ⟨Nat.le_of_ble_eq_true rfl, Nat.le_of_ble_eq_true rfl⟩) (ckb12 cI cZ ad hb (M (b + 12))) rfl rfl rfl (Nat.le_of_ble_eq_true rfl) dX4_post_5 ⟨Nat.le_of_ble_eq_true rfl, Nat.le_of_ble_eq_true rfl⟩ ?_
  refine wk_if_ne (tgt := 12) G dX4_post_8 (by decide) (fun c3 => ?_) (fun c3 => ?_)
  · replace hf := it_f c3 hf
    refine wk_aload_n G 0 dX4_post_12 rfl rfl ?_
    refine wk_get (ci := 4) (v := .ref (ad 5)) G iX4_post_X4 b (lb0 hb) (ckb0 cI cZ ad hb (M b)) rfl 1 (Nat.le_of_ble_eq_true rfl) kX4_post_41 rfl dX4_post_13 ?_
    refine wk_iload_n G 1 dX4_post_16 rfl rfl ?_
    obtain ⟨r4, q5, hf⟩ := bd_of hf
    refine wk_callVi (As := [.int x1]) (rest := []) (ci := 5) G 5 (by decide) (c_X5_names l D cI cZ ad x1 M r4 q5) (cwV 1 G.2.2.2.2.1 gX4_post_X5_names rfl rfl rfl (by decide +kernel) ⟨Nat.le_of_ble_eq_true rfl, Nat.le_of_ble_eq_true rfl⟩) (ck5 cI cZ ad (M 5)) rfl rfl rfl (Nat.le_of_ble_eq_true rfl) dX4_post_17 ⟨Nat.le_of_ble_eq_true rfl, Nat.le_of_ble_eq_true rfl⟩ ?_
    refine wk_istore_n (lv' := [(3, .int r4), (0, .ref (ad b)), (1, .int x1), (2, .int x2)]) G dX4_post_20 rfl (by decide) rfl ?_
    refine wk_aload_n G 1 dX4_post_21 rfl rfl ?_
    refine wk_iload_n G 2 dX4_post_22 rfl rfl ?_
    obtain ⟨r6, q7, hf⟩ := bd_of hf
    refine wk_callVi (As := [.int x1]) (rest := []) (ci := 4) G b (lb0 hb) (c_X4_isAlsoLost l D cI cZ ad b hb x1 M r6 q7) (cwV 1 G.2.2.2.2.1 gX4_post_X4_isAlsoLost rfl rfl rfl (by decide +kernel) ⟨Nat.le_of_ble_eq_true rfl, Nat.le_of_ble_eq_true rfl⟩) (ckb0 cI cZ ad hb (M b)) rfl rfl rfl (Nat.le_of_ble_eq_true rfl) dX4_post_23 ⟨Nat.le_of_ble_eq_true rfl, Nat.le_of_ble_eq_true rfl⟩ ?_
    obtain ⟨j44, ej44, hf⟩ := nm_ex hf
    have J44 : ∀ (u8 : Unit), j44 u8 = some M' → Wk p l e (headSpec wsX4_post rmX4_post).room s m args below meth c D cI cZ ad A 5 0 0 (QV below D cI cZ ad A args s M') M 44 [(0, .ref (ad b))] [] := by
      intro u8 hf
      replace hf := jn1 ej44 hf
      refine wk_aload_n G 0 dX4_post_44 rfl rfl ?_
      refine wk_get (ci := 4) (v := .ref (ad (b + 12))) G iX4_post_X4 b (lb0 hb) (ckb0 cI cZ ad hb (M b)) rfl 5 (Nat.le_of_ble_eq_true rfl) kX4_post_21 rfl dX4_post_45 ?_
      refine wk_dup G dX4_post_48 rfl ?_
      refine wk_get (ci := 1) (v := .int (M (b + 12) 1)) G iX4_post_X1 (b + 12) (lb hb (by decide)) (ckb12 cI cZ ad hb (M (b + 12))) rfl 1 (Nat.le_of_ble_eq_true rfl) kX4_post_200 rfl dX4_post_49 ?_
      refine wk_iconst (v := (1 : Int32)) G dX4_post_52 (by decide) ?_
      refine wk_iadd G dX4_post_53 ?_
      obtain ⟨M9, eM9, hf⟩ := nm_ex hf
      refine wk_put (ci := 1) G iX4_post_X1 tyX1 tyX1_ok nmX1 (b + 12) (lb hb (by decide)) (ckb12 cI cZ ad hb (M (b + 12))) rfl 1 (Nat.le_of_ble_eq_true rfl) kX4_post_200 rfl (by decide +kernel) (Nat.le_of_ble_eq_true rfl) (cpb12_1 cI cZ ad hb (M (b + 12)) ((M (b + 12) 1) + (1 : Int32))) dX4_post_54 eM9 ?_
      exact wk_rv G hr hlocks dX4_post_57 (Option.some.inj hf)
    refine wk_if_ne (tgt := 44) G dX4_post_26 (by decide) (fun c10 => ?_) (fun c10 => ?_)
    · replace hf := it_f c10 hf
      refine wk_sub [1] rfl ?_
      exact J44 () hf
    · replace hf := it_t c10 hf
      refine wk_iload_n G 0 dX4_post_29 rfl rfl ?_
      obtain ⟨j58, ej58, hf⟩ := nm_ex hf
      have J58 : ∀ (u11 : Unit), j58 u11 = some M' → Wk p l e (headSpec wsX4_post rmX4_post).room s m args below meth c D cI cZ ad A 5 0 0 (QV below D cI cZ ad A args s M') M 58 [(0, .ref (ad b)), (1, .int x1), (2, .int x2), (3, .int r4)] [] := by
        intro u11 hf
        replace hf := jn1 ej58 hf
        refine wk_iload_n G 3 dX4_post_58 rfl rfl ?_
        obtain ⟨j76, ej76, hf⟩ := nm_ex hf
        have J76 : ∀ (v12 : Int32), j76 v12 = some M' → Wk p l e (headSpec wsX4_post rmX4_post).room s m args below meth c D cI cZ ad A 5 0 0 (QV below D cI cZ ad A args s M') M 76 [(0, .ref (ad b)), (1, .int x1), (3, .int r4)] [.int v12] := by
          intro v12 hf
          replace hf := jn1 ej76 hf
          refine wk_istore (lv' := [(4, .int v12), (0, .ref (ad b)), (1, .int x1), (3, .int r4)]) G dX4_post_76 (by decide) rfl ?_
          refine wk_aload_n G 1 dX4_post_78 rfl rfl ?_
          refine wk_get (ci := 4) (v := .ref (ad (b + 12))) G iX4_post_X4 b (lb0 hb) (ckb0 cI cZ ad hb (M b)) rfl 5 (Nat.le_of_ble_eq_true rfl) kX4_post_21 rfl dX4_post_79 ?_
          refine wk_get (ci := 1) (v := .ref (ad (b + 18))) G iX4_post_X1 (b + 12) (lb hb (by decide)) (ckb12 cI cZ ad hb (M (b + 12))) rfl 7 (Nat.le_of_ble_eq_true rfl) kX4_post_206 rfl dX4_post_82 ?_
          refine wk_iload_n G 2 dX4_post_85 rfl rfl ?_
          refine wk_iload G 0 dX4_post_86 rfl ?_
          obtain ⟨h13, hf⟩ := gd_of hf
          obtain ⟨M14, eM14, hf⟩ := nm_ex hf
          refine wk_iast G (b + 18) (lb hb (by decide)) (ckb18 cI cZ ad hb) h13 dX4_post_88 eM14 ?_
          refine wk_aload_n G 1 dX4_post_89 rfl rfl ?_
          refine wk_get (ci := 4) (v := .ref (ad (b + 1))) G iX4_post_X4 b (lb0 hb) (ckb0 cI cZ ad hb (M14 b)) rfl 3 (Nat.le_of_ble_eq_true rfl) kX4_post_12 rfl dX4_post_90 ?_
          refine wk_iload_n G 2 dX4_post_93 rfl rfl ?_
          refine wk_iload G 0 dX4_post_94 rfl ?_
          obtain ⟨M15, q16, hf⟩ := bd_of hf
          refine wk_callVv (As := [.int x1, .int v12]) (rest := []) (ci := 0) G (b + 1) (lb hb (by decide)) (c_X0_add l D cI cZ ad b hb x1 v12 M14 M15 q16) (cwV 2 G.2.2.2.2.1 gX4_post_X0_add rfl rfl rfl (by decide +kernel) ⟨Nat.le_of_ble_eq_true rfl, Nat.le_of_ble_eq_true rfl⟩) (ckb1 cI cZ ad hb (M14 (b + 1))) rfl rfl rfl (Nat.le_of_ble_eq_true rfl) dX4_post_96 ⟨Nat.le_of_ble_eq_true rfl, Nat.le_of_ble_eq_true rfl⟩ ?_
          refine wk_iload_n G 3 dX4_post_99 rfl rfl ?_
          refine wk_if_eq (tgt := 110) G dX4_post_100 (by decide) (fun c17 => ?_) (fun c17 => ?_)
          · replace hf := it_t c17 hf
            exact wk_rv G hr hlocks dX4_post_110 (Option.some.inj hf)
          · replace hf := it_f c17 hf
            refine wk_aload_n G 1 dX4_post_103 rfl rfl ?_
            refine wk_iload_n G 2 dX4_post_104 rfl rfl ?_
            refine wk_iload G 0 dX4_post_105 rfl ?_
            obtain ⟨M18, q19, hf⟩ := bd_of hf
            refine wk_callVv (As := [.int x1, .int v12]) (rest := []) (ci := 4) G b (lb0 hb) (c_X4_postDoubles l D cI cZ ad b hb x1 v12 M15 M18 q19) (cwV 2 G.2.2.2.2.1 gX4_post_X4_postDoubles rfl rfl rfl (by decide +kernel) ⟨Nat.le_of_ble_eq_true rfl, Nat.le_of_ble_eq_true rfl⟩) (ckb0 cI cZ ad hb (M15 b)) rfl rfl rfl (Nat.le_of_ble_eq_true rfl) dX4_post_107 ⟨Nat.le_of_ble_eq_true rfl, Nat.le_of_ble_eq_true rfl⟩ ?_
            exact wk_rv G hr hlocks dX4_post_110 (Option.some.inj hf)
        refine wk_if_eq (tgt := 75) G dX4_post_59 (by decide) (fun c20 => ?_) (fun c20 => ?_)
        · replace hf := it_t c20 hf
          refine wk_iload_n G 2 dX4_post_75 rfl rfl ?_
          refine wk_sub [0, 1, 3] rfl ?_
          exact J76 x2 hf
        · replace hf := it_f c20 hf
          refine wk_iload_n G 2 dX4_post_62 rfl rfl ?_
          refine wk_aload_n G 0 dX4_post_63 rfl rfl ?_
          refine wk_get (ci := 4) (v := .ref (ad 5)) G iX4_post_X4 b (lb0 hb) (ckb0 cI cZ ad hb (M b)) rfl 1 (Nat.le_of_ble_eq_true rfl) kX4_post_41 rfl dX4_post_64 ?_
          refine wk_iload_n G 1 dX4_post_67 rfl rfl ?_
          obtain ⟨r21, q22, hf⟩ := bd_of hf
          refine wk_callVi (As := [.int x1]) (rest := [.int x2]) (ci := 5) G 5 (by decide) (c_X5_lateness l D cI cZ ad x1 M r21 q22) (cwV 1 G.2.2.2.2.1 gX4_post_X5_lateness rfl rfl rfl (by decide +kernel) ⟨Nat.le_of_ble_eq_true rfl, Nat.le_of_ble_eq_true rfl⟩) (ck5 cI cZ ad (M 5)) rfl rfl rfl (Nat.le_of_ble_eq_true rfl) dX4_post_68 ⟨Nat.le_of_ble_eq_true rfl, Nat.le_of_ble_eq_true rfl⟩ ?_
          refine wk_iadd G dX4_post_71 ?_
          refine wk_goto (tgt := 76) G dX4_post_72 (by decide) ?_
          refine wk_sub [0, 1, 3] rfl ?_
          exact J76 (x2 + r21) hf
      refine wk_if_eq (tgt := 58) G dX4_post_30 (by decide) (fun c23 => ?_) (fun c23 => ?_)
      · replace hf := it_t c23 hf
        refine wk_sub [1, 2, 3, 0] rfl ?_
        exact J58 () hf
      · replace hf := it_f c23 hf
        refine wk_aload_n G 1 dX4_post_33 rfl rfl ?_
        refine wk_get (ci := 4) (v := .ref (ad 5)) G iX4_post_X4 b (lb0 hb) (ckb0 cI cZ ad hb (M b)) rfl 1 (Nat.le_of_ble_eq_true rfl) kX4_post_41 rfl dX4_post_34 ?_
        refine wk_iload_n G 2 dX4_post_37 rfl rfl ?_
        obtain ⟨r24, q25, hf⟩ := bd_of hf
        refine wk_callVi (As := [.int x1]) (rest := []) (ci := 5) G 5 (by decide) (c_X5_loses l D cI cZ ad x1 M r24 q25) (cwV 1 G.2.2.2.2.1 gX4_post_X5_loses rfl rfl rfl (by decide +kernel) ⟨Nat.le_of_ble_eq_true rfl, Nat.le_of_ble_eq_true rfl⟩) (ck5 cI cZ ad (M 5)) rfl rfl rfl (Nat.le_of_ble_eq_true rfl) dX4_post_38 ⟨Nat.le_of_ble_eq_true rfl, Nat.le_of_ble_eq_true rfl⟩ ?_
        refine wk_if_eq (tgt := 58) G dX4_post_41 (by decide) (fun c26 => ?_) (fun c26 => ?_)
        · replace hf := it_t c26 hf
          refine wk_sub [1, 2, 3, 0] rfl ?_
          exact J58 () hf
        · replace hf := it_f c26 hf
          refine wk_sub [1] rfl ?_
          exact J44 () hf
  · replace hf := it_t c3 hf
    exact wk_rv G hr hlocks dX4_post_11 (Option.some.inj hf)
def fX4_sendFrom (b : Nat) (x1 : Int32) (x2 : Int32) (M : Mem) : Option Mem := gd x1 6 ((fX2_heightSaid x1 (M (b + 7) (Int32.toNatClampNeg x1)) M).bind (fun (r2 : Int32) => (loop fu (un2 fun (v4 : Int32) (M5 : Mem) => (if (M5 1 0) ≤ v4 then (some (.inr M5)) else (nm (fun (M7 : Mem) => nm (v4 + (1 : Int32)) fun (v8 : Int32) => some (.inl (v8, M7))) fun j84 => if v4 = x1 then (j84 M5) else (gd x1 6 ((fX1_add b x1 v4 x2 r2 (M5 (b + 8) (Int32.toNatClampNeg x1)) M5).bind (un2 fun (r11 : Int32) (M12 : Mem) => (fX6_pair x1 v4).bind (fun (r14 : Int32) => gd r14 36 ((fX4_post b r11 (x2 + (M12 3 (Int32.toNatClampNeg r14))) M12).bind (fun (M17 : Mem) => j84 M17))))))) : Option ((Int32 × Mem) ⊕ (Mem)))) ((0 : Int32), M)).bind (un1 fun (M19 : Mem) => some M19)))
theorem iX4_sendFrom_X2 : ∀ w ∈ wsX20, w ∈ wsX4_sendFrom := by decide +kernel
theorem iX4_sendFrom_X3 : ∀ w ∈ wsX30, w ∈ wsX4_sendFrom := by decide +kernel
theorem iX4_sendFrom_X4 : ∀ w ∈ wsX40, w ∈ wsX4_sendFrom := by decide +kernel
theorem kX4_sendFrom_21 : Cond.fieldLink RX4 21 "PartitionPlay$Play" "letters" "LPartitionPlay$Letters;" ∈ wsX4_sendFrom := by decide +kernel
theorem kX4_sendFrom_37 : Cond.fieldLink RX4 37 "PartitionPlay$Play" "net" "LPartitionPlay$Net;" ∈ wsX4_sendFrom := by decide +kernel
theorem kX4_sendFrom_54 : Cond.fieldLink RX4 54 "PartitionPlay$Play" "nodes" "LPartitionPlay$Nodes;" ∈ wsX4_sendFrom := by decide +kernel
theorem kX4_sendFrom_156 : Cond.fieldLink RX4 156 "PartitionPlay$Net" "size" "I" ∈ wsX4_sendFrom := by decide +kernel
theorem kX4_sendFrom_171 : Cond.fieldLink RX4 171 "PartitionPlay$Nodes" "heights" "[I" ∈ wsX4_sendFrom := by decide +kernel
theorem kX4_sendFrom_175 : Cond.fieldLink RX4 175 "PartitionPlay$Nodes" "known" "[I" ∈ wsX4_sendFrom := by decide +kernel
theorem kX4_sendFrom_182 : Cond.fieldLink RX4 182 "PartitionPlay$Net" "delays" "[I" ∈ wsX4_sendFrom := by decide +kernel
abbrev rmX4_sendFrom : Room := { frames := 3, cells := 0, slots := 0, locals := 70 }
set_option maxRecDepth 100000 in
set_option maxHeartbeats 4000000 in
theorem c_X4_sendFrom (l : Launch) (D : va_G) (cI cZ : ClassId) (ad : Nat → Nat) (b : Nat) (hb : b = 12 ∨ b = 34) (x1 : Int32) (x2 : Int32) (M : Mem) (M' : Mem) (hf : fX4_sendFrom b x1 x2 M = some M') : MetV l yX4_sendFrom wsX4_sendFrom rmX4_sendFrom D cI cZ ad [.ref (ad b), .int x1, .int x2] M M' := by
  refine met_v (cc := cX4_sendFrom) (nL := 6) (ret := none) (own := RX4) (by decide) rfl rfl (Nat.le_of_ble_eq_true rfl) ?_
  intro p e s m args below meth c A G hr hlocks
  unfold fX4_sendFrom at hf
  show Wk p l e (headSpec wsX4_sendFrom rmX4_sendFrom).room s m args below meth c D cI cZ ad A 6 0 0 (QV below D cI cZ ad A args s M') M 0 [(0, .ref (ad b)), (1, .int x1), (2, .int x2)] []
  refine wk_aload_n G 0 dX4_sendFrom_0 rfl rfl ?_
  refine wk_get (ci := 4) (v := .ref (ad 1)) G iX4_sendFrom_X4 b (lb0 hb) (ckb0 cI cZ ad hb (M b)) rfl 0 (Nat.le_of_ble_eq_true rfl) kX4_sendFrom_37 rfl dX4_sendFrom_1 ?_
  refine wk_iload_n G 1 dX4_sendFrom_4 rfl rfl ?_
  refine wk_aload_n G 0 dX4_sendFrom_5 rfl rfl ?_
  refine wk_get (ci := 4) (v := .ref (ad (b + 6))) G iX4_sendFrom_X4 b (lb0 hb) (ckb0 cI cZ ad hb (M b)) rfl 4 (Nat.le_of_ble_eq_true rfl) kX4_sendFrom_54 rfl dX4_sendFrom_6 ?_
  refine wk_get (ci := 3) (v := .ref (ad (b + 7))) G iX4_sendFrom_X3 (b + 6) (lb hb (by decide)) (ckb6 cI cZ ad hb (M (b + 6))) rfl 1 (Nat.le_of_ble_eq_true rfl) kX4_sendFrom_171 rfl dX4_sendFrom_9 ?_
  refine wk_iload_n G 1 dX4_sendFrom_12 rfl rfl ?_
  obtain ⟨h1, hf⟩ := gd_of hf
  refine wk_iald G (b + 7) (lb hb (by decide)) (ckb7 cI cZ ad hb) h1 dX4_sendFrom_13 ?_
  obtain ⟨r2, q3, hf⟩ := bd_of hf
  refine wk_callVi (As := [.int x1, .int (M (b + 7) (Int32.toNatClampNeg x1))]) (rest := []) (ci := 2) G 1 (by decide) (c_X2_heightSaid l D cI cZ ad x1 (M (b + 7) (Int32.toNatClampNeg x1)) M r2 q3) (cwV 2 G.2.2.2.2.1 gX4_sendFrom_X2_heightSaid rfl rfl rfl (by decide +kernel) ⟨Nat.le_of_ble_eq_true rfl, Nat.le_of_ble_eq_true rfl⟩) (ck1 cI cZ ad (M 1)) rfl rfl rfl (Nat.le_of_ble_eq_true rfl) dX4_sendFrom_14 ⟨Nat.le_of_ble_eq_true rfl, Nat.le_of_ble_eq_true rfl⟩ ?_
  refine wk_istore_n (lv' := [(3, .int r2), (0, .ref (ad b)), (1, .int x1), (2, .int x2)]) G dX4_sendFrom_17 rfl (by decide) rfl ?_
  refine wk_iconst (v := (0 : Int32)) G dX4_sendFrom_18 (by decide) ?_
  refine wk_istore (lv' := [(4, .int (0 : Int32)), (3, .int r2), (0, .ref (ad b)), (1, .int x1), (2, .int x2)]) G dX4_sendFrom_19 (by decide) rfl ?_
  refine wk_sub [2, 3, 4, 1, 0] rfl ?_
  obtain ⟨q20, q21, hf⟩ := bd_of hf
  have Cq20 : (up1 fun (M19 : Mem) => Wk p l e (headSpec wsX4_sendFrom rmX4_sendFrom).room s m args below meth c D cI cZ ad A 6 0 0 (QV below D cI cZ ad A args s M') M19 90 [] []) q20 := by
    obtain ⟨M19, rfl⟩ : ∃ z, z = q20 := ⟨_, rfl⟩
    replace hf := un1_of hf
    show Wk p l e (headSpec wsX4_sendFrom rmX4_sendFrom).room s m args below meth c D cI cZ ad A 6 0 0 (QV below D cI cZ ad A args s M') M19 90 [] []
    exact wk_rv G hr hlocks dX4_sendFrom_90 (Option.some.inj hf)
  have Lq20 : (up2 fun (v4 : Int32) (M5 : Mem) => Wk p l e (headSpec wsX4_sendFrom rmX4_sendFrom).room s m args below meth c D cI cZ ad A 6 0 0 (QV below D cI cZ ad A args s M') M5 21 [(0, .ref (ad b)), (1, .int x1), (2, .int x2), (3, .int r2), (4, .int v4)] []) ((0 : Int32), M) := by
    refine loop_P (C := (up1 fun (M19 : Mem) => Wk p l e (headSpec wsX4_sendFrom rmX4_sendFrom).room s m args below meth c D cI cZ ad A 6 0 0 (QV below D cI cZ ad A args s M') M19 90 [] [])) ?_ fu ((0 : Int32), M) q20 q21 Cq20
    clear hf Cq20 q21
    rintro ⟨v4, M5⟩ o hf hI hE
    replace hf := un2_of hf
    show Wk p l e (headSpec wsX4_sendFrom rmX4_sendFrom).room s m args below meth c D cI cZ ad A 6 0 0 (QV below D cI cZ ad A args s M') M5 21 [(0, .ref (ad b)), (1, .int x1), (2, .int x2), (3, .int r2), (4, .int v4)] []
    refine wk_iload G 4 dX4_sendFrom_21 rfl ?_
    refine wk_aload_n G 0 dX4_sendFrom_23 rfl rfl ?_
    refine wk_get (ci := 4) (v := .ref (ad 1)) G iX4_sendFrom_X4 b (lb0 hb) (ckb0 cI cZ ad hb (M5 b)) rfl 0 (Nat.le_of_ble_eq_true rfl) kX4_sendFrom_37 rfl dX4_sendFrom_24 ?_
    refine wk_get (ci := 2) (v := .int (M5 1 0)) G iX4_sendFrom_X2 1 (by decide) (ck1 cI cZ ad (M5 1)) rfl 0 (Nat.le_of_ble_eq_true rfl) kX4_sendFrom_156 rfl dX4_sendFrom_27 ?_
    refine wk_icmp_ge (tgt := 90) G dX4_sendFrom_30 (by decide) (fun c6 => ?_) (fun c6 => ?_)
    · replace hf := it_t c6 hf
      refine wk_sub [] rfl ?_
      exact hE _ (Option.some.inj hf).symm
    · replace hf := it_f c6 hf
      refine wk_iload G 4 dX4_sendFrom_33 rfl ?_
      refine wk_iload_n G 1 dX4_sendFrom_35 rfl rfl ?_
      obtain ⟨j84, ej84, hf⟩ := nm_ex hf
      have J84 : ∀ (M7 : Mem), j84 M7 = some o → Wk p l e (headSpec wsX4_sendFrom rmX4_sendFrom).room s m args below meth c D cI cZ ad A 6 0 0 (QV below D cI cZ ad A args s M') M7 84 [(0, .ref (ad b)), (1, .int x1), (2, .int x2), (3, .int r2), (4, .int v4)] [] := by
        intro M7 hf
        replace hf := jn1 ej84 hf
        obtain ⟨v8, ev8, hf⟩ := nm_ex hf
        refine wk_iinc (v := v8) (lv' := [(4, .int v8), (0, .ref (ad b)), (1, .int x1), (2, .int x2), (3, .int r2)]) G 4 dX4_sendFrom_84 rfl (by rw [ev8]; rfl) (by decide) rfl ?_
        refine wk_goto (tgt := 21) G dX4_sendFrom_87 (by decide) ?_
        refine wk_sub [1, 2, 3, 4, 0] rfl ?_
        exact hI _ (Option.some.inj hf).symm
      refine wk_icmp_eq (tgt := 84) G dX4_sendFrom_36 (by decide) (fun c9 => ?_) (fun c9 => ?_)
      · replace hf := it_t c9 hf
        exact J84 M5 hf
      · replace hf := it_f c9 hf
        refine wk_aload_n G 0 dX4_sendFrom_39 rfl rfl ?_
        refine wk_get (ci := 4) (v := .ref (ad (b + 12))) G iX4_sendFrom_X4 b (lb0 hb) (ckb0 cI cZ ad hb (M5 b)) rfl 5 (Nat.le_of_ble_eq_true rfl) kX4_sendFrom_21 rfl dX4_sendFrom_40 ?_
        refine wk_iload_n G 1 dX4_sendFrom_43 rfl rfl ?_
        refine wk_iload G 4 dX4_sendFrom_44 rfl ?_
        refine wk_iload_n G 2 dX4_sendFrom_46 rfl rfl ?_
        refine wk_iload_n G 3 dX4_sendFrom_47 rfl rfl ?_
        refine wk_aload_n G 0 dX4_sendFrom_48 rfl rfl ?_
        refine wk_get (ci := 4) (v := .ref (ad (b + 6))) G iX4_sendFrom_X4 b (lb0 hb) (ckb0 cI cZ ad hb (M5 b)) rfl 4 (Nat.le_of_ble_eq_true rfl) kX4_sendFrom_54 rfl dX4_sendFrom_49 ?_
        refine wk_get (ci := 3) (v := .ref (ad (b + 8))) G iX4_sendFrom_X3 (b + 6) (lb hb (by decide)) (ckb6 cI cZ ad hb (M5 (b + 6))) rfl 2 (Nat.le_of_ble_eq_true rfl) kX4_sendFrom_175 rfl dX4_sendFrom_52 ?_
        refine wk_iload_n G 1 dX4_sendFrom_55 rfl rfl ?_
        obtain ⟨h10, hf⟩ := gd_of hf
        refine wk_iald G (b + 8) (lb hb (by decide)) (ckb8 cI cZ ad hb) h10 dX4_sendFrom_56 ?_
        obtain ⟨⟨r11, M12⟩, q13, hf⟩ := bd_of hf
        replace hf := un2_of hf
        refine wk_callVi (As := [.int x1, .int v4, .int x2, .int r2, .int (M5 (b + 8) (Int32.toNatClampNeg x1))]) (rest := []) (ci := 1) G (b + 12) (lb hb (by decide)) (c_X1_add l D cI cZ ad b hb x1 v4 x2 r2 (M5 (b + 8) (Int32.toNatClampNeg x1)) M5 r11 M12 q13) (cwV 5 G.2.2.2.2.1 gX4_sendFrom_X1_add rfl rfl rfl (by decide +kernel) ⟨Nat.le_of_ble_eq_true rfl, Nat.le_of_ble_eq_true rfl⟩) (ckb12 cI cZ ad hb (M5 (b + 12))) rfl rfl rfl (Nat.le_of_ble_eq_true rfl) dX4_sendFrom_57 ⟨Nat.le_of_ble_eq_true rfl, Nat.le_of_ble_eq_true rfl⟩ ?_
        refine wk_istore (lv' := [(5, .int r11), (0, .ref (ad b)), (1, .int x1), (2, .int x2), (3, .int r2), (4, .int v4)]) G dX4_sendFrom_60 (by decide) rfl ?_
        refine wk_aload_n G 1 dX4_sendFrom_62 rfl rfl ?_
        refine wk_iload G 0 dX4_sendFrom_63 rfl ?_
        refine wk_iload_n G 3 dX4_sendFrom_65 rfl rfl ?_
        refine wk_aload_n G 1 dX4_sendFrom_66 rfl rfl ?_
        refine wk_get (ci := 4) (v := .ref (ad 1)) G iX4_sendFrom_X4 b (lb0 hb) (ckb0 cI cZ ad hb (M12 b)) rfl 0 (Nat.le_of_ble_eq_true rfl) kX4_sendFrom_37 rfl dX4_sendFrom_67 ?_
        refine wk_get (ci := 2) (v := .ref (ad 3)) G iX4_sendFrom_X2 1 (by decide) (ck1 cI cZ ad (M12 1)) rfl 2 (Nat.le_of_ble_eq_true rfl) kX4_sendFrom_182 rfl dX4_sendFrom_70 ?_
        refine wk_iload_n G 2 dX4_sendFrom_73 rfl rfl ?_
        refine wk_iload G 5 dX4_sendFrom_74 rfl ?_
        obtain ⟨r14, q15, hf⟩ := bd_of hf
        refine wk_callNi (As := [.int x1, .int v4]) (rest := [.ref (ad 3), .int x2, .int r11, .ref (ad b)]) G (c_X6_pair l D cI cZ ad x1 v4 M12 r14 q15) ⟨va_cnB 2 G.2.2.2.2.1 gX4_sendFrom_X6_pair_n185 rfl rfl rfl G.2.2.2.2.2.2.2.2.2.2.2.2.2.1 (G.2.2.2.2.1 _ (by decide +kernel)) (by decide +kernel) ⟨Nat.le_of_ble_eq_true rfl, Nat.le_of_ble_eq_true rfl⟩, G.2.2.2.2.1 _ (by decide +kernel), trivial⟩ rfl rfl (Nat.le_of_ble_eq_true rfl) dX4_sendFrom_76 ⟨Nat.le_of_ble_eq_true rfl, Nat.le_of_ble_eq_true rfl⟩ ?_
        obtain ⟨h16, hf⟩ := gd_of hf
        refine wk_iald G 3 (by decide) (ck3 cI cZ ad) h16 dX4_sendFrom_79 ?_
        refine wk_iadd G dX4_sendFrom_80 ?_
        obtain ⟨M17, q18, hf⟩ := bd_of hf
        refine wk_callVv (As := [.int r11, .int (x2 + (M12 3 (Int32.toNatClampNeg r14)))]) (rest := []) (ci := 4) G b (lb0 hb) (c_X4_post l D cI cZ ad b hb r11 (x2 + (M12 3 (Int32.toNatClampNeg r14))) M12 M17 q18) (cwV 2 G.2.2.2.2.1 gX4_sendFrom_X4_post rfl rfl rfl (by decide +kernel) ⟨Nat.le_of_ble_eq_true rfl, Nat.le_of_ble_eq_true rfl⟩) (ckb0 cI cZ ad hb (M12 b)) rfl rfl rfl (Nat.le_of_ble_eq_true rfl) dX4_sendFrom_81 ⟨Nat.le_of_ble_eq_true rfl, Nat.le_of_ble_eq_true rfl⟩ ?_
        refine wk_sub [1, 2, 3, 4, 5] rfl ?_
        exact J84 M17 hf
  exact Lq20
def fX4_sendLetters (b : Nat) (x1 : Int32) (M : Mem) : Option Mem := nm (fun (v1 : Int32) => (loop fu (un2 fun (v2 : Int32) (M3 : Mem) => (if (M3 1 0) ≤ v2 then (some (.inr M3)) else (gd v2 6 (nm (fun (v6 : Int32) => nm (fun (M7 : Mem) => nm (v2 + (1 : Int32)) fun (v8 : Int32) => some (.inl (v8, M7))) fun j84 => if v6 = 0 then (j84 M3) else (nm (fun (u10 : Unit) => (fX4_sendFrom b v2 x1 M3).bind (fun (M11 : Mem) => j84 M11)) fun j78 => if v1 = 0 then (gd v2 6 (if (M3 (b + 10) (Int32.toNatClampNeg v2)) = 0 then (j84 M3) else (j78 ()))) else (j78 ()))) fun j55 => nm (fun (u16 : Unit) => j55 (0 : Int32)) fun j54 => if (M3 (b + 9) (Int32.toNatClampNeg v2)) = 0 then (j54 ()) else (gd v2 6 (if (M3 2 (Int32.toNatClampNeg v2)) = (2 : Int32) then (j54 ()) else (j55 (1 : Int32)))))) : Option ((Int32 × Mem) ⊕ (Mem)))) ((0 : Int32), M)).bind (un1 fun (M20 : Mem) => some M20)) fun j11 => if (x1 - x1 / (4 : Int32) * (4 : Int32)) = 0 then (j11 (1 : Int32)) else (j11 (0 : Int32))
theorem iX4_sendLetters_X2 : ∀ w ∈ wsX20, w ∈ wsX4_sendLetters := by decide +kernel
theorem iX4_sendLetters_X3 : ∀ w ∈ wsX30, w ∈ wsX4_sendLetters := by decide +kernel
theorem iX4_sendLetters_X4 : ∀ w ∈ wsX40, w ∈ wsX4_sendLetters := by decide +kernel
theorem kX4_sendLetters_37 : Cond.fieldLink RX4 37 "PartitionPlay$Play" "net" "LPartitionPlay$Net;" ∈ wsX4_sendLetters := by decide +kernel
theorem kX4_sendLetters_54 : Cond.fieldLink RX4 54 "PartitionPlay$Play" "nodes" "LPartitionPlay$Nodes;" ∈ wsX4_sendLetters := by decide +kernel
theorem kX4_sendLetters_156 : Cond.fieldLink RX4 156 "PartitionPlay$Net" "size" "I" ∈ wsX4_sendLetters := by decide +kernel
theorem kX4_sendLetters_159 : Cond.fieldLink RX4 159 "PartitionPlay$Nodes" "up" "[Z" ∈ wsX4_sendLetters := by decide +kernel
theorem kX4_sendLetters_162 : Cond.fieldLink RX4 162 "PartitionPlay$Net" "behaviours" "[I" ∈ wsX4_sendLetters := by decide +kernel
theorem kX4_sendLetters_165 : Cond.fieldLink RX4 165 "PartitionPlay$Nodes" "grew" "[Z" ∈ wsX4_sendLetters := by decide +kernel
abbrev rmX4_sendLetters : Room := { frames := 4, cells := 0, slots := 0, locals := 95 }
set_option maxRecDepth 100000 in
set_option maxHeartbeats 4000000 in
theorem c_X4_sendLetters (l : Launch) (D : va_G) (cI cZ : ClassId) (ad : Nat → Nat) (b : Nat) (hb : b = 12 ∨ b = 34) (x1 : Int32) (M : Mem) (M' : Mem) (hf : fX4_sendLetters b x1 M = some M') : MetV l yX4_sendLetters wsX4_sendLetters rmX4_sendLetters D cI cZ ad [.ref (ad b), .int x1] M M' := by
  refine met_v (cc := cX4_sendLetters) (nL := 5) (ret := none) (own := RX4) (by decide) rfl rfl (Nat.le_of_ble_eq_true rfl) ?_
  intro p e s m args below meth c A G hr hlocks
  unfold fX4_sendLetters at hf
  show Wk p l e (headSpec wsX4_sendLetters rmX4_sendLetters).room s m args below meth c D cI cZ ad A 5 0 0 (QV below D cI cZ ad A args s M') M 0 [(0, .ref (ad b)), (1, .int x1)] []
  refine wk_iload_n G 1 dX4_sendLetters_0 rfl rfl ?_
  refine wk_iconst (v := (4 : Int32)) G dX4_sendLetters_1 (by decide) ?_
  refine wk_irem G dX4_sendLetters_2 (by decide) ?_
  obtain ⟨j11, ej11, hf⟩ := nm_ex hf
  have J11 : ∀ (v1 : Int32), j11 v1 = some M' → Wk p l e (headSpec wsX4_sendLetters rmX4_sendLetters).room s m args below meth c D cI cZ ad A 5 0 0 (QV below D cI cZ ad A args s M') M 11 [(0, .ref (ad b)), (1, .int x1)] [.int v1] := by
    intro v1 hf
    replace hf := jn1 ej11 hf
    refine wk_istore_n (lv' := [(2, .int v1), (0, .ref (ad b)), (1, .int x1)]) G dX4_sendLetters_11 rfl (by decide) rfl ?_
    refine wk_iconst (v := (0 : Int32)) G dX4_sendLetters_12 (by decide) ?_
    refine wk_istore_n (lv' := [(3, .int (0 : Int32)), (2, .int v1), (0, .ref (ad b)), (1, .int x1)]) G dX4_sendLetters_13 rfl (by decide) rfl ?_
    refine wk_sub [2, 3, 1, 0] rfl ?_
    obtain ⟨q21, q22, hf⟩ := bd_of hf
    have Cq21 : (up1 fun (M20 : Mem) => Wk p l e (headSpec wsX4_sendLetters rmX4_sendLetters).room s m args below meth c D cI cZ ad A 5 0 0 (QV below D cI cZ ad A args s M') M20 90 [] []) q21 := by
      obtain ⟨M20, rfl⟩ : ∃ z, z = q21 := ⟨_, rfl⟩
      replace hf := un1_of hf
      show Wk p l e (headSpec wsX4_sendLetters rmX4_sendLetters).room s m args below meth c D cI cZ ad A 5 0 0 (QV below D cI cZ ad A args s M') M20 90 [] []
      exact wk_rv G hr hlocks dX4_sendLetters_90 (Option.some.inj hf)
    have Lq21 : (up2 fun (v2 : Int32) (M3 : Mem) => Wk p l e (headSpec wsX4_sendLetters rmX4_sendLetters).room s m args below meth c D cI cZ ad A 5 0 0 (QV below D cI cZ ad A args s M') M3 14 [(0, .ref (ad b)), (1, .int x1), (2, .int v1), (3, .int v2)] []) ((0 : Int32), M) := by
      refine loop_P (C := (up1 fun (M20 : Mem) => Wk p l e (headSpec wsX4_sendLetters rmX4_sendLetters).room s m args below meth c D cI cZ ad A 5 0 0 (QV below D cI cZ ad A args s M') M20 90 [] [])) ?_ fu ((0 : Int32), M) q21 q22 Cq21
      clear hf Cq21 q22
      rintro ⟨v2, M3⟩ o hf hI hE
      replace hf := un2_of hf
      show Wk p l e (headSpec wsX4_sendLetters rmX4_sendLetters).room s m args below meth c D cI cZ ad A 5 0 0 (QV below D cI cZ ad A args s M') M3 14 [(0, .ref (ad b)), (1, .int x1), (2, .int v1), (3, .int v2)] []
      refine wk_iload_n G 3 dX4_sendLetters_14 rfl rfl ?_
      refine wk_aload_n G 0 dX4_sendLetters_15 rfl rfl ?_
      refine wk_get (ci := 4) (v := .ref (ad 1)) G iX4_sendLetters_X4 b (lb0 hb) (ckb0 cI cZ ad hb (M3 b)) rfl 0 (Nat.le_of_ble_eq_true rfl) kX4_sendLetters_37 rfl dX4_sendLetters_16 ?_
      refine wk_get (ci := 2) (v := .int (M3 1 0)) G iX4_sendLetters_X2 1 (by decide) (ck1 cI cZ ad (M3 1)) rfl 0 (Nat.le_of_ble_eq_true rfl) kX4_sendLetters_156 rfl dX4_sendLetters_19 ?_
      refine wk_icmp_ge (tgt := 90) G dX4_sendLetters_22 (by decide) (fun c4 => ?_) (fun c4 => ?_)
      · replace hf := it_t c4 hf
        refine wk_sub [] rfl ?_
        exact hE _ (Option.some.inj hf).symm
      · replace hf := it_f c4 hf
        refine wk_aload_n G 0 dX4_sendLetters_25 rfl rfl ?_
        refine wk_get (ci := 4) (v := .ref (ad (b + 6))) G iX4_sendLetters_X4 b (lb0 hb) (ckb0 cI cZ ad hb (M3 b)) rfl 4 (Nat.le_of_ble_eq_true rfl) kX4_sendLetters_54 rfl dX4_sendLetters_26 ?_
        refine wk_get (ci := 3) (v := .ref (ad (b + 9))) G iX4_sendLetters_X3 (b + 6) (lb hb (by decide)) (ckb6 cI cZ ad hb (M3 (b + 6))) rfl 3 (Nat.le_of_ble_eq_true rfl) kX4_sendLetters_159 rfl dX4_sendLetters_29 ?_
        refine wk_iload_n G 3 dX4_sendLetters_32 rfl rfl ?_
        obtain ⟨h5, hf⟩ := gd_of hf
        refine wk_zald G (b + 9) (lb hb (by decide)) (ckb9 cI cZ ad hb) h5 dX4_sendLetters_33 ?_
        obtain ⟨j55, ej55, hf⟩ := nm_ex hf
        have J55 : ∀ (v6 : Int32), j55 v6 = some o → Wk p l e (headSpec wsX4_sendLetters rmX4_sendLetters).room s m args below meth c D cI cZ ad A 5 0 0 (QV below D cI cZ ad A args s M') M3 55 [(0, .ref (ad b)), (1, .int x1), (2, .int v1), (3, .int v2)] [.int v6] := by
          intro v6 hf
          replace hf := jn1 ej55 hf
          refine wk_istore (lv' := [(4, .int v6), (0, .ref (ad b)), (1, .int x1), (2, .int v1), (3, .int v2)]) G dX4_sendLetters_55 (by decide) rfl ?_
          refine wk_iload G 0 dX4_sendLetters_57 rfl ?_
          obtain ⟨j84, ej84, hf⟩ := nm_ex hf
          have J84 : ∀ (M7 : Mem), j84 M7 = some o → Wk p l e (headSpec wsX4_sendLetters rmX4_sendLetters).room s m args below meth c D cI cZ ad A 5 0 0 (QV below D cI cZ ad A args s M') M7 84 [(0, .ref (ad b)), (1, .int x1), (2, .int v1), (3, .int v2)] [] := by
            intro M7 hf
            replace hf := jn1 ej84 hf
            obtain ⟨v8, ev8, hf⟩ := nm_ex hf
            refine wk_iinc (v := v8) (lv' := [(3, .int v8), (0, .ref (ad b)), (1, .int x1), (2, .int v1)]) G 3 dX4_sendLetters_84 rfl (by rw [ev8]; rfl) (by decide) rfl ?_
            refine wk_goto (tgt := 14) G dX4_sendLetters_87 (by decide) ?_
            refine wk_sub [1, 2, 3, 0] rfl ?_
            exact hI _ (Option.some.inj hf).symm
          refine wk_if_eq (tgt := 84) G dX4_sendLetters_59 (by decide) (fun c9 => ?_) (fun c9 => ?_)
          · replace hf := it_t c9 hf
            refine wk_sub [1, 2, 3, 4] rfl ?_
            exact J84 M3 hf
          · replace hf := it_f c9 hf
            refine wk_iload_n G 3 dX4_sendLetters_62 rfl rfl ?_
            obtain ⟨j78, ej78, hf⟩ := nm_ex hf
            have J78 : ∀ (u10 : Unit), j78 u10 = some o → Wk p l e (headSpec wsX4_sendLetters rmX4_sendLetters).room s m args below meth c D cI cZ ad A 5 0 0 (QV below D cI cZ ad A args s M') M3 78 [(0, .ref (ad b)), (1, .int x1), (2, .int v1), (3, .int v2)] [] := by
              intro u10 hf
              replace hf := jn1 ej78 hf
              refine wk_aload_n G 0 dX4_sendLetters_78 rfl rfl ?_
              refine wk_iload_n G 3 dX4_sendLetters_79 rfl rfl ?_
              refine wk_iload_n G 1 dX4_sendLetters_80 rfl rfl ?_
              obtain ⟨M11, q12, hf⟩ := bd_of hf
              refine wk_callVv (As := [.int v2, .int x1]) (rest := []) (ci := 4) G b (lb0 hb) (c_X4_sendFrom l D cI cZ ad b hb v2 x1 M3 M11 q12) (cwV 2 G.2.2.2.2.1 gX4_sendLetters_X4_sendFrom rfl rfl rfl (by decide +kernel) ⟨Nat.le_of_ble_eq_true rfl, Nat.le_of_ble_eq_true rfl⟩) (ckb0 cI cZ ad hb (M3 b)) rfl rfl rfl (Nat.le_of_ble_eq_true rfl) dX4_sendLetters_81 ⟨Nat.le_of_ble_eq_true rfl, Nat.le_of_ble_eq_true rfl⟩ ?_
              exact J84 M11 hf
            refine wk_if_ne (tgt := 78) G dX4_sendLetters_63 (by decide) (fun c13 => ?_) (fun c13 => ?_)
            · replace hf := it_f c13 hf
              refine wk_sub [1, 2, 3, 4] rfl ?_
              exact J78 () hf
            · replace hf := it_t c13 hf
              refine wk_aload_n G 1 dX4_sendLetters_66 rfl rfl ?_
              refine wk_get (ci := 4) (v := .ref (ad (b + 6))) G iX4_sendLetters_X4 b (lb0 hb) (ckb0 cI cZ ad hb (M3 b)) rfl 4 (Nat.le_of_ble_eq_true rfl) kX4_sendLetters_54 rfl dX4_sendLetters_67 ?_
              refine wk_get (ci := 3) (v := .ref (ad (b + 10))) G iX4_sendLetters_X3 (b + 6) (lb hb (by decide)) (ckb6 cI cZ ad hb (M3 (b + 6))) rfl 4 (Nat.le_of_ble_eq_true rfl) kX4_sendLetters_165 rfl dX4_sendLetters_70 ?_
              refine wk_iload_n G 4 dX4_sendLetters_73 rfl rfl ?_
              obtain ⟨h14, hf⟩ := gd_of hf
              refine wk_zald G (b + 10) (lb hb (by decide)) (ckb10 cI cZ ad hb) h14 dX4_sendLetters_74 ?_
              refine wk_if_eq (tgt := 84) G dX4_sendLetters_75 (by decide) (fun c15 => ?_) (fun c15 => ?_)
              · replace hf := it_t c15 hf
                refine wk_sub [1, 2, 3, 4] rfl ?_
                exact J84 M3 hf
              · replace hf := it_f c15 hf
                refine wk_sub [1, 2, 3, 4] rfl ?_
                exact J78 () hf
        obtain ⟨j54, ej54, hf⟩ := nm_ex hf
        have J54 : ∀ (u16 : Unit), j54 u16 = some o → Wk p l e (headSpec wsX4_sendLetters rmX4_sendLetters).room s m args below meth c D cI cZ ad A 5 0 0 (QV below D cI cZ ad A args s M') M3 54 [(0, .ref (ad b)), (1, .int x1), (2, .int v1), (3, .int v2)] [] := by
          intro u16 hf
          replace hf := jn1 ej54 hf
          refine wk_iconst (v := (0 : Int32)) G dX4_sendLetters_54 (by decide) ?_
          exact J55 (0 : Int32) hf
        refine wk_if_eq (tgt := 54) G dX4_sendLetters_34 (by decide) (fun c17 => ?_) (fun c17 => ?_)
        · replace hf := it_t c17 hf
          exact J54 () hf
        · replace hf := it_f c17 hf
          refine wk_aload_n G 0 dX4_sendLetters_37 rfl rfl ?_
          refine wk_get (ci := 4) (v := .ref (ad 1)) G iX4_sendLetters_X4 b (lb0 hb) (ckb0 cI cZ ad hb (M3 b)) rfl 0 (Nat.le_of_ble_eq_true rfl) kX4_sendLetters_37 rfl dX4_sendLetters_38 ?_
          refine wk_get (ci := 2) (v := .ref (ad 2)) G iX4_sendLetters_X2 1 (by decide) (ck1 cI cZ ad (M3 1)) rfl 1 (Nat.le_of_ble_eq_true rfl) kX4_sendLetters_162 rfl dX4_sendLetters_41 ?_
          refine wk_iload_n G 3 dX4_sendLetters_44 rfl rfl ?_
          obtain ⟨h18, hf⟩ := gd_of hf
          refine wk_iald G 2 (by decide) (ck2 cI cZ ad) h18 dX4_sendLetters_45 ?_
          refine wk_iconst (v := (2 : Int32)) G dX4_sendLetters_46 (by decide) ?_
          refine wk_icmp_eq (tgt := 54) G dX4_sendLetters_47 (by decide) (fun c19 => ?_) (fun c19 => ?_)
          · replace hf := it_t c19 hf
            exact J54 () hf
          · replace hf := it_f c19 hf
            refine wk_iconst (v := (1 : Int32)) G dX4_sendLetters_50 (by decide) ?_
            refine wk_goto (tgt := 55) G dX4_sendLetters_51 (by decide) ?_
            exact J55 (1 : Int32) hf
    exact Lq21
  refine wk_if_ne (tgt := 10) G dX4_sendLetters_3 (by decide) (fun c23 => ?_) (fun c23 => ?_)
  · replace hf := it_f c23 hf
    refine wk_iconst (v := (0 : Int32)) G dX4_sendLetters_10 (by decide) ?_
    exact J11 (0 : Int32) hf
  · replace hf := it_t c23 hf
    refine wk_iconst (v := (1 : Int32)) G dX4_sendLetters_6 (by decide) ?_
    refine wk_goto (tgt := 11) G dX4_sendLetters_7 (by decide) ?_
    exact J11 (1 : Int32) hf
def fX4_keepRecord (b : Nat) (x1 : Int32) (M : Mem) : Option Mem := (loop fu (un2 fun (v1 : Int32) (M2 : Mem) => (if (M2 1 0) ≤ v1 then (some (.inr M2)) else ((fX6_place x1 v1).bind (fun (r4 : Int32) => gd v1 6 (gd r4 240 (nm (st M2 (b + 20) (Int32.toNatClampNeg r4) (M2 (b + 7) (Int32.toNatClampNeg v1))) fun (M8 : Mem) => nm (v1 + (1 : Int32)) fun (v9 : Int32) => some (.inl (v9, M8)))))) : Option ((Int32 × Mem) ⊕ (Mem)))) ((0 : Int32), M)).bind (un1 fun (M10 : Mem) => (fX3_keepTheRule b M10).bind (fun (r11 : Int32) => gd x1 40 (nm (st M10 (b + 21) (Int32.toNatClampNeg x1) (vp_nar .boolean r11)) fun (M14 : Mem) => gd x1 40 (if (M14 (b + 21) (Int32.toNatClampNeg x1)) = 0 then (if (M14 b 9) = (-1 : Int32) then (nm (st M14 b 9 x1) fun (M18 : Mem) => some M18) else (some M14)) else (some M14)))))
theorem iX4_keepRecord_X2 : ∀ w ∈ wsX20, w ∈ wsX4_keepRecord := by decide +kernel
theorem iX4_keepRecord_X3 : ∀ w ∈ wsX30, w ∈ wsX4_keepRecord := by decide +kernel
theorem iX4_keepRecord_X4 : ∀ w ∈ wsX40, w ∈ wsX4_keepRecord := by decide +kernel
theorem kX4_keepRecord_25 : Cond.fieldLink RX4 25 "PartitionPlay$Play" "heights" "[I" ∈ wsX4_keepRecord := by decide +kernel
theorem kX4_keepRecord_29 : Cond.fieldLink RX4 29 "PartitionPlay$Play" "held" "[Z" ∈ wsX4_keepRecord := by decide +kernel
theorem kX4_keepRecord_33 : Cond.fieldLink RX4 33 "PartitionPlay$Play" "failedAt" "I" ∈ wsX4_keepRecord := by decide +kernel
theorem kX4_keepRecord_37 : Cond.fieldLink RX4 37 "PartitionPlay$Play" "net" "LPartitionPlay$Net;" ∈ wsX4_keepRecord := by decide +kernel
theorem kX4_keepRecord_54 : Cond.fieldLink RX4 54 "PartitionPlay$Play" "nodes" "LPartitionPlay$Nodes;" ∈ wsX4_keepRecord := by decide +kernel
theorem kX4_keepRecord_156 : Cond.fieldLink RX4 156 "PartitionPlay$Net" "size" "I" ∈ wsX4_keepRecord := by decide +kernel
theorem kX4_keepRecord_171 : Cond.fieldLink RX4 171 "PartitionPlay$Nodes" "heights" "[I" ∈ wsX4_keepRecord := by decide +kernel
abbrev rmX4_keepRecord : Room := { frames := 2, cells := 0, slots := 0, locals := 45 }
set_option maxRecDepth 100000 in
set_option maxHeartbeats 4000000 in
theorem c_X4_keepRecord (l : Launch) (D : va_G) (cI cZ : ClassId) (ad : Nat → Nat) (b : Nat) (hb : b = 12 ∨ b = 34) (x1 : Int32) (M : Mem) (M' : Mem) (hf : fX4_keepRecord b x1 M = some M') : MetV l yX4_keepRecord wsX4_keepRecord rmX4_keepRecord D cI cZ ad [.ref (ad b), .int x1] M M' := by
  refine met_v (cc := cX4_keepRecord) (nL := 3) (ret := none) (own := RX4) (by decide) rfl rfl (Nat.le_of_ble_eq_true rfl) ?_
  intro p e s m args below meth c A G hr hlocks
  unfold fX4_keepRecord at hf
  show Wk p l e (headSpec wsX4_keepRecord rmX4_keepRecord).room s m args below meth c D cI cZ ad A 3 0 0 (QV below D cI cZ ad A args s M') M 0 [(0, .ref (ad b)), (1, .int x1)] []
  refine wk_iconst (v := (0 : Int32)) G dX4_keepRecord_0 (by decide) ?_
  refine wk_istore_n (lv' := [(2, .int (0 : Int32)), (0, .ref (ad b)), (1, .int x1)]) G dX4_keepRecord_1 rfl (by decide) rfl ?_
  refine wk_sub [1, 2, 0] rfl ?_
  obtain ⟨q19, q20, hf⟩ := bd_of hf
  have Cq19 : (up1 fun (M10 : Mem) => Wk p l e (headSpec wsX4_keepRecord rmX4_keepRecord).room s m args below meth c D cI cZ ad A 3 0 0 (QV below D cI cZ ad A args s M') M10 38 [(0, .ref (ad b)), (1, .int x1)] []) q19 := by
    obtain ⟨M10, rfl⟩ : ∃ z, z = q19 := ⟨_, rfl⟩
    replace hf := un1_of hf
    show Wk p l e (headSpec wsX4_keepRecord rmX4_keepRecord).room s m args below meth c D cI cZ ad A 3 0 0 (QV below D cI cZ ad A args s M') M10 38 [(0, .ref (ad b)), (1, .int x1)] []
    refine wk_aload_n G 0 dX4_keepRecord_38 rfl rfl ?_
    refine wk_get (ci := 4) (v := .ref (ad (b + 21))) G iX4_keepRecord_X4 b (lb0 hb) (ckb0 cI cZ ad hb (M10 b)) rfl 7 (Nat.le_of_ble_eq_true rfl) kX4_keepRecord_29 rfl dX4_keepRecord_39 ?_
    refine wk_iload_n G 1 dX4_keepRecord_42 rfl rfl ?_
    refine wk_aload_n G 0 dX4_keepRecord_43 rfl rfl ?_
    refine wk_get (ci := 4) (v := .ref (ad (b + 6))) G iX4_keepRecord_X4 b (lb0 hb) (ckb0 cI cZ ad hb (M10 b)) rfl 4 (Nat.le_of_ble_eq_true rfl) kX4_keepRecord_54 rfl dX4_keepRecord_44 ?_
    obtain ⟨r11, q12, hf⟩ := bd_of hf
    refine wk_callVi (As := []) (rest := [.int x1, .ref (ad (b + 21))]) (ci := 3) G (b + 6) (lb hb (by decide)) (c_X3_keepTheRule l D cI cZ ad b hb M10 r11 q12) (cwV 0 G.2.2.2.2.1 gX4_keepRecord_X3_keepTheRule rfl rfl rfl (by decide +kernel) ⟨Nat.le_of_ble_eq_true rfl, Nat.le_of_ble_eq_true rfl⟩) (ckb6 cI cZ ad hb (M10 (b + 6))) rfl rfl rfl (Nat.le_of_ble_eq_true rfl) dX4_keepRecord_47 ⟨Nat.le_of_ble_eq_true rfl, Nat.le_of_ble_eq_true rfl⟩ ?_
    obtain ⟨h13, hf⟩ := gd_of hf
    obtain ⟨M14, eM14, hf⟩ := nm_ex hf
    refine wk_zast G (b + 21) (lb hb (by decide)) (ckb21 cI cZ ad hb) h13 dX4_keepRecord_50 eM14 ?_
    refine wk_aload_n G 0 dX4_keepRecord_51 rfl rfl ?_
    refine wk_get (ci := 4) (v := .ref (ad (b + 21))) G iX4_keepRecord_X4 b (lb0 hb) (ckb0 cI cZ ad hb (M14 b)) rfl 7 (Nat.le_of_ble_eq_true rfl) kX4_keepRecord_29 rfl dX4_keepRecord_52 ?_
    refine wk_iload_n G 1 dX4_keepRecord_55 rfl rfl ?_
    obtain ⟨h15, hf⟩ := gd_of hf
    refine wk_zald G (b + 21) (lb hb (by decide)) (ckb21 cI cZ ad hb) h15 dX4_keepRecord_56 ?_
    refine wk_if_ne (tgt := 73) G dX4_keepRecord_57 (by decide) (fun c16 => ?_) (fun c16 => ?_)
    · replace hf := it_f c16 hf
      exact wk_rv G hr hlocks dX4_keepRecord_73 (Option.some.inj hf)
    · replace hf := it_t c16 hf
      refine wk_aload_n G 0 dX4_keepRecord_60 rfl rfl ?_
      refine wk_get (ci := 4) (v := .int (M14 b 9)) G iX4_keepRecord_X4 b (lb0 hb) (ckb0 cI cZ ad hb (M14 b)) rfl 9 (Nat.le_of_ble_eq_true rfl) kX4_keepRecord_33 rfl dX4_keepRecord_61 ?_
      refine wk_iconst (v := (-1 : Int32)) G dX4_keepRecord_64 (by decide) ?_
      refine wk_icmp_ne (tgt := 73) G dX4_keepRecord_65 (by decide) (fun c17 => ?_) (fun c17 => ?_)
      · replace hf := it_f c17 hf
        exact wk_rv G hr hlocks dX4_keepRecord_73 (Option.some.inj hf)
      · replace hf := it_t c17 hf
        refine wk_aload_n G 0 dX4_keepRecord_68 rfl rfl ?_
        refine wk_iload_n G 1 dX4_keepRecord_69 rfl rfl ?_
        obtain ⟨M18, eM18, hf⟩ := nm_ex hf
        refine wk_put (ci := 4) G iX4_keepRecord_X4 tyX4 tyX4_ok nmX4 b (lb0 hb) (ckb0 cI cZ ad hb (M14 b)) rfl 9 (Nat.le_of_ble_eq_true rfl) kX4_keepRecord_33 rfl (by decide +kernel) (Nat.le_of_ble_eq_true rfl) (cpb0_9 cI cZ ad hb (M14 b) x1) dX4_keepRecord_70 eM18 ?_
        exact wk_rv G hr hlocks dX4_keepRecord_73 (Option.some.inj hf)
  have Lq19 : (up2 fun (v1 : Int32) (M2 : Mem) => Wk p l e (headSpec wsX4_keepRecord rmX4_keepRecord).room s m args below meth c D cI cZ ad A 3 0 0 (QV below D cI cZ ad A args s M') M2 2 [(0, .ref (ad b)), (1, .int x1), (2, .int v1)] []) ((0 : Int32), M) := by
    refine loop_P (C := (up1 fun (M10 : Mem) => Wk p l e (headSpec wsX4_keepRecord rmX4_keepRecord).room s m args below meth c D cI cZ ad A 3 0 0 (QV below D cI cZ ad A args s M') M10 38 [(0, .ref (ad b)), (1, .int x1)] [])) ?_ fu ((0 : Int32), M) q19 q20 Cq19
    clear hf Cq19 q20
    rintro ⟨v1, M2⟩ o hf hI hE
    replace hf := un2_of hf
    show Wk p l e (headSpec wsX4_keepRecord rmX4_keepRecord).room s m args below meth c D cI cZ ad A 3 0 0 (QV below D cI cZ ad A args s M') M2 2 [(0, .ref (ad b)), (1, .int x1), (2, .int v1)] []
    refine wk_iload_n G 2 dX4_keepRecord_2 rfl rfl ?_
    refine wk_aload_n G 0 dX4_keepRecord_3 rfl rfl ?_
    refine wk_get (ci := 4) (v := .ref (ad 1)) G iX4_keepRecord_X4 b (lb0 hb) (ckb0 cI cZ ad hb (M2 b)) rfl 0 (Nat.le_of_ble_eq_true rfl) kX4_keepRecord_37 rfl dX4_keepRecord_4 ?_
    refine wk_get (ci := 2) (v := .int (M2 1 0)) G iX4_keepRecord_X2 1 (by decide) (ck1 cI cZ ad (M2 1)) rfl 0 (Nat.le_of_ble_eq_true rfl) kX4_keepRecord_156 rfl dX4_keepRecord_7 ?_
    refine wk_icmp_ge (tgt := 38) G dX4_keepRecord_10 (by decide) (fun c3 => ?_) (fun c3 => ?_)
    · replace hf := it_t c3 hf
      refine wk_sub [0, 1] rfl ?_
      exact hE _ (Option.some.inj hf).symm
    · replace hf := it_f c3 hf
      refine wk_aload_n G 0 dX4_keepRecord_13 rfl rfl ?_
      refine wk_get (ci := 4) (v := .ref (ad (b + 20))) G iX4_keepRecord_X4 b (lb0 hb) (ckb0 cI cZ ad hb (M2 b)) rfl 6 (Nat.le_of_ble_eq_true rfl) kX4_keepRecord_25 rfl dX4_keepRecord_14 ?_
      refine wk_iload_n G 1 dX4_keepRecord_17 rfl rfl ?_
      refine wk_iload_n G 2 dX4_keepRecord_18 rfl rfl ?_
      obtain ⟨r4, q5, hf⟩ := bd_of hf
      refine wk_callNi (As := [.int x1, .int v1]) (rest := [.ref (ad (b + 20))]) G (c_X6_place l D cI cZ ad x1 v1 M2 r4 q5) ⟨va_cnB 2 G.2.2.2.2.1 gX4_keepRecord_X6_place_n221 rfl rfl rfl G.2.2.2.2.2.2.2.2.2.2.2.2.2.2 (G.2.2.2.2.1 _ (by decide +kernel)) (by decide +kernel) ⟨Nat.le_of_ble_eq_true rfl, Nat.le_of_ble_eq_true rfl⟩, G.2.2.2.2.1 _ (by decide +kernel), trivial⟩ rfl rfl (Nat.le_of_ble_eq_true rfl) dX4_keepRecord_19 ⟨Nat.le_of_ble_eq_true rfl, Nat.le_of_ble_eq_true rfl⟩ ?_
      refine wk_aload_n G 0 dX4_keepRecord_22 rfl rfl ?_
      refine wk_get (ci := 4) (v := .ref (ad (b + 6))) G iX4_keepRecord_X4 b (lb0 hb) (ckb0 cI cZ ad hb (M2 b)) rfl 4 (Nat.le_of_ble_eq_true rfl) kX4_keepRecord_54 rfl dX4_keepRecord_23 ?_
      refine wk_get (ci := 3) (v := .ref (ad (b + 7))) G iX4_keepRecord_X3 (b + 6) (lb hb (by decide)) (ckb6 cI cZ ad hb (M2 (b + 6))) rfl 1 (Nat.le_of_ble_eq_true rfl) kX4_keepRecord_171 rfl dX4_keepRecord_26 ?_
      refine wk_iload_n G 2 dX4_keepRecord_29 rfl rfl ?_
      obtain ⟨h6, hf⟩ := gd_of hf
      refine wk_iald G (b + 7) (lb hb (by decide)) (ckb7 cI cZ ad hb) h6 dX4_keepRecord_30 ?_
      obtain ⟨h7, hf⟩ := gd_of hf
      obtain ⟨M8, eM8, hf⟩ := nm_ex hf
      refine wk_iast G (b + 20) (lb hb (by decide)) (ckb20 cI cZ ad hb) h7 dX4_keepRecord_31 eM8 ?_
      obtain ⟨v9, ev9, hf⟩ := nm_ex hf
      refine wk_iinc (v := v9) (lv' := [(2, .int v9), (0, .ref (ad b)), (1, .int x1)]) G 2 dX4_keepRecord_32 rfl (by rw [ev9]; rfl) (by decide) rfl ?_
      refine wk_goto (tgt := 2) G dX4_keepRecord_35 (by decide) ?_
      refine wk_sub [1, 2, 0] rfl ?_
      exact hI _ (Option.some.inj hf).symm
  exact Lq19
def fX4_run (b : Nat) (x1 : Int32) (x2 : Int32) (M : Mem) : Option (Int32 × Mem) := (fX4_begin b x1 x2 M).bind (fun (M1 : Mem) => (loop fu (un2 fun (v3 : Int32) (M4 : Mem) => (if (M4 b 8) ≤ v3 then (some (.inr M4)) else ((fX4_meetEvents b v3 M4).bind (fun (M6 : Mem) => (fX4_takeInComings b v3 M6).bind (fun (M8 : Mem) => (fX3_grow b M8).bind (fun (M10 : Mem) => (fX4_sendLetters b v3 M10).bind (fun (M12 : Mem) => (fX4_keepRecord b v3 M12).bind (fun (M14 : Mem) => nm (fun (u16 : Unit) => nm (v3 + (1 : Int32)) fun (v17 : Int32) => some (.inl (v17, M14))) fun j61 => if (M14 b 2) = 0 then (j61 ()) else (if (M14 b 9) = (-1 : Int32) then (j61 ()) else (some (.inr M14))))))))) : Option ((Int32 × Mem) ⊕ (Mem)))) ((0 : Int32), M1)).bind (un1 fun (M20 : Mem) => if (M20 b 9) = (-1 : Int32) then (some ((0 : Int32), M20)) else (some ((1 : Int32), M20))))
theorem iX4_run_X4 : ∀ w ∈ wsX40, w ∈ wsX4_run := by decide +kernel
theorem kX4_run_33 : Cond.fieldLink RX4 33 "PartitionPlay$Play" "failedAt" "I" ∈ wsX4_run := by decide +kernel
theorem kX4_run_45 : Cond.fieldLink RX4 45 "PartitionPlay$Play" "stopsAtFailure" "Z" ∈ wsX4_run := by decide +kernel
theorem kX4_run_54 : Cond.fieldLink RX4 54 "PartitionPlay$Play" "nodes" "LPartitionPlay$Nodes;" ∈ wsX4_run := by decide +kernel
theorem kX4_run_58 : Cond.fieldLink RX4 58 "PartitionPlay$Play" "turns" "I" ∈ wsX4_run := by decide +kernel
abbrev rmX4_run : Room := { frames := 5, cells := 0, slots := 0, locals := 119 }
set_option maxRecDepth 100000 in
set_option maxHeartbeats 4000000 in
theorem c_X4_run (l : Launch) (D : va_G) (cI cZ : ClassId) (ad : Nat → Nat) (b : Nat) (hb : b = 12 ∨ b = 34) (x1 : Int32) (x2 : Int32) (M : Mem) (r : Int32) (M' : Mem) (hf : fX4_run b x1 x2 M = some (r, M')) : MetI l yX4_run wsX4_run rmX4_run D cI cZ ad [.ref (ad b), .int x1, .int x2] M r M' := by
  refine met_i (cc := cX4_run) (nL := 4) (ret := (some .boolean)) (own := RX4) (by decide) rfl rfl (Nat.le_of_ble_eq_true rfl) ?_
  intro p e s m args below meth c A G hr hlocks
  unfold fX4_run at hf
  show Wk p l e (headSpec wsX4_run rmX4_run).room s m args below meth c D cI cZ ad A 4 0 0 (QI below D cI cZ ad A args s r M') M 0 [(0, .ref (ad b)), (1, .int x1), (2, .int x2)] []
  refine wk_aload_n G 0 dX4_run_0 rfl rfl ?_
  refine wk_iload_n G 1 dX4_run_1 rfl rfl ?_
  refine wk_iload_n G 2 dX4_run_2 rfl rfl ?_
  obtain ⟨M1, q2, hf⟩ := bd_of hf
  refine wk_callVv (As := [.int x1, .int x2]) (rest := []) (ci := 4) G b (lb0 hb) (c_X4_begin l D cI cZ ad b hb x1 x2 M M1 q2) (cwV 2 G.2.2.2.2.1 gX4_run_X4_begin rfl rfl rfl (by decide +kernel) ⟨Nat.le_of_ble_eq_true rfl, Nat.le_of_ble_eq_true rfl⟩) (ckb0 cI cZ ad hb (M b)) rfl rfl rfl (Nat.le_of_ble_eq_true rfl) dX4_run_3 ⟨Nat.le_of_ble_eq_true rfl, Nat.le_of_ble_eq_true rfl⟩ ?_
  refine wk_iconst (v := (0 : Int32)) G dX4_run_6 (by decide) ?_
  refine wk_istore_n (lv' := [(3, .int (0 : Int32)), (0, .ref (ad b)), (1, .int x1), (2, .int x2)]) G dX4_run_7 rfl (by decide) rfl ?_
  refine wk_sub [1, 0] rfl ?_
  obtain ⟨q22, q23, hf⟩ := bd_of hf
  have Cq22 : (up1 fun (M20 : Mem) => Wk p l e (headSpec wsX4_run rmX4_run).room s m args below meth c D cI cZ ad A 4 0 0 (QI below D cI cZ ad A args s r M') M20 67 [(0, .ref (ad b))] []) q22 := by
    obtain ⟨M20, rfl⟩ : ∃ z, z = q22 := ⟨_, rfl⟩
    replace hf := un1_of hf
    show Wk p l e (headSpec wsX4_run rmX4_run).room s m args below meth c D cI cZ ad A 4 0 0 (QI below D cI cZ ad A args s r M') M20 67 [(0, .ref (ad b))] []
    refine wk_aload_n G 0 dX4_run_67 rfl rfl ?_
    refine wk_get (ci := 4) (v := .int (M20 b 9)) G iX4_run_X4 b (lb0 hb) (ckb0 cI cZ ad hb (M20 b)) rfl 9 (Nat.le_of_ble_eq_true rfl) kX4_run_33 rfl dX4_run_68 ?_
    refine wk_iconst (v := (-1 : Int32)) G dX4_run_71 (by decide) ?_
    refine wk_icmp_eq (tgt := 79) G dX4_run_72 (by decide) (fun c21 => ?_) (fun c21 => ?_)
    · replace hf := it_t c21 hf
      refine wk_iconst (v := (0 : Int32)) G dX4_run_79 (by decide) ?_
      exact wk_rz G hr hlocks (Or.inl rfl) dX4_run_80 (Option.some.inj hf)
    · replace hf := it_f c21 hf
      refine wk_iconst (v := (1 : Int32)) G dX4_run_75 (by decide) ?_
      refine wk_goto (tgt := 80) G dX4_run_76 (by decide) ?_
      exact wk_rz G hr hlocks (Or.inr rfl) dX4_run_80 (Option.some.inj hf)
  have Lq22 : (up2 fun (v3 : Int32) (M4 : Mem) => Wk p l e (headSpec wsX4_run rmX4_run).room s m args below meth c D cI cZ ad A 4 0 0 (QI below D cI cZ ad A args s r M') M4 8 [(0, .ref (ad b)), (3, .int v3)] []) ((0 : Int32), M1) := by
    refine loop_P (C := (up1 fun (M20 : Mem) => Wk p l e (headSpec wsX4_run rmX4_run).room s m args below meth c D cI cZ ad A 4 0 0 (QI below D cI cZ ad A args s r M') M20 67 [(0, .ref (ad b))] [])) ?_ fu ((0 : Int32), M1) q22 q23 Cq22
    clear hf Cq22 q23
    rintro ⟨v3, M4⟩ o hf hI hE
    replace hf := un2_of hf
    show Wk p l e (headSpec wsX4_run rmX4_run).room s m args below meth c D cI cZ ad A 4 0 0 (QI below D cI cZ ad A args s r M') M4 8 [(0, .ref (ad b)), (3, .int v3)] []
    refine wk_iload_n G 1 dX4_run_8 rfl rfl ?_
    refine wk_aload_n G 0 dX4_run_9 rfl rfl ?_
    refine wk_get (ci := 4) (v := .int (M4 b 8)) G iX4_run_X4 b (lb0 hb) (ckb0 cI cZ ad hb (M4 b)) rfl 8 (Nat.le_of_ble_eq_true rfl) kX4_run_58 rfl dX4_run_10 ?_
    refine wk_icmp_ge (tgt := 67) G dX4_run_13 (by decide) (fun c5 => ?_) (fun c5 => ?_)
    · replace hf := it_t c5 hf
      refine wk_sub [0] rfl ?_
      exact hE _ (Option.some.inj hf).symm
    · replace hf := it_f c5 hf
      refine wk_aload_n G 0 dX4_run_16 rfl rfl ?_
      refine wk_iload_n G 1 dX4_run_17 rfl rfl ?_
      obtain ⟨M6, q7, hf⟩ := bd_of hf
      refine wk_callVv (As := [.int v3]) (rest := []) (ci := 4) G b (lb0 hb) (c_X4_meetEvents l D cI cZ ad b hb v3 M4 M6 q7) (cwV 1 G.2.2.2.2.1 gX4_run_X4_meetEvents rfl rfl rfl (by decide +kernel) ⟨Nat.le_of_ble_eq_true rfl, Nat.le_of_ble_eq_true rfl⟩) (ckb0 cI cZ ad hb (M4 b)) rfl rfl rfl (Nat.le_of_ble_eq_true rfl) dX4_run_18 ⟨Nat.le_of_ble_eq_true rfl, Nat.le_of_ble_eq_true rfl⟩ ?_
      refine wk_aload_n G 0 dX4_run_21 rfl rfl ?_
      refine wk_iload_n G 1 dX4_run_22 rfl rfl ?_
      obtain ⟨M8, q9, hf⟩ := bd_of hf
      refine wk_callVv (As := [.int v3]) (rest := []) (ci := 4) G b (lb0 hb) (c_X4_takeInComings l D cI cZ ad b hb v3 M6 M8 q9) (cwV 1 G.2.2.2.2.1 gX4_run_X4_takeInComings rfl rfl rfl (by decide +kernel) ⟨Nat.le_of_ble_eq_true rfl, Nat.le_of_ble_eq_true rfl⟩) (ckb0 cI cZ ad hb (M6 b)) rfl rfl rfl (Nat.le_of_ble_eq_true rfl) dX4_run_23 ⟨Nat.le_of_ble_eq_true rfl, Nat.le_of_ble_eq_true rfl⟩ ?_
      refine wk_aload_n G 0 dX4_run_26 rfl rfl ?_
      refine wk_get (ci := 4) (v := .ref (ad (b + 6))) G iX4_run_X4 b (lb0 hb) (ckb0 cI cZ ad hb (M8 b)) rfl 4 (Nat.le_of_ble_eq_true rfl) kX4_run_54 rfl dX4_run_27 ?_
      obtain ⟨M10, q11, hf⟩ := bd_of hf
      refine wk_callVv (As := []) (rest := []) (ci := 3) G (b + 6) (lb hb (by decide)) (c_X3_grow l D cI cZ ad b hb M8 M10 q11) (cwV 0 G.2.2.2.2.1 gX4_run_X3_grow rfl rfl rfl (by decide +kernel) ⟨Nat.le_of_ble_eq_true rfl, Nat.le_of_ble_eq_true rfl⟩) (ckb6 cI cZ ad hb (M8 (b + 6))) rfl rfl rfl (Nat.le_of_ble_eq_true rfl) dX4_run_30 ⟨Nat.le_of_ble_eq_true rfl, Nat.le_of_ble_eq_true rfl⟩ ?_
      refine wk_aload_n G 0 dX4_run_33 rfl rfl ?_
      refine wk_iload_n G 1 dX4_run_34 rfl rfl ?_
      obtain ⟨M12, q13, hf⟩ := bd_of hf
      refine wk_callVv (As := [.int v3]) (rest := []) (ci := 4) G b (lb0 hb) (c_X4_sendLetters l D cI cZ ad b hb v3 M10 M12 q13) (cwV 1 G.2.2.2.2.1 gX4_run_X4_sendLetters rfl rfl rfl (by decide +kernel) ⟨Nat.le_of_ble_eq_true rfl, Nat.le_of_ble_eq_true rfl⟩) (ckb0 cI cZ ad hb (M10 b)) rfl rfl rfl (Nat.le_of_ble_eq_true rfl) dX4_run_35 ⟨Nat.le_of_ble_eq_true rfl, Nat.le_of_ble_eq_true rfl⟩ ?_
      refine wk_aload_n G 0 dX4_run_38 rfl rfl ?_
      refine wk_iload_n G 1 dX4_run_39 rfl rfl ?_
      obtain ⟨M14, q15, hf⟩ := bd_of hf
      refine wk_callVv (As := [.int v3]) (rest := []) (ci := 4) G b (lb0 hb) (c_X4_keepRecord l D cI cZ ad b hb v3 M12 M14 q15) (cwV 1 G.2.2.2.2.1 gX4_run_X4_keepRecord rfl rfl rfl (by decide +kernel) ⟨Nat.le_of_ble_eq_true rfl, Nat.le_of_ble_eq_true rfl⟩) (ckb0 cI cZ ad hb (M12 b)) rfl rfl rfl (Nat.le_of_ble_eq_true rfl) dX4_run_40 ⟨Nat.le_of_ble_eq_true rfl, Nat.le_of_ble_eq_true rfl⟩ ?_
      refine wk_aload_n G 0 dX4_run_43 rfl rfl ?_
      refine wk_get (ci := 4) (v := .int (M14 b 2)) G iX4_run_X4 b (lb0 hb) (ckb0 cI cZ ad hb (M14 b)) rfl 2 (Nat.le_of_ble_eq_true rfl) kX4_run_45 rfl dX4_run_44 ?_
      obtain ⟨j61, ej61, hf⟩ := nm_ex hf
      have J61 : ∀ (u16 : Unit), j61 u16 = some o → Wk p l e (headSpec wsX4_run rmX4_run).room s m args below meth c D cI cZ ad A 4 0 0 (QI below D cI cZ ad A args s r M') M14 61 [(0, .ref (ad b)), (3, .int v3)] [] := by
        intro u16 hf
        replace hf := jn1 ej61 hf
        obtain ⟨v17, ev17, hf⟩ := nm_ex hf
        refine wk_iinc (v := v17) (lv' := [(3, .int v17), (0, .ref (ad b))]) G 1 dX4_run_61 rfl (by rw [ev17]; rfl) (by decide) rfl ?_
        refine wk_goto (tgt := 8) G dX4_run_64 (by decide) ?_
        refine wk_sub [1, 0] rfl ?_
        exact hI _ (Option.some.inj hf).symm
      refine wk_if_eq (tgt := 61) G dX4_run_47 (by decide) (fun c18 => ?_) (fun c18 => ?_)
      · replace hf := it_t c18 hf
        exact J61 () hf
      · replace hf := it_f c18 hf
        refine wk_aload_n G 0 dX4_run_50 rfl rfl ?_
        refine wk_get (ci := 4) (v := .int (M14 b 9)) G iX4_run_X4 b (lb0 hb) (ckb0 cI cZ ad hb (M14 b)) rfl 9 (Nat.le_of_ble_eq_true rfl) kX4_run_33 rfl dX4_run_51 ?_
        refine wk_iconst (v := (-1 : Int32)) G dX4_run_54 (by decide) ?_
        refine wk_icmp_eq (tgt := 61) G dX4_run_55 (by decide) (fun c19 => ?_) (fun c19 => ?_)
        · replace hf := it_t c19 hf
          exact J61 () hf
        · replace hf := it_f c19 hf
          refine wk_goto (tgt := 67) G dX4_run_58 (by decide) ?_
          refine wk_sub [0] rfl ?_
          exact hE _ (Option.some.inj hf).symm
  exact Lq22
def fX5_has (x1 : Int32) (M : Mem) : Option Int32 := if x1 < 0 then (some (0 : Int32)) else (if (M 5 0) ≤ x1 then (some (0 : Int32)) else (some (1 : Int32)))
theorem iX5_has_X5 : ∀ w ∈ wsX50, w ∈ wsX5_has := by decide +kernel
theorem kX5_has_31 : Cond.fieldLink RX5 31 "PartitionPlay$Schedule" "size" "I" ∈ wsX5_has := by decide +kernel
abbrev rmX5_has : Room := { frames := 0, cells := 0, slots := 0, locals := 0 }
set_option maxRecDepth 100000 in
set_option maxHeartbeats 4000000 in
theorem c_X5_has (l : Launch) (D : va_G) (cI cZ : ClassId) (ad : Nat → Nat) (x1 : Int32) (M : Mem) (r : Int32) (hf : fX5_has x1 M = some r) : MetI l yX5_has wsX5_has rmX5_has D cI cZ ad [.ref (ad 5), .int x1] M r M := by
  refine met_i (cc := cX5_has) (nL := 2) (ret := (some .boolean)) (own := RX5) (by decide) rfl rfl (Nat.le_of_ble_eq_true rfl) ?_
  intro p e s m args below meth c A G hr hlocks
  unfold fX5_has at hf
  show Wk p l e (headSpec wsX5_has rmX5_has).room s m args below meth c D cI cZ ad A 2 0 0 (QI below D cI cZ ad A args s r M) M 0 [(0, .ref (ad 5)), (1, .int x1)] []
  refine wk_iload_n G 1 dX5_has_0 rfl rfl ?_
  refine wk_if_lt (tgt := 16) G dX5_has_1 (by decide) (fun c1 => ?_) (fun c1 => ?_)
  · replace hf := it_t c1 hf
    refine wk_iconst (v := (0 : Int32)) G dX5_has_16 (by decide) ?_
    exact wk_rz G hr hlocks (Or.inl rfl) dX5_has_17 (congrArg (fun z => (z, M)) (Option.some.inj hf))
  · replace hf := it_f c1 hf
    refine wk_iload_n G 1 dX5_has_4 rfl rfl ?_
    refine wk_aload_n G 0 dX5_has_5 rfl rfl ?_
    refine wk_get (ci := 5) (v := .int (M 5 0)) G iX5_has_X5 5 (by decide) (ck5 cI cZ ad (M 5)) rfl 0 (Nat.le_of_ble_eq_true rfl) kX5_has_31 rfl dX5_has_6 ?_
    refine wk_icmp_ge (tgt := 16) G dX5_has_9 (by decide) (fun c2 => ?_) (fun c2 => ?_)
    · replace hf := it_t c2 hf
      refine wk_iconst (v := (0 : Int32)) G dX5_has_16 (by decide) ?_
      exact wk_rz G hr hlocks (Or.inl rfl) dX5_has_17 (congrArg (fun z => (z, M)) (Option.some.inj hf))
    · replace hf := it_f c2 hf
      refine wk_iconst (v := (1 : Int32)) G dX5_has_12 (by decide) ?_
      refine wk_goto (tgt := 17) G dX5_has_13 (by decide) ?_
      exact wk_rz G hr hlocks (Or.inr rfl) dX5_has_17 (congrArg (fun z => (z, M)) (Option.some.inj hf))
def fX5_countNaming (x1 : Int32) (x2 : Int32) (M : Mem) : Option Mem := gd x1 20 ((fX6_namesLetter (M 6 (Int32.toNatClampNeg x1))).bind (fun (r2 : Int32) => if r2 = 0 then (some M) else (gd x1 20 ((fX6_isLetter (M 8 (Int32.toNatClampNeg x1))).bind (fun (r6 : Int32) => if r6 = 0 then (some M) else (gd x1 20 (nm ((M 8 (Int32.toNatClampNeg x1))) fun (v10 : Int32) => gd v10 1200 (gd v10 1200 (nm (st M 11 (Int32.toNatClampNeg v10) ((M 11 (Int32.toNatClampNeg v10)) + x2)) fun (M13 : Mem) => some M13)))))))))
theorem iX5_countNaming_X5 : ∀ w ∈ wsX50, w ∈ wsX5_countNaming := by decide +kernel
theorem kX5_countNaming_9 : Cond.fieldLink RX5 9 "PartitionPlay$Schedule" "kinds" "[I" ∈ wsX5_countNaming := by decide +kernel
theorem kX5_countNaming_18 : Cond.fieldLink RX5 18 "PartitionPlay$Schedule" "as" "[I" ∈ wsX5_countNaming := by decide +kernel
theorem kX5_countNaming_28 : Cond.fieldLink RX5 28 "PartitionPlay$Schedule" "namings" "[I" ∈ wsX5_countNaming := by decide +kernel
abbrev rmX5_countNaming : Room := { frames := 1, cells := 0, slots := 0, locals := 20 }
set_option maxRecDepth 100000 in
set_option maxHeartbeats 4000000 in
theorem c_X5_countNaming (l : Launch) (D : va_G) (cI cZ : ClassId) (ad : Nat → Nat) (x1 : Int32) (x2 : Int32) (M : Mem) (M' : Mem) (hf : fX5_countNaming x1 x2 M = some M') : MetV l yX5_countNaming wsX5_countNaming rmX5_countNaming D cI cZ ad [.ref (ad 5), .int x1, .int x2] M M' := by
  refine met_v (cc := cX5_countNaming) (nL := 3) (ret := none) (own := RX5) (by decide) rfl rfl (Nat.le_of_ble_eq_true rfl) ?_
  intro p e s m args below meth c A G hr hlocks
  unfold fX5_countNaming at hf
  show Wk p l e (headSpec wsX5_countNaming rmX5_countNaming).room s m args below meth c D cI cZ ad A 3 0 0 (QV below D cI cZ ad A args s M') M 0 [(0, .ref (ad 5)), (1, .int x1), (2, .int x2)] []
  refine wk_aload_n G 0 dX5_countNaming_0 rfl rfl ?_
  refine wk_get (ci := 5) (v := .ref (ad 6)) G iX5_countNaming_X5 5 (by decide) (ck5 cI cZ ad (M 5)) rfl 1 (Nat.le_of_ble_eq_true rfl) kX5_countNaming_9 rfl dX5_countNaming_1 ?_
  refine wk_iload_n G 1 dX5_countNaming_4 rfl rfl ?_
  obtain ⟨h1, hf⟩ := gd_of hf
  refine wk_iald G 6 (by decide) (ck6 cI cZ ad) h1 dX5_countNaming_5 ?_
  obtain ⟨r2, q3, hf⟩ := bd_of hf
  refine wk_callNi (As := [.int (M 6 (Int32.toNatClampNeg x1))]) (rest := []) G (c_X6_namesLetter l D cI cZ ad (M 6 (Int32.toNatClampNeg x1)) M r2 q3) ⟨va_cnB 1 G.2.2.2.2.1 gX5_countNaming_X6_namesLetter_n47 rfl rfl rfl G.2.2.2.2.2.2.2.2.1 (G.2.2.2.2.1 _ (by decide +kernel)) (by decide +kernel) ⟨Nat.le_of_ble_eq_true rfl, Nat.le_of_ble_eq_true rfl⟩, G.2.2.2.2.1 _ (by decide +kernel), trivial⟩ rfl rfl (Nat.le_of_ble_eq_true rfl) dX5_countNaming_6 ⟨Nat.le_of_ble_eq_true rfl, Nat.le_of_ble_eq_true rfl⟩ ?_
  refine wk_if_eq (tgt := 39) G dX5_countNaming_9 (by decide) (fun c4 => ?_) (fun c4 => ?_)
  · replace hf := it_t c4 hf
    exact wk_rv G hr hlocks dX5_countNaming_39 (Option.some.inj hf)
  · replace hf := it_f c4 hf
    refine wk_aload_n G 0 dX5_countNaming_12 rfl rfl ?_
    refine wk_get (ci := 5) (v := .ref (ad 8)) G iX5_countNaming_X5 5 (by decide) (ck5 cI cZ ad (M 5)) rfl 3 (Nat.le_of_ble_eq_true rfl) kX5_countNaming_18 rfl dX5_countNaming_13 ?_
    refine wk_iload_n G 1 dX5_countNaming_16 rfl rfl ?_
    obtain ⟨h5, hf⟩ := gd_of hf
    refine wk_iald G 8 (by decide) (ck8 cI cZ ad) h5 dX5_countNaming_17 ?_
    obtain ⟨r6, q7, hf⟩ := bd_of hf
    refine wk_callNi (As := [.int (M 8 (Int32.toNatClampNeg x1))]) (rest := []) G (c_X6_isLetter l D cI cZ ad (M 8 (Int32.toNatClampNeg x1)) M r6 q7) ⟨va_cnB 1 G.2.2.2.2.1 gX5_countNaming_X6_isLetter_n50 rfl rfl rfl G.2.2.2.2.2.2.2.2.2.1 (G.2.2.2.2.1 _ (by decide +kernel)) (by decide +kernel) ⟨Nat.le_of_ble_eq_true rfl, Nat.le_of_ble_eq_true rfl⟩, G.2.2.2.2.1 _ (by decide +kernel), trivial⟩ rfl rfl (Nat.le_of_ble_eq_true rfl) dX5_countNaming_18 ⟨Nat.le_of_ble_eq_true rfl, Nat.le_of_ble_eq_true rfl⟩ ?_
    refine wk_if_eq (tgt := 39) G dX5_countNaming_21 (by decide) (fun c8 => ?_) (fun c8 => ?_)
    · replace hf := it_t c8 hf
      exact wk_rv G hr hlocks dX5_countNaming_39 (Option.some.inj hf)
    · replace hf := it_f c8 hf
      refine wk_aload_n G 0 dX5_countNaming_24 rfl rfl ?_
      refine wk_get (ci := 5) (v := .ref (ad 11)) G iX5_countNaming_X5 5 (by decide) (ck5 cI cZ ad (M 5)) rfl 6 (Nat.le_of_ble_eq_true rfl) kX5_countNaming_28 rfl dX5_countNaming_25 ?_
      refine wk_aload_n G 0 dX5_countNaming_28 rfl rfl ?_
      refine wk_get (ci := 5) (v := .ref (ad 8)) G iX5_countNaming_X5 5 (by decide) (ck5 cI cZ ad (M 5)) rfl 3 (Nat.le_of_ble_eq_true rfl) kX5_countNaming_18 rfl dX5_countNaming_29 ?_
      refine wk_iload_n G 1 dX5_countNaming_32 rfl rfl ?_
      obtain ⟨h9, hf⟩ := gd_of hf
      refine wk_iald G 8 (by decide) (ck8 cI cZ ad) h9 dX5_countNaming_33 ?_
      obtain ⟨v10, ev10, hf⟩ := nm_ex hf
      refine wk_nme ev10 ?_
      refine wk_dup2 G dX5_countNaming_34 rfl rfl ?_
      obtain ⟨h11, hf⟩ := gd_of hf
      refine wk_iald G 11 (by decide) (ck11 cI cZ ad) h11 dX5_countNaming_35 ?_
      refine wk_iload_n G 2 dX5_countNaming_36 rfl rfl ?_
      refine wk_iadd G dX5_countNaming_37 ?_
      obtain ⟨h12, hf⟩ := gd_of hf
      obtain ⟨M13, eM13, hf⟩ := nm_ex hf
      refine wk_iast G 11 (by decide) (ck11 cI cZ ad) h12 dX5_countNaming_38 eM13 ?_
      exact wk_rv G hr hlocks dX5_countNaming_39 (Option.some.inj hf)
def fX5_add (x1 : Int32) (x2 : Int32) (x3 : Int32) (x4 : Int32) (M : Mem) : Option (Int32 × Mem) := if (M 5 0) < (20 : Int32) then (gd (M 5 0) 20 (nm (st M 6 (Int32.toNatClampNeg (M 5 0)) x1) fun (M3 : Mem) => gd (M3 5 0) 20 (nm (st M3 7 (Int32.toNatClampNeg (M3 5 0)) x2) fun (M5 : Mem) => gd (M5 5 0) 20 (nm (st M5 8 (Int32.toNatClampNeg (M5 5 0)) x3) fun (M7 : Mem) => gd (M7 5 0) 20 (nm (st M7 9 (Int32.toNatClampNeg (M7 5 0)) x4) fun (M9 : Mem) => gd (M9 5 0) 20 (nm (st M9 10 (Int32.toNatClampNeg (M9 5 0)) (vp_nar .boolean (0 : Int32))) fun (M11 : Mem) => (fX5_countNaming (M11 5 0) (1 : Int32) M11).bind (fun (M12 : Mem) => nm ((M12 5 0)) fun (v14 : Int32) => nm (st M12 5 0 (v14 + (1 : Int32))) fun (M15 : Mem) => some (v14, M15)))))))) else (some ((-5 : Int32), M))
theorem iX5_add_X5 : ∀ w ∈ wsX50, w ∈ wsX5_add := by decide +kernel
theorem kX5_add_9 : Cond.fieldLink RX5 9 "PartitionPlay$Schedule" "kinds" "[I" ∈ wsX5_add := by decide +kernel
theorem kX5_add_15 : Cond.fieldLink RX5 15 "PartitionPlay$Schedule" "turns" "[I" ∈ wsX5_add := by decide +kernel
theorem kX5_add_18 : Cond.fieldLink RX5 18 "PartitionPlay$Schedule" "as" "[I" ∈ wsX5_add := by decide +kernel
theorem kX5_add_21 : Cond.fieldLink RX5 21 "PartitionPlay$Schedule" "bs" "[I" ∈ wsX5_add := by decide +kernel
theorem kX5_add_24 : Cond.fieldLink RX5 24 "PartitionPlay$Schedule" "leftOut" "[Z" ∈ wsX5_add := by decide +kernel
theorem kX5_add_31 : Cond.fieldLink RX5 31 "PartitionPlay$Schedule" "size" "I" ∈ wsX5_add := by decide +kernel
abbrev rmX5_add : Room := { frames := 2, cells := 0, slots := 0, locals := 42 }
set_option maxRecDepth 100000 in
set_option maxHeartbeats 4000000 in
theorem c_X5_add (l : Launch) (D : va_G) (cI cZ : ClassId) (ad : Nat → Nat) (x1 : Int32) (x2 : Int32) (x3 : Int32) (x4 : Int32) (M : Mem) (r : Int32) (M' : Mem) (hf : fX5_add x1 x2 x3 x4 M = some (r, M')) : MetI l yX5_add wsX5_add rmX5_add D cI cZ ad [.ref (ad 5), .int x1, .int x2, .int x3, .int x4] M r M' := by
  refine met_i (cc := cX5_add) (nL := 5) (ret := (some .int)) (own := RX5) (by decide) rfl rfl (Nat.le_of_ble_eq_true rfl) ?_
  intro p e s m args below meth c A G hr hlocks
  unfold fX5_add at hf
  show Wk p l e (headSpec wsX5_add rmX5_add).room s m args below meth c D cI cZ ad A 5 0 0 (QI below D cI cZ ad A args s r M') M 0 [(0, .ref (ad 5)), (1, .int x1), (2, .int x2), (3, .int x3), (4, .int x4)] []
  refine wk_aload_n G 0 dX5_add_0 rfl rfl ?_
  refine wk_get (ci := 5) (v := .int (M 5 0)) G iX5_add_X5 5 (by decide) (ck5 cI cZ ad (M 5)) rfl 0 (Nat.le_of_ble_eq_true rfl) kX5_add_31 rfl dX5_add_1 ?_
  refine wk_bipush (v := (20 : Int32)) G dX5_add_4 (by decide) ?_
  refine wk_icmp_lt (tgt := 12) G dX5_add_6 (by decide) (fun c1 => ?_) (fun c1 => ?_)
  · replace hf := it_t c1 hf
    refine wk_aload_n G 0 dX5_add_12 rfl rfl ?_
    refine wk_get (ci := 5) (v := .ref (ad 6)) G iX5_add_X5 5 (by decide) (ck5 cI cZ ad (M 5)) rfl 1 (Nat.le_of_ble_eq_true rfl) kX5_add_9 rfl dX5_add_13 ?_
    refine wk_aload_n G 0 dX5_add_16 rfl rfl ?_
    refine wk_get (ci := 5) (v := .int (M 5 0)) G iX5_add_X5 5 (by decide) (ck5 cI cZ ad (M 5)) rfl 0 (Nat.le_of_ble_eq_true rfl) kX5_add_31 rfl dX5_add_17 ?_
    refine wk_iload_n G 1 dX5_add_20 rfl rfl ?_
    obtain ⟨h2, hf⟩ := gd_of hf
    obtain ⟨M3, eM3, hf⟩ := nm_ex hf
    refine wk_iast G 6 (by decide) (ck6 cI cZ ad) h2 dX5_add_21 eM3 ?_
    refine wk_aload_n G 0 dX5_add_22 rfl rfl ?_
    refine wk_get (ci := 5) (v := .ref (ad 7)) G iX5_add_X5 5 (by decide) (ck5 cI cZ ad (M3 5)) rfl 2 (Nat.le_of_ble_eq_true rfl) kX5_add_15 rfl dX5_add_23 ?_
    refine wk_aload_n G 0 dX5_add_26 rfl rfl ?_
    refine wk_get (ci := 5) (v := .int (M3 5 0)) G iX5_add_X5 5 (by decide) (ck5 cI cZ ad (M3 5)) rfl 0 (Nat.le_of_ble_eq_true rfl) kX5_add_31 rfl dX5_add_27 ?_
    refine wk_iload_n G 2 dX5_add_30 rfl rfl ?_
    obtain ⟨h4, hf⟩ := gd_of hf
    obtain ⟨M5, eM5, hf⟩ := nm_ex hf
    refine wk_iast G 7 (by decide) (ck7 cI cZ ad) h4 dX5_add_31 eM5 ?_
    refine wk_aload_n G 0 dX5_add_32 rfl rfl ?_
    refine wk_get (ci := 5) (v := .ref (ad 8)) G iX5_add_X5 5 (by decide) (ck5 cI cZ ad (M5 5)) rfl 3 (Nat.le_of_ble_eq_true rfl) kX5_add_18 rfl dX5_add_33 ?_
    refine wk_aload_n G 0 dX5_add_36 rfl rfl ?_
    refine wk_get (ci := 5) (v := .int (M5 5 0)) G iX5_add_X5 5 (by decide) (ck5 cI cZ ad (M5 5)) rfl 0 (Nat.le_of_ble_eq_true rfl) kX5_add_31 rfl dX5_add_37 ?_
    refine wk_iload_n G 3 dX5_add_40 rfl rfl ?_
    obtain ⟨h6, hf⟩ := gd_of hf
    obtain ⟨M7, eM7, hf⟩ := nm_ex hf
    refine wk_iast G 8 (by decide) (ck8 cI cZ ad) h6 dX5_add_41 eM7 ?_
    refine wk_aload_n G 0 dX5_add_42 rfl rfl ?_
    refine wk_get (ci := 5) (v := .ref (ad 9)) G iX5_add_X5 5 (by decide) (ck5 cI cZ ad (M7 5)) rfl 4 (Nat.le_of_ble_eq_true rfl) kX5_add_21 rfl dX5_add_43 ?_
    refine wk_aload_n G 0 dX5_add_46 rfl rfl ?_
    refine wk_get (ci := 5) (v := .int (M7 5 0)) G iX5_add_X5 5 (by decide) (ck5 cI cZ ad (M7 5)) rfl 0 (Nat.le_of_ble_eq_true rfl) kX5_add_31 rfl dX5_add_47 ?_
    refine wk_iload G 4 dX5_add_50 rfl ?_
    obtain ⟨h8, hf⟩ := gd_of hf
    obtain ⟨M9, eM9, hf⟩ := nm_ex hf
    refine wk_iast G 9 (by decide) (ck9 cI cZ ad) h8 dX5_add_52 eM9 ?_
    refine wk_aload_n G 0 dX5_add_53 rfl rfl ?_
    refine wk_get (ci := 5) (v := .ref (ad 10)) G iX5_add_X5 5 (by decide) (ck5 cI cZ ad (M9 5)) rfl 5 (Nat.le_of_ble_eq_true rfl) kX5_add_24 rfl dX5_add_54 ?_
    refine wk_aload_n G 0 dX5_add_57 rfl rfl ?_
    refine wk_get (ci := 5) (v := .int (M9 5 0)) G iX5_add_X5 5 (by decide) (ck5 cI cZ ad (M9 5)) rfl 0 (Nat.le_of_ble_eq_true rfl) kX5_add_31 rfl dX5_add_58 ?_
    refine wk_iconst (v := (0 : Int32)) G dX5_add_61 (by decide) ?_
    obtain ⟨h10, hf⟩ := gd_of hf
    obtain ⟨M11, eM11, hf⟩ := nm_ex hf
    refine wk_zast G 10 (by decide) (ck10 cI cZ ad) h10 dX5_add_62 eM11 ?_
    refine wk_aload_n G 0 dX5_add_63 rfl rfl ?_
    refine wk_aload_n G 0 dX5_add_64 rfl rfl ?_
    refine wk_get (ci := 5) (v := .int (M11 5 0)) G iX5_add_X5 5 (by decide) (ck5 cI cZ ad (M11 5)) rfl 0 (Nat.le_of_ble_eq_true rfl) kX5_add_31 rfl dX5_add_65 ?_
    refine wk_iconst (v := (1 : Int32)) G dX5_add_68 (by decide) ?_
    obtain ⟨M12, q13, hf⟩ := bd_of hf
    refine wk_callVv (As := [.int (M11 5 0), .int (1 : Int32)]) (rest := []) (ci := 5) G 5 (by decide) (c_X5_countNaming l D cI cZ ad (M11 5 0) (1 : Int32) M11 M12 q13) (cwV 2 G.2.2.2.2.1 gX5_add_X5_countNaming rfl rfl rfl (by decide +kernel) ⟨Nat.le_of_ble_eq_true rfl, Nat.le_of_ble_eq_true rfl⟩) (ck5 cI cZ ad (M11 5)) rfl rfl rfl (Nat.le_of_ble_eq_true rfl) dX5_add_69 ⟨Nat.le_of_ble_eq_true rfl, Nat.le_of_ble_eq_true rfl⟩ ?_
    refine wk_aload_n G 0 dX5_add_72 rfl rfl ?_
    refine wk_dup G dX5_add_73 rfl ?_
    refine wk_get (ci := 5) (v := .int (M12 5 0)) G iX5_add_X5 5 (by decide) (ck5 cI cZ ad (M12 5)) rfl 0 (Nat.le_of_ble_eq_true rfl) kX5_add_31 rfl dX5_add_74 ?_
    obtain ⟨v14, ev14, hf⟩ := nm_ex hf
    refine wk_nme ev14 ?_
    refine wk_dup_x1 G dX5_add_77 rfl rfl ?_
    refine wk_iconst (v := (1 : Int32)) G dX5_add_78 (by decide) ?_
    refine wk_iadd G dX5_add_79 ?_
    obtain ⟨M15, eM15, hf⟩ := nm_ex hf
    refine wk_put (ci := 5) G iX5_add_X5 tyX5 tyX5_ok nmX5 5 (by decide) (ck5 cI cZ ad (M12 5)) rfl 0 (Nat.le_of_ble_eq_true rfl) kX5_add_31 rfl (by decide +kernel) (Nat.le_of_ble_eq_true rfl) (cp5_0 cI cZ ad (M12 5) (v14 + (1 : Int32))) dX5_add_80 eM15 ?_
    exact wk_ri G hr hlocks dX5_add_83 (Option.some.inj hf)
  · replace hf := it_f c1 hf
    refine wk_bipush (v := (-5 : Int32)) G dX5_add_9 (by decide) ?_
    exact wk_ri G hr hlocks dX5_add_11 (Option.some.inj hf)
def fX5_remove (x1 : Int32) (M : Mem) : Option Mem := (fX5_has x1 M).bind (fun (r1 : Int32) => if r1 = 0 then (some M) else ((fX5_countNaming x1 (-1 : Int32) M).bind (fun (M4 : Mem) => nm (st M4 5 0 ((M4 5 0) - (1 : Int32))) fun (M6 : Mem) => (loop fu (un2 fun (v7 : Int32) (M8 : Mem) => (if (M8 5 0) ≤ v7 then (some (.inr M8)) else (gd (v7 + (1 : Int32)) 20 (gd v7 20 (nm (st M8 6 (Int32.toNatClampNeg v7) (M8 6 (Int32.toNatClampNeg (v7 + (1 : Int32))))) fun (M12 : Mem) => gd (v7 + (1 : Int32)) 20 (gd v7 20 (nm (st M12 7 (Int32.toNatClampNeg v7) (M12 7 (Int32.toNatClampNeg (v7 + (1 : Int32))))) fun (M15 : Mem) => gd (v7 + (1 : Int32)) 20 (gd v7 20 (nm (st M15 8 (Int32.toNatClampNeg v7) (M15 8 (Int32.toNatClampNeg (v7 + (1 : Int32))))) fun (M18 : Mem) => gd (v7 + (1 : Int32)) 20 (gd v7 20 (nm (st M18 9 (Int32.toNatClampNeg v7) (M18 9 (Int32.toNatClampNeg (v7 + (1 : Int32))))) fun (M21 : Mem) => gd (v7 + (1 : Int32)) 20 (gd v7 20 (nm (st M21 10 (Int32.toNatClampNeg v7) (vp_nar .boolean (M21 10 (Int32.toNatClampNeg (v7 + (1 : Int32)))))) fun (M24 : Mem) => nm (v7 + (1 : Int32)) fun (v25 : Int32) => some (.inl (v25, M24))))))))))))) : Option ((Int32 × Mem) ⊕ (Mem)))) (x1, M6)).bind (un1 fun (M26 : Mem) => some M26))))
theorem iX5_remove_X5 : ∀ w ∈ wsX50, w ∈ wsX5_remove := by decide +kernel
theorem kX5_remove_9 : Cond.fieldLink RX5 9 "PartitionPlay$Schedule" "kinds" "[I" ∈ wsX5_remove := by decide +kernel
theorem kX5_remove_15 : Cond.fieldLink RX5 15 "PartitionPlay$Schedule" "turns" "[I" ∈ wsX5_remove := by decide +kernel
theorem kX5_remove_18 : Cond.fieldLink RX5 18 "PartitionPlay$Schedule" "as" "[I" ∈ wsX5_remove := by decide +kernel
theorem kX5_remove_21 : Cond.fieldLink RX5 21 "PartitionPlay$Schedule" "bs" "[I" ∈ wsX5_remove := by decide +kernel
theorem kX5_remove_24 : Cond.fieldLink RX5 24 "PartitionPlay$Schedule" "leftOut" "[Z" ∈ wsX5_remove := by decide +kernel
theorem kX5_remove_31 : Cond.fieldLink RX5 31 "PartitionPlay$Schedule" "size" "I" ∈ wsX5_remove := by decide +kernel
abbrev rmX5_remove : Room := { frames := 2, cells := 0, slots := 0, locals := 42 }
set_option maxRecDepth 100000 in
set_option maxHeartbeats 4000000 in
theorem c_X5_remove (l : Launch) (D : va_G) (cI cZ : ClassId) (ad : Nat → Nat) (x1 : Int32) (M : Mem) (M' : Mem) (hf : fX5_remove x1 M = some M') : MetV l yX5_remove wsX5_remove rmX5_remove D cI cZ ad [.ref (ad 5), .int x1] M M' := by
  refine met_v (cc := cX5_remove) (nL := 3) (ret := none) (own := RX5) (by decide) rfl rfl (Nat.le_of_ble_eq_true rfl) ?_
  intro p e s m args below meth c A G hr hlocks
  unfold fX5_remove at hf
  show Wk p l e (headSpec wsX5_remove rmX5_remove).room s m args below meth c D cI cZ ad A 3 0 0 (QV below D cI cZ ad A args s M') M 0 [(0, .ref (ad 5)), (1, .int x1)] []
  refine wk_aload_n G 0 dX5_remove_0 rfl rfl ?_
  refine wk_iload_n G 1 dX5_remove_1 rfl rfl ?_
  obtain ⟨r1, q2, hf⟩ := bd_of hf
  refine wk_callVi (As := [.int x1]) (rest := []) (ci := 5) G 5 (by decide) (c_X5_has l D cI cZ ad x1 M r1 q2) (cwV 1 G.2.2.2.2.1 gX5_remove_X5_has rfl rfl rfl (by decide +kernel) ⟨Nat.le_of_ble_eq_true rfl, Nat.le_of_ble_eq_true rfl⟩) (ck5 cI cZ ad (M 5)) rfl rfl rfl (Nat.le_of_ble_eq_true rfl) dX5_remove_2 ⟨Nat.le_of_ble_eq_true rfl, Nat.le_of_ble_eq_true rfl⟩ ?_
  refine wk_if_ne (tgt := 9) G dX5_remove_5 (by decide) (fun c3 => ?_) (fun c3 => ?_)
  · replace hf := it_f c3 hf
    refine wk_aload_n G 0 dX5_remove_9 rfl rfl ?_
    refine wk_iload_n G 1 dX5_remove_10 rfl rfl ?_
    refine wk_iconst (v := (-1 : Int32)) G dX5_remove_11 (by decide) ?_
    obtain ⟨M4, q5, hf⟩ := bd_of hf
    refine wk_callVv (As := [.int x1, .int (-1 : Int32)]) (rest := []) (ci := 5) G 5 (by decide) (c_X5_countNaming l D cI cZ ad x1 (-1 : Int32) M M4 q5) (cwV 2 G.2.2.2.2.1 gX5_remove_X5_countNaming rfl rfl rfl (by decide +kernel) ⟨Nat.le_of_ble_eq_true rfl, Nat.le_of_ble_eq_true rfl⟩) (ck5 cI cZ ad (M 5)) rfl rfl rfl (Nat.le_of_ble_eq_true rfl) dX5_remove_12 ⟨Nat.le_of_ble_eq_true rfl, Nat.le_of_ble_eq_true rfl⟩ ?_
    refine wk_aload_n G 0 dX5_remove_15 rfl rfl ?_
    refine wk_dup G dX5_remove_16 rfl ?_
    refine wk_get (ci := 5) (v := .int (M4 5 0)) G iX5_remove_X5 5 (by decide) (ck5 cI cZ ad (M4 5)) rfl 0 (Nat.le_of_ble_eq_true rfl) kX5_remove_31 rfl dX5_remove_17 ?_
    refine wk_iconst (v := (1 : Int32)) G dX5_remove_20 (by decide) ?_
    refine wk_isub G dX5_remove_21 ?_
    obtain ⟨M6, eM6, hf⟩ := nm_ex hf
    refine wk_put (ci := 5) G iX5_remove_X5 tyX5 tyX5_ok nmX5 5 (by decide) (ck5 cI cZ ad (M4 5)) rfl 0 (Nat.le_of_ble_eq_true rfl) kX5_remove_31 rfl (by decide +kernel) (Nat.le_of_ble_eq_true rfl) (cp5_0 cI cZ ad (M4 5) ((M4 5 0) - (1 : Int32))) dX5_remove_22 eM6 ?_
    refine wk_iload_n G 1 dX5_remove_25 rfl rfl ?_
    refine wk_istore_n (lv' := [(2, .int x1), (0, .ref (ad 5)), (1, .int x1)]) G dX5_remove_26 rfl (by decide) rfl ?_
    refine wk_sub [1, 0] rfl ?_
    obtain ⟨q27, q28, hf⟩ := bd_of hf
    have Cq27 : (up1 fun (M26 : Mem) => Wk p l e (headSpec wsX5_remove rmX5_remove).room s m args below meth c D cI cZ ad A 3 0 0 (QV below D cI cZ ad A args s M') M26 111 [] []) q27 := by
      obtain ⟨M26, rfl⟩ : ∃ z, z = q27 := ⟨_, rfl⟩
      replace hf := un1_of hf
      show Wk p l e (headSpec wsX5_remove rmX5_remove).room s m args below meth c D cI cZ ad A 3 0 0 (QV below D cI cZ ad A args s M') M26 111 [] []
      exact wk_rv G hr hlocks dX5_remove_111 (Option.some.inj hf)
    have Lq27 : (up2 fun (v7 : Int32) (M8 : Mem) => Wk p l e (headSpec wsX5_remove rmX5_remove).room s m args below meth c D cI cZ ad A 3 0 0 (QV below D cI cZ ad A args s M') M8 27 [(0, .ref (ad 5)), (2, .int v7)] []) (x1, M6) := by
      refine loop_P (C := (up1 fun (M26 : Mem) => Wk p l e (headSpec wsX5_remove rmX5_remove).room s m args below meth c D cI cZ ad A 3 0 0 (QV below D cI cZ ad A args s M') M26 111 [] [])) ?_ fu (x1, M6) q27 q28 Cq27
      clear hf Cq27 q28
      rintro ⟨v7, M8⟩ o hf hI hE
      replace hf := un2_of hf
      show Wk p l e (headSpec wsX5_remove rmX5_remove).room s m args below meth c D cI cZ ad A 3 0 0 (QV below D cI cZ ad A args s M') M8 27 [(0, .ref (ad 5)), (2, .int v7)] []
      refine wk_iload_n G 1 dX5_remove_27 rfl rfl ?_
      refine wk_aload_n G 0 dX5_remove_28 rfl rfl ?_
      refine wk_get (ci := 5) (v := .int (M8 5 0)) G iX5_remove_X5 5 (by decide) (ck5 cI cZ ad (M8 5)) rfl 0 (Nat.le_of_ble_eq_true rfl) kX5_remove_31 rfl dX5_remove_29 ?_
      refine wk_icmp_ge (tgt := 111) G dX5_remove_32 (by decide) (fun c9 => ?_) (fun c9 => ?_)
      · replace hf := it_t c9 hf
        refine wk_sub [] rfl ?_
        exact hE _ (Option.some.inj hf).symm
      · replace hf := it_f c9 hf
        refine wk_aload_n G 0 dX5_remove_35 rfl rfl ?_
        refine wk_get (ci := 5) (v := .ref (ad 6)) G iX5_remove_X5 5 (by decide) (ck5 cI cZ ad (M8 5)) rfl 1 (Nat.le_of_ble_eq_true rfl) kX5_remove_9 rfl dX5_remove_36 ?_
        refine wk_iload_n G 1 dX5_remove_39 rfl rfl ?_
        refine wk_aload_n G 0 dX5_remove_40 rfl rfl ?_
        refine wk_get (ci := 5) (v := .ref (ad 6)) G iX5_remove_X5 5 (by decide) (ck5 cI cZ ad (M8 5)) rfl 1 (Nat.le_of_ble_eq_true rfl) kX5_remove_9 rfl dX5_remove_41 ?_
        refine wk_iload_n G 1 dX5_remove_44 rfl rfl ?_
        refine wk_iconst (v := (1 : Int32)) G dX5_remove_45 (by decide) ?_
        refine wk_iadd G dX5_remove_46 ?_
        obtain ⟨h10, hf⟩ := gd_of hf
        refine wk_iald G 6 (by decide) (ck6 cI cZ ad) h10 dX5_remove_47 ?_
        obtain ⟨h11, hf⟩ := gd_of hf
        obtain ⟨M12, eM12, hf⟩ := nm_ex hf
        refine wk_iast G 6 (by decide) (ck6 cI cZ ad) h11 dX5_remove_48 eM12 ?_
        refine wk_aload_n G 0 dX5_remove_49 rfl rfl ?_
        refine wk_get (ci := 5) (v := .ref (ad 7)) G iX5_remove_X5 5 (by decide) (ck5 cI cZ ad (M12 5)) rfl 2 (Nat.le_of_ble_eq_true rfl) kX5_remove_15 rfl dX5_remove_50 ?_
        refine wk_iload_n G 1 dX5_remove_53 rfl rfl ?_
        refine wk_aload_n G 0 dX5_remove_54 rfl rfl ?_
        refine wk_get (ci := 5) (v := .ref (ad 7)) G iX5_remove_X5 5 (by decide) (ck5 cI cZ ad (M12 5)) rfl 2 (Nat.le_of_ble_eq_true rfl) kX5_remove_15 rfl dX5_remove_55 ?_
        refine wk_iload_n G 1 dX5_remove_58 rfl rfl ?_
        refine wk_iconst (v := (1 : Int32)) G dX5_remove_59 (by decide) ?_
        refine wk_iadd G dX5_remove_60 ?_
        obtain ⟨h13, hf⟩ := gd_of hf
        refine wk_iald G 7 (by decide) (ck7 cI cZ ad) h13 dX5_remove_61 ?_
        obtain ⟨h14, hf⟩ := gd_of hf
        obtain ⟨M15, eM15, hf⟩ := nm_ex hf
        refine wk_iast G 7 (by decide) (ck7 cI cZ ad) h14 dX5_remove_62 eM15 ?_
        refine wk_aload_n G 0 dX5_remove_63 rfl rfl ?_
        refine wk_get (ci := 5) (v := .ref (ad 8)) G iX5_remove_X5 5 (by decide) (ck5 cI cZ ad (M15 5)) rfl 3 (Nat.le_of_ble_eq_true rfl) kX5_remove_18 rfl dX5_remove_64 ?_
        refine wk_iload_n G 1 dX5_remove_67 rfl rfl ?_
        refine wk_aload_n G 0 dX5_remove_68 rfl rfl ?_
        refine wk_get (ci := 5) (v := .ref (ad 8)) G iX5_remove_X5 5 (by decide) (ck5 cI cZ ad (M15 5)) rfl 3 (Nat.le_of_ble_eq_true rfl) kX5_remove_18 rfl dX5_remove_69 ?_
        refine wk_iload_n G 1 dX5_remove_72 rfl rfl ?_
        refine wk_iconst (v := (1 : Int32)) G dX5_remove_73 (by decide) ?_
        refine wk_iadd G dX5_remove_74 ?_
        obtain ⟨h16, hf⟩ := gd_of hf
        refine wk_iald G 8 (by decide) (ck8 cI cZ ad) h16 dX5_remove_75 ?_
        obtain ⟨h17, hf⟩ := gd_of hf
        obtain ⟨M18, eM18, hf⟩ := nm_ex hf
        refine wk_iast G 8 (by decide) (ck8 cI cZ ad) h17 dX5_remove_76 eM18 ?_
        refine wk_aload_n G 0 dX5_remove_77 rfl rfl ?_
        refine wk_get (ci := 5) (v := .ref (ad 9)) G iX5_remove_X5 5 (by decide) (ck5 cI cZ ad (M18 5)) rfl 4 (Nat.le_of_ble_eq_true rfl) kX5_remove_21 rfl dX5_remove_78 ?_
        refine wk_iload_n G 1 dX5_remove_81 rfl rfl ?_
        refine wk_aload_n G 0 dX5_remove_82 rfl rfl ?_
        refine wk_get (ci := 5) (v := .ref (ad 9)) G iX5_remove_X5 5 (by decide) (ck5 cI cZ ad (M18 5)) rfl 4 (Nat.le_of_ble_eq_true rfl) kX5_remove_21 rfl dX5_remove_83 ?_
        refine wk_iload_n G 1 dX5_remove_86 rfl rfl ?_
        refine wk_iconst (v := (1 : Int32)) G dX5_remove_87 (by decide) ?_
        refine wk_iadd G dX5_remove_88 ?_
        obtain ⟨h19, hf⟩ := gd_of hf
        refine wk_iald G 9 (by decide) (ck9 cI cZ ad) h19 dX5_remove_89 ?_
        obtain ⟨h20, hf⟩ := gd_of hf
        obtain ⟨M21, eM21, hf⟩ := nm_ex hf
        refine wk_iast G 9 (by decide) (ck9 cI cZ ad) h20 dX5_remove_90 eM21 ?_
        refine wk_aload_n G 0 dX5_remove_91 rfl rfl ?_
        refine wk_get (ci := 5) (v := .ref (ad 10)) G iX5_remove_X5 5 (by decide) (ck5 cI cZ ad (M21 5)) rfl 5 (Nat.le_of_ble_eq_true rfl) kX5_remove_24 rfl dX5_remove_92 ?_
        refine wk_iload_n G 1 dX5_remove_95 rfl rfl ?_
        refine wk_aload_n G 0 dX5_remove_96 rfl rfl ?_
        refine wk_get (ci := 5) (v := .ref (ad 10)) G iX5_remove_X5 5 (by decide) (ck5 cI cZ ad (M21 5)) rfl 5 (Nat.le_of_ble_eq_true rfl) kX5_remove_24 rfl dX5_remove_97 ?_
        refine wk_iload_n G 1 dX5_remove_100 rfl rfl ?_
        refine wk_iconst (v := (1 : Int32)) G dX5_remove_101 (by decide) ?_
        refine wk_iadd G dX5_remove_102 ?_
        obtain ⟨h22, hf⟩ := gd_of hf
        refine wk_zald G 10 (by decide) (ck10 cI cZ ad) h22 dX5_remove_103 ?_
        obtain ⟨h23, hf⟩ := gd_of hf
        obtain ⟨M24, eM24, hf⟩ := nm_ex hf
        refine wk_zast G 10 (by decide) (ck10 cI cZ ad) h23 dX5_remove_104 eM24 ?_
        obtain ⟨v25, ev25, hf⟩ := nm_ex hf
        refine wk_iinc (v := v25) (lv' := [(2, .int v25), (0, .ref (ad 5))]) G 1 dX5_remove_105 rfl (by rw [ev25]; rfl) (by decide) rfl ?_
        refine wk_goto (tgt := 27) G dX5_remove_108 (by decide) ?_
        refine wk_sub [1, 0] rfl ?_
        exact hI _ (Option.some.inj hf).symm
    exact Lq27
  · replace hf := it_t c3 hf
    exact wk_rv G hr hlocks dX5_remove_8 (Option.some.inj hf)
def fX5_removeLeftOut (M : Mem) : Option Mem := nm (((M 5 0) - (1 : Int32))) fun (v1 : Int32) => (loop fu (un2 fun (v2 : Int32) (M3 : Mem) => (if v2 < 0 then (some (.inr M3)) else (gd v2 20 (nm (fun (M6 : Mem) => nm (v2 + (-1 : Int32)) fun (v7 : Int32) => some (.inl (v7, M6))) fun j25 => if (M3 10 (Int32.toNatClampNeg v2)) = 0 then (j25 M3) else ((fX5_remove v2 M3).bind (fun (M9 : Mem) => j25 M9)))) : Option ((Int32 × Mem) ⊕ (Mem)))) (v1, M)).bind (un1 fun (M11 : Mem) => some M11)
theorem iX5_removeLeftOut_X5 : ∀ w ∈ wsX50, w ∈ wsX5_removeLeftOut := by decide +kernel
theorem kX5_removeLeftOut_24 : Cond.fieldLink RX5 24 "PartitionPlay$Schedule" "leftOut" "[Z" ∈ wsX5_removeLeftOut := by decide +kernel
theorem kX5_removeLeftOut_31 : Cond.fieldLink RX5 31 "PartitionPlay$Schedule" "size" "I" ∈ wsX5_removeLeftOut := by decide +kernel
abbrev rmX5_removeLeftOut : Room := { frames := 3, cells := 0, slots := 0, locals := 64 }
set_option maxRecDepth 100000 in
set_option maxHeartbeats 4000000 in
theorem c_X5_removeLeftOut (l : Launch) (D : va_G) (cI cZ : ClassId) (ad : Nat → Nat) (M : Mem) (M' : Mem) (hf : fX5_removeLeftOut M = some M') : MetV l yX5_removeLeftOut wsX5_removeLeftOut rmX5_removeLeftOut D cI cZ ad [.ref (ad 5)] M M' := by
  refine met_v (cc := cX5_removeLeftOut) (nL := 2) (ret := none) (own := RX5) (by decide) rfl rfl (Nat.le_of_ble_eq_true rfl) ?_
  intro p e s m args below meth c A G hr hlocks
  unfold fX5_removeLeftOut at hf
  show Wk p l e (headSpec wsX5_removeLeftOut rmX5_removeLeftOut).room s m args below meth c D cI cZ ad A 2 0 0 (QV below D cI cZ ad A args s M') M 0 [(0, .ref (ad 5))] []
  refine wk_aload_n G 0 dX5_removeLeftOut_0 rfl rfl ?_
  refine wk_get (ci := 5) (v := .int (M 5 0)) G iX5_removeLeftOut_X5 5 (by decide) (ck5 cI cZ ad (M 5)) rfl 0 (Nat.le_of_ble_eq_true rfl) kX5_removeLeftOut_31 rfl dX5_removeLeftOut_1 ?_
  refine wk_iconst (v := (1 : Int32)) G dX5_removeLeftOut_4 (by decide) ?_
  refine wk_isub G dX5_removeLeftOut_5 ?_
  obtain ⟨v1, ev1, hf⟩ := nm_ex hf
  refine wk_nme ev1 ?_
  refine wk_istore_n (lv' := [(1, .int v1), (0, .ref (ad 5))]) G dX5_removeLeftOut_6 rfl (by decide) rfl ?_
  refine wk_sub [1, 0] rfl ?_
  obtain ⟨q12, q13, hf⟩ := bd_of hf
  have Cq12 : (up1 fun (M11 : Mem) => Wk p l e (headSpec wsX5_removeLeftOut rmX5_removeLeftOut).room s m args below meth c D cI cZ ad A 2 0 0 (QV below D cI cZ ad A args s M') M11 31 [] []) q12 := by
    obtain ⟨M11, rfl⟩ : ∃ z, z = q12 := ⟨_, rfl⟩
    replace hf := un1_of hf
    show Wk p l e (headSpec wsX5_removeLeftOut rmX5_removeLeftOut).room s m args below meth c D cI cZ ad A 2 0 0 (QV below D cI cZ ad A args s M') M11 31 [] []
    exact wk_rv G hr hlocks dX5_removeLeftOut_31 (Option.some.inj hf)
  have Lq12 : (up2 fun (v2 : Int32) (M3 : Mem) => Wk p l e (headSpec wsX5_removeLeftOut rmX5_removeLeftOut).room s m args below meth c D cI cZ ad A 2 0 0 (QV below D cI cZ ad A args s M') M3 7 [(0, .ref (ad 5)), (1, .int v2)] []) (v1, M) := by
    refine loop_P (C := (up1 fun (M11 : Mem) => Wk p l e (headSpec wsX5_removeLeftOut rmX5_removeLeftOut).room s m args below meth c D cI cZ ad A 2 0 0 (QV below D cI cZ ad A args s M') M11 31 [] [])) ?_ fu (v1, M) q12 q13 Cq12
    clear hf Cq12 q13
    rintro ⟨v2, M3⟩ o hf hI hE
    replace hf := un2_of hf
    show Wk p l e (headSpec wsX5_removeLeftOut rmX5_removeLeftOut).room s m args below meth c D cI cZ ad A 2 0 0 (QV below D cI cZ ad A args s M') M3 7 [(0, .ref (ad 5)), (1, .int v2)] []
    refine wk_iload_n G 1 dX5_removeLeftOut_7 rfl rfl ?_
    refine wk_if_lt (tgt := 31) G dX5_removeLeftOut_8 (by decide) (fun c4 => ?_) (fun c4 => ?_)
    · replace hf := it_t c4 hf
      refine wk_sub [] rfl ?_
      exact hE _ (Option.some.inj hf).symm
    · replace hf := it_f c4 hf
      refine wk_aload_n G 0 dX5_removeLeftOut_11 rfl rfl ?_
      refine wk_get (ci := 5) (v := .ref (ad 10)) G iX5_removeLeftOut_X5 5 (by decide) (ck5 cI cZ ad (M3 5)) rfl 5 (Nat.le_of_ble_eq_true rfl) kX5_removeLeftOut_24 rfl dX5_removeLeftOut_12 ?_
      refine wk_iload_n G 1 dX5_removeLeftOut_15 rfl rfl ?_
      obtain ⟨h5, hf⟩ := gd_of hf
      refine wk_zald G 10 (by decide) (ck10 cI cZ ad) h5 dX5_removeLeftOut_16 ?_
      obtain ⟨j25, ej25, hf⟩ := nm_ex hf
      have J25 : ∀ (M6 : Mem), j25 M6 = some o → Wk p l e (headSpec wsX5_removeLeftOut rmX5_removeLeftOut).room s m args below meth c D cI cZ ad A 2 0 0 (QV below D cI cZ ad A args s M') M6 25 [(0, .ref (ad 5)), (1, .int v2)] [] := by
        intro M6 hf
        replace hf := jn1 ej25 hf
        obtain ⟨v7, ev7, hf⟩ := nm_ex hf
        refine wk_iinc (v := v7) (lv' := [(1, .int v7), (0, .ref (ad 5))]) G 1 dX5_removeLeftOut_25 rfl (by rw [ev7]; rfl) (by decide) rfl ?_
        refine wk_goto (tgt := 7) G dX5_removeLeftOut_28 (by decide) ?_
        refine wk_sub [1, 0] rfl ?_
        exact hI _ (Option.some.inj hf).symm
      refine wk_if_eq (tgt := 25) G dX5_removeLeftOut_17 (by decide) (fun c8 => ?_) (fun c8 => ?_)
      · replace hf := it_t c8 hf
        exact J25 M3 hf
      · replace hf := it_f c8 hf
        refine wk_aload_n G 0 dX5_removeLeftOut_20 rfl rfl ?_
        refine wk_iload_n G 1 dX5_removeLeftOut_21 rfl rfl ?_
        obtain ⟨M9, q10, hf⟩ := bd_of hf
        refine wk_callVv (As := [.int v2]) (rest := []) (ci := 5) G 5 (by decide) (c_X5_remove l D cI cZ ad v2 M3 M9 q10) (cwV 1 G.2.2.2.2.1 gX5_removeLeftOut_X5_remove rfl rfl rfl (by decide +kernel) ⟨Nat.le_of_ble_eq_true rfl, Nat.le_of_ble_eq_true rfl⟩) (ck5 cI cZ ad (M3 5)) rfl rfl rfl (Nat.le_of_ble_eq_true rfl) dX5_removeLeftOut_22 ⟨Nat.le_of_ble_eq_true rfl, Nat.le_of_ble_eq_true rfl⟩ ?_
        exact J25 M9 hf
  exact Lq12
