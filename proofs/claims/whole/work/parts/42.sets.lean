theorem shl_pow : ∀ j, j < 6 → (1 : Int32) <<< (nI j &&& 31) = nI (2 ^ j) := by decide
theorem pow_le32 : ∀ j, j < 6 → 2 ^ j ≤ 32 := by decide
abbrev cSet (x1 : Int32) (s : Int32 × Int32 × Mem) : Option (Int32 × Mem) := loop fu (un3 fun (v4 : Int32) (v5 : Int32) (M6 : Mem) => (if ((1 : Int32) <<< (x1 &&& 31)) ≤ v5 then (some (.inr (v4, M6))) else ((fX4_run 34 (M6 12 8) v5 M6).bind (un2 fun (r8 : Int32) (M9 : Mem) => nm (fun (v11 : Int32) => nm (v5 + (1 : Int32)) fun (v12 : Int32) => some (.inl (v11, v12, M9))) fun j57 => if r8 = 0 then (j57 v4) else (nm (v4 + (1 : Int32)) fun (v14 : Int32) => j57 v14))) : Option ((Int32 × Int32 × Mem) ⊕ (Int32 × Mem)))) s
abbrev mSet (x1 : Int32) (s : Int32 × Int32 × Mem) : Option (Int32 × Mem) := loop fu (un3 fun (v6 : Int32) (v7 : Int32) (M8 : Mem) => (if ((1 : Int32) <<< (x1 &&& 31)) ≤ v7 then (some (.inr (v6, M8))) else (nm (st M8 56 10 v7) fun (M10 : Mem) => (fX7_isFailing M10).bind (un2 fun (r11 : Int32) (M12 : Mem) => nm (fun (v14 : Int32) => nm ((v6 + v14)) fun (v15 : Int32) => nm (v7 + (1 : Int32)) fun (v16 : Int32) => some (.inl (v15, v16, M12))) fun j53 => if r11 = 0 then (j53 (0 : Int32)) else (j53 (1 : Int32)))) : Option ((Int32 × Int32 × Mem) ⊕ (Int32 × Mem)))) s
theorem sets6_eq (x1 : Int32) (M : Mem) : fX6_sets x1 M = if x1 < 0 then (some ((-3 : Int32), M)) else (if x1 ≤ (5 : Int32) then (if (M 12 8) = 0 then (some ((-4 : Int32), M)) else ((cSet x1 ((0 : Int32), (0 : Int32), M)).bind (un2 fun (v15 : Int32) (M16 : Mem) => some (v15, M16)))) else (some ((-3 : Int32), M))) := rfl
theorem sets7_eq (x1 : Int32) (M : Mem) : fX7_sets x1 M = (fX7_in x1 (0 : Int32) (5 : Int32)).bind (fun (r1 : Int32) => if r1 = 0 then (some ((-3 : Int32), M)) else (gd (0 : Int32) 2 (if (M 65 (Int32.toNatClampNeg (0 : Int32))) = 0 then (some ((-4 : Int32), M)) else ((mSet x1 ((0 : Int32), (0 : Int32), M)).bind (un2 fun (v18 : Int32) (M19 : Mem) => nm (st M19 56 10 (0 : Int32)) fun (M20 : Mem) => some (v18, M20)))))) := rfl
theorem s_sets {M : Mem} (h : Inv M) (x : Int32) : Both (fX6_sets x M) (fX7_sets x) := by
  refine both_mk (f := fX6_sets x) h ?_
  intro n ne T nl N hI
  obtain ⟨hcfg, hout, hx, hT, t1, t2, -⟩ := id hI
  have hne : ne ≤ 20 := hcfg.2.2.2.2.1.2.2.1
  have zero : (0 : Int32).toInt = 0 := rfl
  have five : (5 : Int32).toInt = 5 := rfl
  by_cases c1 : x < 0
  · refine ⟨-3, M, N, ?_, ?_, fun _ _ => rfl, fun _ _ => rfl, n, ne, T, nl, hI⟩
    · rw [sets6_eq, if_pos c1]
    · rw [sets7_eq]; unfold fX7_in; rw [if_pos c1]; rfl
  · by_cases c2 : x ≤ 5
    · rcases pk_ix x (show 6 < 2 ^ 31 by decide) with h1 | h1 | ⟨j, hj, rfl⟩
      · exact absurd h1 c1
      · have : (nI 6).toInt = 6 := rfl
        rw [Int32.le_iff_toInt_le] at h1 c2; omega
      · have hin : fX7_in (nI j) 0 5 = some 1 := by
          unfold fX7_in
          rw [if_neg c1, if_neg (show ¬ (5 : Int32) < nI j by rw [Int32.lt_iff_toInt_lt]; rw [Int32.le_iff_toInt_le] at c2; omega)]
        by_cases c : nI T = 0
        · refine ⟨-4, M, N, ?_, ?_, fun _ _ => rfl, fun _ _ => rfl, n, ne, T, nl, hI⟩
          · rw [sets6_eq, if_neg c1, if_pos c2, t1, if_pos c]
          · rw [sets7_eq, hin]; simp only [Option.bind_some, if_neg b1]; rw [gd_0 (by decide) (by decide), cl_0, t2, if_pos c]
        · obtain ⟨K, hK⟩ : ∃ K, K = 2 ^ j := ⟨_, rfl⟩
          have hK32 : K ≤ 32 := by rw [hK]; exact pow_le32 j hj
          have hsh := shl_pow j hj
          rw [← hK] at hsh
          have key : ∃ b d, cSet (nI j) ((0 : Int32), (0 : Int32), M) = some b ∧ mSet (nI j) ((0 : Int32), (0 : Int32), N) = some d ∧ b.1 = d.1 ∧ CQ M b.2 ∧ NQ N d.2 ∧ (∀ e, e < ne → b.2 10 e = 0) ∧ (∀ e, e < 20 → d.2 64 e = 0) := by
            refine loop_two (P := fun i (s t : Int32 × Int32 × Mem) => s.1 = t.1 ∧ s.2.1 = nI i ∧ t.2.1 = nI i ∧ CQ M s.2.2 ∧ NQ N t.2.2 ∧ (∀ e, e < ne → s.2.2 10 e = 0) ∧ (∀ e, e < 20 → t.2.2 64 e = 0)) (Q := fun (b d : Int32 × Mem) => b.1 = d.1 ∧ CQ M b.2 ∧ NQ N d.2 ∧ (∀ e, e < ne → b.2 10 e = 0) ∧ (∀ e, e < 20 → d.2 64 e = 0)) K ?_ ?_ fu 0 _ _ (by unfold fu; omega) (by omega) ⟨rfl, rfl, rfl, CQ.rf, NQ.rf, fun e he => (hout e (by omega)).1 he, fun e he => (hout e he).2⟩
            · rintro i ⟨v, w, M2⟩ ⟨v', w', N2⟩ hi ⟨p2, p3, p4, p5, p6, p7, p8⟩
              dsimp only at p2 p3 p4 p5 p6 p7 p8
              subst p2; subst p3; subst p4
              obtain ⟨r2, M3, N3, e1, e2, e3, e4, e5, e6, e7, e8⟩ := trial' (M := M2) (N := st N2 56 10 (nI i)) (x := nI i) hI p5 (p6.tr (NQ_sl (nI i))) (fun e he => by rw [st_c _ _ _ (show 64 ≠ 56 by decide), p7 e he, p8 e (by omega)]) (st_cc _ _ _ _).symm
              have m12 : M2 12 8 = nI T := by rw [p5.1 12 (by decide) (by decide)]; exact t1
              refine ⟨((if r2 = 0 then v else v + 1), nI (i + 1), M3), ((if r2 = 0 then v else v + 1), nI (i + 1), N3), ?_, ?_, rfl, rfl, rfl, e3, e4, fun e he => (congrFun e5 e).trans (p7 e he), fun e he => (congrFun e6 e).trans ((congrFun (st_c N2 10 (nI i) (show 64 ≠ 56 by decide)) e).trans (p8 e he))⟩
              · simp only [un3]
                rw [hsh, if_neg (nI_ge hi (by omega)), m12, e1]
                simp only [Option.bind_some, un2, nm, nI_1]
                by_cases cr : r2 = 0
                · rw [if_pos cr, if_pos cr]
                · rw [if_neg cr, if_neg cr]
              · simp only [un3]
                rw [hsh, if_neg (nI_ge hi (by omega))]
                simp only [nm]
                rw [e2]
                simp only [Option.bind_some, un2, nI_1]
                by_cases cr : r2 = 0
                · rw [if_pos cr, if_pos cr, Int32.add_zero]
                · rw [if_neg cr, if_neg cr]
            · rintro ⟨v, w, M2⟩ ⟨v', w', N2⟩ ⟨p2, p3, p4, p5, p6, p7, p8⟩
              dsimp only at p2 p3 p4 p5 p6 p7 p8
              subst p2; subst p3; subst p4
              refine ⟨(v, M2), (v, N2), ?_, ?_, rfl, p5, p6, p7, p8⟩
              · simp only [un3]; rw [hsh, if_pos (nI_le (Nat.le_refl K) (by omega))]
              · simp only [un3]; rw [hsh, if_pos (nI_le (Nat.le_refl K) (by omega))]
          obtain ⟨⟨v, M2⟩, ⟨v', N2⟩, k1, k2, k3, k4, k5, k6, k7⟩ := key
          dsimp only at k3 k4 k5 k6 k7
          subst k3
          refine ⟨v, M2, st N2 56 10 0, ?_, ?_, k4.hi, (k5.tr (NQ_sl 0)).lo, n, ne, T, nl, IR_end hI k4 (k5.tr (NQ_sl 0)) k6 (fun e he => by rw [st_c _ _ _ (show 64 ≠ 56 by decide)]; exact k7 e he) (st_cc _ _ _ _)⟩
          · rw [sets6_eq, if_neg c1, if_pos c2, t1, if_neg c]
            have k1' : cSet (nI j) (0, 0, M) = some (v, M2) := k1
            rw [k1']
            rfl
          · rw [sets7_eq, hin]
            simp only [Option.bind_some, if_neg b1]
            rw [gd_0 (by decide) (by decide), cl_0, t2, if_neg c]
            have k2' : mSet (nI j) (0, 0, N) = some (v, N2) := k2
            rw [k2']
            rfl
    · refine ⟨-3, M, N, ?_, ?_, fun _ _ => rfl, fun _ _ => rfl, n, ne, T, nl, hI⟩
      · rw [sets6_eq, if_neg c1, if_neg c2]
      · rw [sets7_eq]; unfold fX7_in; rw [if_neg c1, if_pos (show (5 : Int32) < x by rw [Int32.lt_iff_toInt_lt]; rw [Int32.le_iff_toInt_le] at c2; omega)]; rfl
