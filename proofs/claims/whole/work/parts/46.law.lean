/-! ===== the law's loop ===== -/
theorem b_two {α : Type} {o1 : Option (Int32 × Mem)} {o2 : Mem → Option (Int32 × Mem)} (h : Both o1 o2) (J : Mem → Option α) (Z : Option α) : ∃ M', Inv M' ∧ (o1.bind (un2 fun (r11 : Int32) (M12 : Mem) => (o2 M12).bind (un2 fun (r16 : Int32) (M17 : Mem) => if r11 = r16 then (J M17) else Z))) = J M' := by
  obtain ⟨r, M1, M2, h1, h2, h3⟩ := h
  refine ⟨M2, h3, ?_⟩
  rw [h1]
  simp only [Option.bind_some, un2]
  rw [h2]
  simp only [Option.bind_some, un2]
  exact if_pos trivial
theorem b_one {α : Type} {o1 o2 : Option Int32} (h : ∃ r, o1 = some r ∧ o2 = some r) (J Z : Option α) : (o1.bind (fun (r70 : Int32) => o2.bind (fun (r74 : Int32) => if r70 = r74 then J else Z))) = J := by
  obtain ⟨r, h1, h2⟩ := h
  rw [h1]
  simp only [Option.bind_some]
  rw [h2]
  simp only [Option.bind_some]
  exact if_pos trivial
abbrev lJ (v1 : Int32) (M6 : Mem) : Option ((Int32 × Mem) ⊕ ((Int32) ⊕ (Mem))) := some (.inl (v1 + (5 : Int32), M6))
theorem M0_inv (x : Int32) : Inv (M0 x) := by
  have hc : ∃ n, 2 ≤ n ∧ n ≤ 6 ∧ (if (2 : Int32) < (if x < (6 : Int32) then x else (6 : Int32)) then (if x < (6 : Int32) then x else (6 : Int32)) else (2 : Int32)) = nI n ∧ mclamp x = nI n := by
    have two : (2 : Int32).toInt = 2 := rfl
    have six : (6 : Int32).toInt = 6 := rfl
    have zero : (0 : Int32).toInt = 0 := rfl
    unfold mclamp
    rcases pk_ix x (show 6 < 2 ^ 31 by decide) with h | h | ⟨j, hj, rfl⟩
    · refine ⟨2, by decide, by decide, ?_, ?_⟩
      · rw [if_pos (show x < 6 by rw [Int32.lt_iff_toInt_lt] at h ⊢; omega), if_neg (show ¬ (2 : Int32) < x by rw [Int32.lt_iff_toInt_lt] at h ⊢; omega)]; rfl
      · rw [if_neg (show ¬ (2 : Int32) ≤ x by rw [Int32.lt_iff_toInt_lt] at h; rw [Int32.le_iff_toInt_le]; omega)]; rfl
    · have h6 : (nI 6).toInt = 6 := rfl
      refine ⟨6, by decide, by decide, ?_, ?_⟩
      · rw [if_neg (show ¬ x < 6 by rw [Int32.le_iff_toInt_le] at h; rw [Int32.lt_iff_toInt_lt]; omega), if_pos (by decide)]; rfl
      · rw [Int32.le_iff_toInt_le] at h
        rw [if_pos (show (2 : Int32) ≤ x by rw [Int32.le_iff_toInt_le]; omega)]
        by_cases c : x ≤ 6
        · rw [if_pos c]
          rw [Int32.le_iff_toInt_le] at c
          exact Int32.toInt_inj.mp (by omega)
        · rw [if_neg c]; rfl
    · rcases (show j = 0 ∨ j = 1 ∨ j = 2 ∨ j = 3 ∨ j = 4 ∨ j = 5 by omega) with rfl | rfl | rfl | rfl | rfl | rfl
      · exact ⟨2, by decide, by decide, by decide, by decide⟩
      · exact ⟨2, by decide, by decide, by decide, by decide⟩
      · exact ⟨2, by decide, by decide, by decide, by decide⟩
      · exact ⟨3, by decide, by decide, by decide, by decide⟩
      · exact ⟨4, by decide, by decide, by decide, by decide⟩
      · exact ⟨5, by decide, by decide, by decide, by decide⟩
  obtain ⟨n, hn2, hn6, h1, h2⟩ := hc
  refine ⟨n, 0, 0, 0, ⟨⟨hn2, hn6, h1, h2⟩, fun a _ => rfl, fun a c ha hc => ?_, fun a ha => ⟨rfl, 0, by decide, rfl⟩, ⟨rfl, rfl, by decide, fun e he => by omega⟩, fun k hk => rfl⟩, fun e he => ⟨fun _ => rfl, rfl⟩, rfl, by decide, rfl, rfl, ⟨by decide, rfl, rfl, fun j hj => by omega, rfl, rfl, rfl, fun u a hu => by omega, fun u hu => by omega⟩, fun h => by omega, rfl, rfl⟩
  have e3 : M0 x 3 (6 * a + c) = 1 := by
    show (if 6 * a + c < 36 then (1 : Int32) else _) = 1
    rw [if_pos (by omega)]
  have e58 : M0 x 58 (7 * a + c) = 1 := by
    show (if 7 * a + c < 49 then (1 : Int32) else 0) = 1
    rw [if_pos (by omega)]
  rw [e3, e58]
  exact ⟨rfl, 1, by decide, by decide, rfl⟩
theorem law_pure {xs : Nat → Int32} {L : Nat} (hL : L ≤ 2561) (x : Int32) : fL_loop xs L 1 (M0 x) = some 1 := by
  unfold fL_loop
  have key : ∃ b, loop fu (un2 fun (v1 : Int32) (M2 : Mem) => (if ((Int32.ofNat L) - (5 : Int32)) < v1 then (some (.inr (.inr M2))) else (gd v1 L (nm (((xs (Int32.toNatClampNeg v1)) &&& (31 : Int32))) fun (v5 : Int32) => nm (fun (M6 : Mem) => nm (v1 + (5 : Int32)) fun (v7 : Int32) => some (.inl (v7, M6))) fun j585 => if v5 = (0 : Int32) then (gd (v1 + (1 : Int32)) L (gd (v1 + (2 : Int32)) L ((fX6_behaviour (xs (Int32.toNatClampNeg (v1 + (1 : Int32)))) (xs (Int32.toNatClampNeg (v1 + (2 : Int32)))) M2).bind (un2 fun (r11 : Int32) (M12 : Mem) => gd (v1 + (1 : Int32)) L (gd (v1 + (2 : Int32)) L ((fX7_behaviour (xs (Int32.toNatClampNeg (v1 + (1 : Int32)))) (xs (Int32.toNatClampNeg (v1 + (2 : Int32)))) M12).bind (un2 fun (r16 : Int32) (M17 : Mem) => if r11 = r16 then (j585 M17) else (some (.inr (.inl (0 : Int32))))))))))) else if v5 = (1 : Int32) then (gd (v1 + (1 : Int32)) L (gd (v1 + (2 : Int32)) L (gd (v1 + (3 : Int32)) L ((fX6_delay (xs (Int32.toNatClampNeg (v1 + (1 : Int32)))) (xs (Int32.toNatClampNeg (v1 + (2 : Int32)))) (xs (Int32.toNatClampNeg (v1 + (3 : Int32)))) M2).bind (un2 fun (r23 : Int32) (M24 : Mem) => gd (v1 + (1 : Int32)) L (gd (v1 + (2 : Int32)) L (gd (v1 + (3 : Int32)) L ((fX7_delay (xs (Int32.toNatClampNeg (v1 + (1 : Int32)))) (xs (Int32.toNatClampNeg (v1 + (2 : Int32)))) (xs (Int32.toNatClampNeg (v1 + (3 : Int32)))) M24).bind (un2 fun (r29 : Int32) (M30 : Mem) => if r23 = r29 then (j585 M30) else (some (.inr (.inl (0 : Int32))))))))))))) else if v5 = (2 : Int32) then (gd (v1 + (1 : Int32)) L (gd (v1 + (2 : Int32)) L ((fX6_tell (xs (Int32.toNatClampNeg (v1 + (1 : Int32)))) (xs (Int32.toNatClampNeg (v1 + (2 : Int32)))) M2).bind (un2 fun (r35 : Int32) (M36 : Mem) => gd (v1 + (1 : Int32)) L (gd (v1 + (2 : Int32)) L ((fX7_tell (xs (Int32.toNatClampNeg (v1 + (1 : Int32)))) (xs (Int32.toNatClampNeg (v1 + (2 : Int32)))) M36).bind (un2 fun (r40 : Int32) (M41 : Mem) => if r35 = r40 then (j585 M41) else (some (.inr (.inl (0 : Int32))))))))))) else if v5 = (3 : Int32) then (gd (v1 + (1 : Int32)) L (gd (v1 + (2 : Int32)) L (gd (v1 + (3 : Int32)) L (gd (v1 + (4 : Int32)) L ((fX6_event (xs (Int32.toNatClampNeg (v1 + (1 : Int32)))) (xs (Int32.toNatClampNeg (v1 + (2 : Int32)))) (xs (Int32.toNatClampNeg (v1 + (3 : Int32)))) (xs (Int32.toNatClampNeg (v1 + (4 : Int32)))) M2).bind (un2 fun (r48 : Int32) (M49 : Mem) => gd (v1 + (1 : Int32)) L (gd (v1 + (2 : Int32)) L (gd (v1 + (3 : Int32)) L (gd (v1 + (4 : Int32)) L ((fX7_event (xs (Int32.toNatClampNeg (v1 + (1 : Int32)))) (xs (Int32.toNatClampNeg (v1 + (2 : Int32)))) (xs (Int32.toNatClampNeg (v1 + (3 : Int32)))) (xs (Int32.toNatClampNeg (v1 + (4 : Int32)))) M49).bind (un2 fun (r55 : Int32) (M56 : Mem) => if r48 = r55 then (j585 M56) else (some (.inr (.inl (0 : Int32))))))))))))))) else if v5 = (4 : Int32) then (gd (v1 + (1 : Int32)) L ((fX6_drop (xs (Int32.toNatClampNeg (v1 + (1 : Int32)))) M2).bind (un2 fun (r60 : Int32) (M61 : Mem) => gd (v1 + (1 : Int32)) L ((fX7_drop (xs (Int32.toNatClampNeg (v1 + (1 : Int32)))) M61).bind (un2 fun (r64 : Int32) (M65 : Mem) => if r60 = r64 then (j585 M65) else (some (.inr (.inl (0 : Int32))))))))) else if v5 = (5 : Int32) then (gd (v1 + (1 : Int32)) L (gd (v1 + (2 : Int32)) L ((fX6_told (xs (Int32.toNatClampNeg (v1 + (1 : Int32)))) (xs (Int32.toNatClampNeg (v1 + (2 : Int32)))) M2).bind (fun (r70 : Int32) => gd (v1 + (1 : Int32)) L (gd (v1 + (2 : Int32)) L ((fX7_told (xs (Int32.toNatClampNeg (v1 + (1 : Int32)))) (xs (Int32.toNatClampNeg (v1 + (2 : Int32)))) M2).bind (fun (r74 : Int32) => if r70 = r74 then (j585 M2) else (some (.inr (.inl (0 : Int32))))))))))) else if v5 = (6 : Int32) then (gd (v1 + (1 : Int32)) L ((fX6_play (xs (Int32.toNatClampNeg (v1 + (1 : Int32)))) M2).bind (un2 fun (r78 : Int32) (M79 : Mem) => gd (v1 + (1 : Int32)) L ((fX7_play (xs (Int32.toNatClampNeg (v1 + (1 : Int32)))) M79).bind (un2 fun (r82 : Int32) (M83 : Mem) => if r78 = r82 then (j585 M83) else (some (.inr (.inl (0 : Int32))))))))) else if v5 = (7 : Int32) then (gd (v1 + (1 : Int32)) L (gd (v1 + (2 : Int32)) L ((fX6_height (xs (Int32.toNatClampNeg (v1 + (1 : Int32)))) (xs (Int32.toNatClampNeg (v1 + (2 : Int32)))) M2).bind (fun (r88 : Int32) => gd (v1 + (1 : Int32)) L (gd (v1 + (2 : Int32)) L ((fX7_height (xs (Int32.toNatClampNeg (v1 + (1 : Int32)))) (xs (Int32.toNatClampNeg (v1 + (2 : Int32)))) M2).bind (fun (r92 : Int32) => if r88 = r92 then (j585 M2) else (some (.inr (.inl (0 : Int32))))))))))) else if v5 = (8 : Int32) then (gd (v1 + (1 : Int32)) L ((fX6_holds (xs (Int32.toNatClampNeg (v1 + (1 : Int32)))) M2).bind (fun (r96 : Int32) => gd (v1 + (1 : Int32)) L ((fX7_holds (xs (Int32.toNatClampNeg (v1 + (1 : Int32)))) M2).bind (fun (r99 : Int32) => if r96 = r99 then (j585 M2) else (some (.inr (.inl (0 : Int32))))))))) else if v5 = (9 : Int32) then ((fX6_fails M2).bind (fun (r102 : Int32) => (fX7_fails M2).bind (fun (r104 : Int32) => if r102 = r104 then (j585 M2) else (some (.inr (.inl (0 : Int32))))))) else if v5 = (10 : Int32) then (gd (v1 + (1 : Int32)) L (gd (v1 + (2 : Int32)) L ((fX6_letter (xs (Int32.toNatClampNeg (v1 + (1 : Int32)))) (xs (Int32.toNatClampNeg (v1 + (2 : Int32)))) M2).bind (fun (r109 : Int32) => gd (v1 + (1 : Int32)) L (gd (v1 + (2 : Int32)) L ((fX7_letter (xs (Int32.toNatClampNeg (v1 + (1 : Int32)))) (xs (Int32.toNatClampNeg (v1 + (2 : Int32)))) M2).bind (fun (r113 : Int32) => if r109 = r113 then (j585 M2) else (some (.inr (.inl (0 : Int32))))))))))) else if v5 = (11 : Int32) then (gd (v1 + (1 : Int32)) L ((fX6_reached (xs (Int32.toNatClampNeg (v1 + (1 : Int32)))) M2).bind (fun (r117 : Int32) => gd (v1 + (1 : Int32)) L ((fX7_reached (xs (Int32.toNatClampNeg (v1 + (1 : Int32)))) M2).bind (fun (r120 : Int32) => if r117 = r120 then (j585 M2) else (some (.inr (.inl (0 : Int32))))))))) else if v5 = (12 : Int32) then (gd (v1 + (1 : Int32)) L ((fX6_bytes (xs (Int32.toNatClampNeg (v1 + (1 : Int32)))) M2).bind (fun (r124 : Int32) => gd (v1 + (1 : Int32)) L ((fX7_bytes (xs (Int32.toNatClampNeg (v1 + (1 : Int32)))) M2).bind (fun (r127 : Int32) => if r124 = r127 then (j585 M2) else (some (.inr (.inl (0 : Int32))))))))) else if v5 = (13 : Int32) then ((fX6_shrink M2).bind (un2 fun (r130 : Int32) (M131 : Mem) => (fX7_shrink M131).bind (un2 fun (r133 : Int32) (M134 : Mem) => if r130 = r133 then (j585 M134) else (some (.inr (.inl (0 : Int32))))))) else if v5 = (14 : Int32) then ((fX6_minimal M2).bind (un2 fun (r137 : Int32) (M138 : Mem) => (fX7_minimal M138).bind (un2 fun (r140 : Int32) (M141 : Mem) => if r137 = r140 then (j585 M141) else (some (.inr (.inl (0 : Int32))))))) else if v5 = (15 : Int32) then (gd (v1 + (1 : Int32)) L ((fX6_sets (xs (Int32.toNatClampNeg (v1 + (1 : Int32)))) M2).bind (un2 fun (r145 : Int32) (M146 : Mem) => gd (v1 + (1 : Int32)) L ((fX7_sets (xs (Int32.toNatClampNeg (v1 + (1 : Int32)))) M146).bind (un2 fun (r149 : Int32) (M150 : Mem) => if r145 = r149 then (j585 M150) else (some (.inr (.inl (0 : Int32))))))))) else if v5 = (16 : Int32) then (gd (v1 + (1 : Int32)) L ((fX6_count (xs (Int32.toNatClampNeg (v1 + (1 : Int32)))) M2).bind (fun (r154 : Int32) => gd (v1 + (1 : Int32)) L ((fX7_count (xs (Int32.toNatClampNeg (v1 + (1 : Int32)))) M2).bind (fun (r157 : Int32) => if r154 = r157 then (j585 M2) else (some (.inr (.inl (0 : Int32))))))))) else (j585 M2))) : Option ((Int32 × Mem) ⊕ ((Int32) ⊕ (Mem))))) (1, M0 x) = some b ∧ ∃ M' : Mem, b = Sum.inr M' := by
    refine loop_gen (P := fun m (s : Int32 × Mem) => ∃ i, s.1 = nI i ∧ i ≤ L + 5 ∧ L < i + 5 * m + 5 ∧ Inv s.2) (Q := fun (b : Int32 ⊕ Mem) => ∃ M' : Mem, b = Sum.inr M') ?_ ?_ fu 520 ((1 : Int32), M0 x) (by unfold fu; omega) ⟨1, rfl, by omega, by omega, M0_inv x⟩
    · rintro m ⟨v, M2⟩ ⟨i, hv, hi1, hi2, hI⟩
      have hv' : v = nI i := hv
      subst hv'
      dsimp only at hI
      have hsub : (Int32.ofNat L - (5 : Int32)).toInt = (L : Int) - 5 := by rw [show (5 : Int32) = nI 5 from rfl]; exact pk_sub_toInt (show L < 2 ^ 30 by omega) (by decide)
      have hit : (nI i).toInt = i := nI_toInt (by omega)
      simp only [un2]
      by_cases c : (Int32.ofNat L - (5 : Int32)) < nI i
      · rw [if_pos c]
        exact Or.inr ⟨_, rfl, M2, rfl⟩
      · rw [if_neg c]
        rw [Int32.lt_iff_toInt_lt, hsub, hit] at c
        have hiL : i + 5 ≤ L := by omega
        refine Or.inl ?_
        have e1 : nI i + 1 = nI (i + 1) := by rw [show (1 : Int32) = nI 1 from rfl, nI_add]
        have e2 : nI i + 2 = nI (i + 2) := by rw [show (2 : Int32) = nI 2 from rfl, nI_add]
        have e3 : nI i + 3 = nI (i + 3) := by rw [show (3 : Int32) = nI 3 from rfl, nI_add]
        have e4 : nI i + 4 = nI (i + 4) := by rw [show (4 : Int32) = nI 4 from rfl, nI_add]
        have e5 : nI i + 5 = nI (i + 5) := by rw [show (5 : Int32) = nI 5 from rfl, nI_add]
        have g0 : ∀ {β : Type} (q : Option β), gd (nI i) L q = q := fun q => gd_nI (by omega) (by omega)
        have g1 : ∀ {β : Type} (q : Option β), gd (nI (i + 1)) L q = q := fun q => gd_nI (by omega) (by omega)
        have g2 : ∀ {β : Type} (q : Option β), gd (nI (i + 2)) L q = q := fun q => gd_nI (by omega) (by omega)
        have g3 : ∀ {β : Type} (q : Option β), gd (nI (i + 3)) L q = q := fun q => gd_nI (by omega) (by omega)
        have g4 : ∀ {β : Type} (q : Option β), gd (nI (i + 4)) L q = q := fun q => gd_nI (by omega) (by omega)
        simp only [nm, e1, e2, e3, e4, e5, g0, g1, g2, g3, g4]
        have fin : ∀ {o : Option ((Int32 × Mem) ⊕ ((Int32) ⊕ (Mem)))}, (∃ M', Inv M' ∧ o = some (.inl (nI (i + 5), M'))) → ∃ s', o = some (.inl s') ∧ ∃ i, s'.1 = nI i ∧ i ≤ L + 5 ∧ L < i + 5 * m + 5 ∧ Inv s'.2 := fun ⟨M', h1, h2⟩ => ⟨_, h2, i + 5, rfl, by omega, by omega, h1⟩
        apply fin
        generalize xs (nI i).toNatClampNeg &&& 31 = w
        generalize xs (nI (i + 1)).toNatClampNeg = y1
        generalize xs (nI (i + 2)).toNatClampNeg = y2
        generalize xs (nI (i + 3)).toNatClampNeg = y3
        generalize xs (nI (i + 4)).toNatClampNeg = y4
        by_cases c0 : w = 0
        · rw [if_pos c0]; exact b_two (s_behaviour hI y1 y2) _ _
        rw [if_neg c0]
        by_cases c1 : w = 1
        · rw [if_pos c1]; exact b_two (s_delay hI y1 y2 y3) _ _
        rw [if_neg c1]
        by_cases c2 : w = 2
        · rw [if_pos c2]; exact b_two (s_tell hI y1 y2) _ _
        rw [if_neg c2]
        by_cases c3 : w = 3
        · rw [if_pos c3]; exact b_two (s_event hI y1 y2 y3 y4) _ _
        rw [if_neg c3]
        by_cases c4 : w = 4
        · rw [if_pos c4]; exact b_two (s_drop hI y1) _ _
        rw [if_neg c4]
        by_cases c5 : w = 5
        · rw [if_pos c5]; exact ⟨M2, hI, b_one (s_told hI y1 y2) _ _⟩
        rw [if_neg c5]
        by_cases c6 : w = 6
        · rw [if_pos c6]; exact b_two (s_play hI y1) _ _
        rw [if_neg c6]
        by_cases c7 : w = 7
        · rw [if_pos c7]; exact ⟨M2, hI, b_one (s_height hI y1 y2) _ _⟩
        rw [if_neg c7]
        by_cases c8 : w = 8
        · rw [if_pos c8]; exact ⟨M2, hI, b_one (s_holds hI y1) _ _⟩
        rw [if_neg c8]
        by_cases c9 : w = 9
        · rw [if_pos c9]; exact ⟨M2, hI, b_one (s_fails hI) _ _⟩
        rw [if_neg c9]
        by_cases c10 : w = 10
        · rw [if_pos c10]; exact ⟨M2, hI, b_one (s_letter hI y1 y2) _ _⟩
        rw [if_neg c10]
        by_cases c11 : w = 11
        · rw [if_pos c11]; exact ⟨M2, hI, b_one (s_reached hI y1) _ _⟩
        rw [if_neg c11]
        by_cases c12 : w = 12
        · rw [if_pos c12]; exact ⟨M2, hI, b_one (s_bytes hI y1) _ _⟩
        rw [if_neg c12]
        by_cases c13 : w = 13
        · rw [if_pos c13]; exact b_two (s_shrink hI) _ _
        rw [if_neg c13]
        by_cases c14 : w = 14
        · rw [if_pos c14]; exact b_two (s_minimal hI) _ _
        rw [if_neg c14]
        by_cases c15 : w = 15
        · rw [if_pos c15]; exact b_two (s_sets hI y1) _ _
        rw [if_neg c15]
        by_cases c16 : w = 16
        · rw [if_pos c16]; exact ⟨M2, hI, b_one (s_count hI y1) _ _⟩
        rw [if_neg c16]
        exact ⟨M2, hI, rfl⟩
    · rintro ⟨v, M2⟩ ⟨i, hv, hi1, hi2, hI⟩
      have hv' : v = nI i := hv
      subst hv'
      have hsub : (Int32.ofNat L - (5 : Int32)).toInt = (L : Int) - 5 := by rw [show (5 : Int32) = nI 5 from rfl]; exact pk_sub_toInt (show L < 2 ^ 30 by omega) (by decide)
      have hit : (nI i).toInt = i := nI_toInt (by omega)
      simp only [un2]
      rw [if_pos (show (Int32.ofNat L - (5 : Int32)) < nI i by rw [Int32.lt_iff_toInt_lt, hsub, hit]; omega)]
      exact ⟨_, rfl, M2, rfl⟩
  obtain ⟨b, h1, M', rfl⟩ := key
  refine (congrArg (fun o => Option.bind o _) h1).trans ?_
  rfl
