/-! ===== settings ===== -/
theorem Shown_congr {n T nl : Nat} {M M' : Mem} (h : Shown n T nl M) (e : ∀ c, (12 ≤ c ∧ c < 56) ∨ (65 ≤ c ∧ c ≤ 80) → M' c = M c) : Shown n T nl M' := by
  unfold Shown Rec iLet at *
  simp only [e 12 (by decide), e 20 (by decide), e 34 (by decide), e (12 + 12) (by decide), e (12 + 13) (by decide), e (12 + 14) (by decide), e (12 + 15) (by decide), e (12 + 16) (by decide), e (12 + 17) (by decide), e (12 + 18) (by decide), e (12 + 19) (by decide), e (12 + 20) (by decide), e (12 + 21) (by decide), e 65 (by decide), e 66 (by decide), e 67 (by decide), e 68 (by decide), e 69 (by decide), e 70 (by decide), e 71 (by decide), e 72 (by decide), e 73 (by decide), e 74 (by decide), e 75 (by decide), e 76 (by decide), e 77 (by decide), e 78 (by decide), e 79 (by decide), e 80 (by decide)]
  exact h
theorem iN_congr {n : Nat} {M N M' N' : Mem} (h : iN n M N) (e1 : M' 1 = M 1) (e2 : N' 56 0 = N 56 0) : iN n M' N' := by
  unfold iN at *; rw [e1, e2]; exact h
theorem iBeh_congr {n : Nat} {M N M' N' : Mem} (h : iBeh n M N) (e1 : M' 2 = M 2) (e2 : N' 57 = N 57) : iBeh n M' N' := by
  unfold iBeh at *; rw [e1, e2]; exact h
theorem iDel_congr {n : Nat} {M N M' N' : Mem} (h : iDel n M N) (e1 : M' 3 = M 3) (e2 : N' 58 = N 58) : iDel n M' N' := by
  unfold iDel at *; rw [e1, e2]; exact h
theorem iRum_congr {n : Nat} {M N M' N' : Mem} (h : iRum n M N) (e1 : M' 4 = M 4) (e2 : N' 59 = N 59) : iRum n M' N' := by
  unfold iRum at *; rw [e1, e2]; exact h
theorem iEv_congr {n ne : Nat} {M N M' N' : Mem} (h : iEv n ne M N) (e1 : M' 5 = M 5) (e2 : N' 56 4 = N 56 4) (e3 : M' 6 = M 6) (e4 : M' 7 = M 7) (e5 : M' 8 = M 8) (e6 : M' 9 = M 9) (f3 : N' 60 = N 60) (f4 : N' 61 = N 61) (f5 : N' 62 = N 62) (f6 : N' 63 = N 63) : iEv n ne M' N' := by
  unfold iEv at *; rw [e1, e2, e3, e4, e5, e6, f3, f4, f5, f6]; exact h
theorem iNam_congr {ne : Nat} {M M' : Mem} (h : iNam ne M) (e1 : M' 6 = M 6) (e2 : M' 8 = M 8) (e3 : M' 11 = M 11) : iNam ne M' := by
  unfold iNam nmg at *; rw [e1, e2, e3]; exact h
/-- cells that two stores leave -/
theorem st2 {M : Mem} {c1 k1 c2 k2 : Nat} {v1 v2 : Int32} {c : Nat} (h1 : c ≠ c1) (h2 : c ≠ c2) : st (st M c1 k1 v1) c2 k2 v2 c = M c := by rw [st_c _ _ _ h2, st_c _ _ _ h1]
/-- an answer of both, and what it leaves -/
def Both (o1 : Option (Int32 × Mem)) (o2 : Mem → Option (Int32 × Mem)) : Prop := ∃ r M1 M2, o1 = some (r, M1) ∧ o2 M1 = some (r, M2) ∧ Inv M2
theorem Both.same {o1 : Option (Int32 × Mem)} {o2 : Mem → Option (Int32 × Mem)} {M : Mem} {r : Int32} (h1 : o1 = some (r, M)) (h2 : o2 M = some (r, M)) (h : Inv M) : Both o1 o2 := ⟨r, M, M, h1, h2, h⟩
theorem p_in4 (x : Int32) : fX7_in x 0 3 = vin x 4 := p_in (m := 4) x (by decide)
theorem s_behaviour {M : Mem} (h : Inv M) (x y : Int32) : Both (fX6_behaviour x y M) (fX7_behaviour x y) := by
  obtain ⟨n, ne, T, nl, ⟨⟨hn2, hn6, e1, e2⟩, hbeh, hdel, hrum, hev, hnam⟩, hout, hlt, hsh⟩ := id h
  have hc : fX6_behaviour x y M = ((vin x n).bind fun r1 => if r1 = 0 then some (-2, M) else ((vin y 4).bind fun r2 => if r2 = 0 then some (-3, M) else (gd x 6 (nm (M 2 (Int32.toNatClampNeg x)) fun v7 => gd x 6 (nm (st M 2 (Int32.toNatClampNeg x) y) fun M9 => some (v7, M9)))))) := by
    unfold fX6_behaviour
    rw [p_2has x e1]
    congr 1
    funext r1
    by_cases c : r1 = 0
    · rw [if_pos c, if_pos c]
    · rw [if_neg c, if_neg c]
      unfold vin
      by_cases c1 : y < 0
      · rw [if_pos c1, if_pos c1]; rfl
      · rw [if_neg c1, if_neg c1]
        by_cases c2 : y ≤ 3
        · rw [if_pos c2, if_neg (show ¬ nI 4 ≤ y from fun h4 => by rw [Int32.le_iff_toInt_le] at c2 h4; have a4 : (nI 4).toInt = 4 := rfl; have a3 : (3 : Int32).toInt = 3 := rfl; omega)]; rfl
        · rw [if_neg c2, if_pos (show nI 4 ≤ y by rw [Int32.le_iff_toInt_le] at c2 ⊢; have a4 : (nI 4).toInt = 4 := rfl; have a3 : (3 : Int32).toInt = 3 := rfl; omega)]; rfl
  have hm : ∀ N : Mem, N 56 0 = nI n → fX7_behaviour x y N = ((vin x n).bind fun r1 => if r1 = 0 then some (-2, N) else ((vin y 4).bind fun r2 => if r2 = 0 then some (-3, N) else (gd x 7 (nm (N 57 (Int32.toNatClampNeg x)) fun v8 => gd x 7 (nm (st N 57 (Int32.toNatClampNeg x) y) fun M10 => some (v8, M10)))))) := by
    intro N hN
    unfold fX7_behaviour
    rw [p_isNode x (by omega) hN, p_in4]
  rcases vin_cases x (n := n) (by omega) with h0 | ⟨a, ha, rfl, h1⟩
  · exact Both.same (by rw [hc, h0]; rfl) (by rw [hm M e2, h0]; rfl) h
  · rcases vin_cases y (n := 4) (by decide) with h0 | ⟨j, hj, rfl, h2⟩
    · exact Both.same (by rw [hc, h1, h0]; rfl) (by rw [hm M e2, h1, h0]; rfl) h
    · refine ⟨M 2 a, st M 2 a (nI j), st (st M 2 a (nI j)) 57 a (nI j), ?_, ?_, n, ne, T, nl, ⟨⟨hn2, hn6, by rw [st2 (by decide) (by decide)]; exact e1, by rw [st2 (by decide) (by decide)]; exact e2⟩, ?_, iDel_congr hdel (st2 (by decide) (by decide)) (st2 (by decide) (by decide)), iRum_congr hrum (st2 (by decide) (by decide)) (st2 (by decide) (by decide)), iEv_congr hev (st2 (by decide) (by decide)) (by rw [st2 (by decide) (by decide)]) (st2 (by decide) (by decide)) (st2 (by decide) (by decide)) (st2 (by decide) (by decide)) (st2 (by decide) (by decide)) (st2 (by decide) (by decide)) (st2 (by decide) (by decide)) (st2 (by decide) (by decide)) (st2 (by decide) (by decide)), iNam_congr hnam (st2 (by decide) (by decide)) (st2 (by decide) (by decide)) (st2 (by decide) (by decide))⟩, fun e he => ?_, ?_, Shown_congr hsh (fun c hc => st2 (by omega) (by omega))⟩
      · rw [hc, h1, h2]
        simp only [Option.bind_some, if_neg b1, nm]
        rw [gd_nI (show a < 6 by omega) (by decide), gd_nI (show a < 6 by omega) (by decide), nI_clamp (by omega)]
      · rw [hm _ (by rw [st_c _ _ _ (by decide)]; exact e2), h1, h2]
        simp only [Option.bind_some, if_neg b1, nm]
        rw [gd_nI (show a < 7 by omega) (by decide), gd_nI (show a < 7 by omega) (by decide), nI_clamp (by omega), st_c _ _ _ (show 57 ≠ 2 by decide), hbeh a ha]
      · intro c hc2
        rw [st_c _ _ _ (show 2 ≠ 57 by decide)]
        by_cases hca : c = a
        · subst hca; rw [st_cc, st_cc]
        · rw [st_ck _ _ hca, st_ck _ _ hca, st_c _ _ _ (show 57 ≠ 2 by decide)]; exact hbeh c hc2
      · rw [st2 (by decide) (by decide), st2 (by decide) (by decide)]; exact hout e he
      · rw [st2 (by decide) (by decide)]; exact hlt
theorem isWait_eq (x : Int32) : fX6_isWait x = fX7_in x 1 5 := rfl
theorem in15 (x : Int32) : (fX7_in x 1 5 = some 0) ∨ ∃ d, 1 ≤ d ∧ d ≤ 5 ∧ x = nI d ∧ fX7_in x 1 5 = some 1 := by
  unfold fX7_in
  by_cases c1 : x < 1
  · exact Or.inl (if_pos c1)
  · rw [if_neg c1]
    by_cases c2 : 5 < x
    · exact Or.inl (if_pos c2)
    · rw [if_neg c2]
      right
      rw [Int32.lt_iff_toInt_lt] at c1 c2
      have a1 : (1 : Int32).toInt = 1 := rfl
      have a5 : (5 : Int32).toInt = 5 := rfl
      obtain ⟨j, hj, rfl⟩ := nI_of (x := x) (by rw [Int32.lt_iff_toInt_lt]; have a0 : (0 : Int32).toInt = 0 := rfl; omega)
      rw [nI_toInt hj] at c1 c2
      exact ⟨j, by omega, by omega, rfl, rfl⟩
theorem s_delay {M : Mem} (h : Inv M) (x y z : Int32) : Both (fX6_delay x y z M) (fX7_delay x y z) := by
  obtain ⟨n, ne, T, nl, ⟨⟨hn2, hn6, e1, e2⟩, hbeh, hdel, hrum, hev, hnam⟩, hout, hlt, hsh⟩ := id h
  have hc : fX6_delay x y z M = ((vin x n).bind fun r1 => if r1 = 0 then some (-2, M) else ((vin y n).bind fun r2 => if r2 = 0 then some (-2, M) else if x = y then some (-2, M) else ((fX7_in z 1 5).bind fun r3 => if r3 = 0 then some (-3, M) else ((fX6_pair x y).bind fun r4 => gd r4 36 (nm (M 3 (Int32.toNatClampNeg r4)) fun v => (fX6_pair x y).bind fun r5 => gd r5 36 (nm (st M 3 (Int32.toNatClampNeg r5) z) fun M9 => some (v, M9))))))) := by
    unfold fX6_delay
    rw [p_2has x e1, p_2has y e1, isWait_eq]
  have hm : ∀ N : Mem, N 56 0 = nI n → fX7_delay x y z N = ((vin x n).bind fun r1 => if r1 = 0 then some (-2, N) else ((vin y n).bind fun r2 => if r2 = 0 then some (-2, N) else if x = y then some (-2, N) else ((fX7_in z 1 5).bind fun r3 => if r3 = 0 then some (-3, N) else (gd (7 * x + y) 49 (nm (N 58 (Int32.toNatClampNeg (7 * x + y))) fun v => gd (7 * x + y) 49 (nm (st N 58 (Int32.toNatClampNeg (7 * x + y)) z) fun M9 => some (v, M9))))))) := by
    intro N hN
    unfold fX7_delay
    rw [p_isNode x (by omega) hN, p_isNode y (by omega) hN]
  rcases vin_cases x (n := n) (by omega) with h0 | ⟨a, ha, rfl, h1⟩
  · exact Both.same (by rw [hc, h0]; rfl) (by rw [hm M e2, h0]; rfl) h
  · rcases vin_cases y (n := n) (by omega) with h0 | ⟨b, hb, rfl, h2⟩
    · exact Both.same (by rw [hc, h1, h0]; rfl) (by rw [hm M e2, h1, h0]; rfl) h
    · by_cases hab : nI a = nI b
      · exact Both.same (r := -2) (by rw [hc, h1, h2]; simp only [Option.bind_some, if_neg b1, if_pos hab]) (by rw [hm M e2, h1, h2]; simp only [Option.bind_some, if_neg b1, if_pos hab]) h
      · rcases in15 z with h0 | ⟨d, hd1, hd5, rfl, h3⟩
        · exact Both.same (by rw [hc, h1, h2, h0]; simp only [Option.bind_some, if_neg b1, if_neg hab]; rfl) (by rw [hm M e2, h1, h2, h0]; simp only [Option.bind_some, if_neg b1, if_neg hab]; rfl) h
        · have hp : fX6_pair (nI a) (nI b) = some (nI (6 * a + b)) := by unfold fX6_pair; rw [mul6]
          refine ⟨M 3 (6 * a + b), st M 3 (6 * a + b) (nI d), st (st M 3 (6 * a + b) (nI d)) 58 (7 * a + b) (nI d), ?_, ?_, n, ne, T, nl, ⟨⟨hn2, hn6, by rw [st2 (by decide) (by decide)]; exact e1, by rw [st2 (by decide) (by decide)]; exact e2⟩, iBeh_congr hbeh (st2 (by decide) (by decide)) (st2 (by decide) (by decide)), ?_, iRum_congr hrum (st2 (by decide) (by decide)) (st2 (by decide) (by decide)), iEv_congr hev (st2 (by decide) (by decide)) (by rw [st2 (by decide) (by decide)]) (st2 (by decide) (by decide)) (st2 (by decide) (by decide)) (st2 (by decide) (by decide)) (st2 (by decide) (by decide)) (st2 (by decide) (by decide)) (st2 (by decide) (by decide)) (st2 (by decide) (by decide)) (st2 (by decide) (by decide)), iNam_congr hnam (st2 (by decide) (by decide)) (st2 (by decide) (by decide)) (st2 (by decide) (by decide))⟩, fun e he => ?_, ?_, Shown_congr hsh (fun c hc => st2 (by omega) (by omega))⟩
          · rw [hc, h1, h2, h3, hp]
            simp only [Option.bind_some, if_neg b1, if_neg hab, nm]
            rw [gd_nI (show 6 * a + b < 36 by omega) (by decide), gd_nI (show 6 * a + b < 36 by omega) (by decide), nI_clamp (by omega)]
          · rw [hm _ (by rw [st_c _ _ _ (by decide)]; exact e2), h1, h2, h3]
            simp only [Option.bind_some, if_neg b1, if_neg hab, nm, mul7]
            rw [gd_nI (show 7 * a + b < 49 by omega) (by decide), gd_nI (show 7 * a + b < 49 by omega) (by decide), nI_clamp (by omega), st_c _ _ _ (show 58 ≠ 3 by decide), (hdel a b ha hb).1]
          · intro a' b' ha' hb'
            rw [st_c _ _ _ (show 3 ≠ 58 by decide)]
            by_cases hca : a' = a ∧ b' = b
            · obtain ⟨rfl, rfl⟩ := hca
              rw [st_cc, st_cc]; exact ⟨rfl, d, hd1, hd5, rfl⟩
            · rw [st_ck _ _ (show 6 * a' + b' ≠ 6 * a + b by omega), st_ck _ _ (show 7 * a' + b' ≠ 7 * a + b by omega), st_c _ _ _ (show 58 ≠ 3 by decide)]; exact hdel a' b' ha' hb'
          · rw [st2 (by decide) (by decide), st2 (by decide) (by decide)]; exact hout e he
          · rw [st2 (by decide) (by decide)]; exact hlt
theorem or_256 {x : Int32} (hx : nat256 x) {y : Int32} (hy : nat256 y) : nat256 (x ||| y) := by
  obtain ⟨a, ha, rfl⟩ := hx
  obtain ⟨b, hb, rfl⟩ := hy
  refine ⟨a ||| b, Nat.or_lt_two_pow (n := 8) ha hb, ?_⟩
  apply Int32.toBitVec_inj.mp
  simp only [Int32.toBitVec_or, nI]
  show BitVec.ofNat 32 a ||| BitVec.ofNat 32 b = BitVec.ofNat 32 (a ||| b)
  apply BitVec.eq_of_toNat_eq
  simp [BitVec.toNat_or, BitVec.toNat_ofNat, Nat.or_mod_two_pow]
theorem shl_256 : ∀ u, u < 8 → nat256 ((1 : Int32) <<< (nI u &&& 31)) := by
  intro u hu
  rcases (show u = 0 ∨ u = 1 ∨ u = 2 ∨ u = 3 ∨ u = 4 ∨ u = 5 ∨ u = 6 ∨ u = 7 by omega) with rfl | rfl | rfl | rfl | rfl | rfl | rfl | rfl
  · exact ⟨1, by decide, by decide⟩
  · exact ⟨2, by decide, by decide⟩
  · exact ⟨4, by decide, by decide⟩
  · exact ⟨8, by decide, by decide⟩
  · exact ⟨16, by decide, by decide⟩
  · exact ⟨32, by decide, by decide⟩
  · exact ⟨64, by decide, by decide⟩
  · exact ⟨128, by decide, by decide⟩
theorem s_tell {M : Mem} (h : Inv M) (x y : Int32) : Both (fX6_tell x y M) (fX7_tell x y) := by
  obtain ⟨n, ne, T, nl, ⟨⟨hn2, hn6, e1, e2⟩, hbeh, hdel, hrum, hev, hnam⟩, hout, hlt, hsh⟩ := id h
  rcases vin_cases x (n := n) (by omega) with h0 | ⟨a, ha, rfl, h1⟩
  · exact Both.same (by unfold fX6_tell; rw [p_2has x e1, h0]; rfl) (by unfold fX7_tell; rw [p_isNode x (by omega) e2, h0]; rfl) h
  · rcases vin_cases y (n := 8) (by decide) with h0 | ⟨j, hj, rfl, h2⟩
    · exact Both.same (by unfold fX6_tell; rw [p_2has _ e1, p_isRum, h1, h0]; rfl) (by unfold fX7_tell; rw [p_isNode _ (by omega) e2, p_in8, h1, h0]; rfl) h
    · obtain ⟨hr1, hr2⟩ := hrum a ha
      have hv : nat256 (M 4 a ||| (1 : Int32) <<< (nI j &&& 31)) := or_256 hr2 (shl_256 j hj)
      obtain ⟨r, hr⟩ := bc_some (M 4 a ||| (1 : Int32) <<< (nI j &&& 31))
      have hb2 := bits_eq' hv
      refine ⟨r, st M 4 a (M 4 a ||| (1 : Int32) <<< (nI j &&& 31)), st (st M 4 a (M 4 a ||| (1 : Int32) <<< (nI j &&& 31))) 59 a (M 4 a ||| (1 : Int32) <<< (nI j &&& 31)), ?_, ?_, n, ne, T, nl, ⟨⟨hn2, hn6, by rw [st2 (by decide) (by decide)]; exact e1, by rw [st2 (by decide) (by decide)]; exact e2⟩, iBeh_congr hbeh (st2 (by decide) (by decide)) (st2 (by decide) (by decide)), iDel_congr hdel (st2 (by decide) (by decide)) (st2 (by decide) (by decide)), ?_, iEv_congr hev (st2 (by decide) (by decide)) (by rw [st2 (by decide) (by decide)]) (st2 (by decide) (by decide)) (st2 (by decide) (by decide)) (st2 (by decide) (by decide)) (st2 (by decide) (by decide)) (st2 (by decide) (by decide)) (st2 (by decide) (by decide)) (st2 (by decide) (by decide)) (st2 (by decide) (by decide)), iNam_congr hnam (st2 (by decide) (by decide)) (st2 (by decide) (by decide)) (st2 (by decide) (by decide))⟩, fun e he => ?_, ?_, Shown_congr hsh (fun c hc => st2 (by omega) (by omega))⟩
      · unfold fX6_tell
        rw [p_2has _ e1, p_isRum, h1, h2]
        simp only [Option.bind_some, if_neg b1, nm]
        rw [gd_nI (show a < 6 by omega) (by decide), gd_nI (show a < 6 by omega) (by decide), gd_nI (show a < 6 by omega) (by decide), nI_clamp (by omega), st_cc, hr]
        rfl
      · unfold fX7_tell
        rw [p_isNode _ (show n < 2 ^ 30 by omega) (by rw [st_c _ _ _ (by decide)]; exact e2), p_in8, h1, h2]
        simp only [Option.bind_some, if_neg b1, nm]
        rw [gd_nI (show a < 7 by omega) (by decide), gd_nI (show a < 7 by omega) (by decide), gd_nI (show a < 7 by omega) (by decide), nI_clamp (by omega), st_cc, st_c _ _ _ (show 59 ≠ 4 by decide), ← hr1, hb2, hr]
        rfl
      · intro c hc2
        rw [st_c _ _ _ (show 4 ≠ 59 by decide)]
        by_cases hca : c = a
        · subst hca; rw [st_cc, st_cc]; exact ⟨rfl, hv⟩
        · rw [st_ck _ _ hca, st_ck _ _ hca, st_c _ _ _ (show 59 ≠ 4 by decide)]; exact hrum c hc2
      · rw [st2 (by decide) (by decide), st2 (by decide) (by decide)]; exact hout e he
      · rw [st2 (by decide) (by decide)]; exact hlt
