/-! ===== a turn's third phase: heights grow ===== -/
abbrev mCnt (v1 : Int32) (M2 : Mem) : Option Int32 := loop fu (un2 fun (v4 : Int32) (v5 : Int32) => (if (M2 56 0) ≤ v5 then (some (.inr v4)) else (nm (fun (v7 : Int32) => nm ((v4 + v7)) fun (v8 : Int32) => nm (v5 + (1 : Int32)) fun (v9 : Int32) => some (.inl (v8, v9))) fun j53 => nm (fun (u10 : Unit) => j53 (1 : Int32)) fun j48 => if v5 = v1 then (j48 ()) else (gd (((7 : Int32) * v1) + v5) 49 (gd v1 7 (if (M2 84 (Int32.toNatClampNeg (((7 : Int32) * v1) + v5))) < (M2 82 (Int32.toNatClampNeg v1)) then (j53 (0 : Int32)) else (j48 ()))))) : Option ((Int32 × Int32) ⊕ (Int32)))) ((0 : Int32), (0 : Int32))
theorem cnt_sim {b n a : Nat} {M N : Mem} (hn6 : n ≤ 6) (ha : a < n) (e1 : M 1 0 = nI n) (e2 : N 56 0 = nI n) (h : NS b n M N) : ∃ r, fX3_thatShowedEnoughTo b (nI a) M = some r ∧ mCnt (nI a) N = some r := by
  obtain ⟨s1, s2, s3, s4, s5⟩ := h
  unfold fX3_thatShowedEnoughTo
  rw [bnd1]
  refine two_eq (loop_two (P := fun i s t => s = t ∧ s.2 = nI i) (Q := fun b c => b = c) n ?_ ?_ fu 0 _ _ (by unfold fu; omega) (by omega) ⟨rfl, rfl⟩)
  · rintro i ⟨v, w⟩ t hi ⟨rfl, hw⟩
    have hw' : w = nI i := hw
    subst hw'
    have hp : fX6_pair (nI a) (nI i) = some (nI (6 * a + i)) := by unfold fX6_pair; rw [mul6]
    simp only [un2, nm, e1, e2, if_neg (nI_ge hi (show n < 2 ^ 31 by omega)), nI_1, hp, Option.bind_some, gd_nI (show 6 * a + i < 36 by omega) (show 36 < 2 ^ 31 by decide), gd_nI (show a < 6 by omega) (show 6 < 2 ^ 31 by decide), gd_nI (show a < 7 by omega) (show 7 < 2 ^ 31 by decide), mul7, gd_nI (show 7 * a + i < 49 by omega) (show 49 < 2 ^ 31 by decide), nI_clamp (show 6 * a + i < 2 ^ 31 by omega), nI_clamp (show 7 * a + i < 2 ^ 31 by omega), nI_clamp (show a < 2 ^ 31 by omega), s4 a i ha hi, s1 a ha, Int32.add_zero]
    by_cases c : nI i = nI a
    · simp only [if_pos c]; exact ⟨_, _, rfl, rfl, rfl, rfl⟩
    · simp only [if_neg c]
      by_cases c2 : N 84 (7 * a + i) < N 82 a
      · simp only [if_pos c2]; exact ⟨_, _, rfl, rfl, rfl, rfl⟩
      · simp only [if_neg c2]; exact ⟨_, _, rfl, rfl, rfl, rfl⟩
  · rintro ⟨v, w⟩ t ⟨rfl, hw⟩
    have hw' : w = nI n := hw
    subst hw'
    simp only [un2, e1, e2, if_pos (nI_le (Nat.le_refl n) (show n < 2 ^ 31 by omega))]
    exact ⟨_, _, rfl, rfl, rfl⟩
def GrC (b : Nat) (M M' : Mem) : Prop := ∀ c, c ≠ b + 7 → c ≠ b + 10 → M' c = M c
def GrM (N N' : Mem) : Prop := ∀ c, c ≠ 82 → c ≠ 86 → N' c = N c
def GW (b n : Nat) (M N : Mem) : Prop := ∀ a, a < n → M (b + 10) a = N 86 a ∧ bool01 (M (b + 10) a)
theorem grow_sim {b n : Nat} {M N : Mem} (hb : b = 12 ∨ b = 34) (hN : iN n M N) (h : NS b n M N) : ∃ M' N', fX3_grow b M = some M' ∧ fX7_grow N = some N' ∧ NS b n M' N' ∧ GW b n M' N' ∧ GrC b M M' ∧ GrM N N' := by
  obtain ⟨hn2, hn6, e1, e2⟩ := hN
  unfold fX3_grow fX7_grow
  rw [bnd1, bnd1]
  refine loop_two (P := fun i (s t : Int32 × Mem) => s.1 = nI i ∧ t.1 = nI i ∧ NS b n s.2 t.2 ∧ GW b i s.2 t.2 ∧ GrC b M s.2 ∧ GrM N t.2) (Q := fun M' N' => NS b n M' N' ∧ GW b n M' N' ∧ GrC b M M' ∧ GrM N N') n ?_ ?_ fu 0 _ _ (by unfold fu; omega) (by omega) ⟨rfl, rfl, h, fun a ha => by omega, fun _ _ _ => rfl, fun _ _ _ => rfl⟩
  · rintro i ⟨v, M2⟩ ⟨w, N2⟩ hi ⟨hv, hw, hS, hG, hC, hM⟩
    have hv' : v = nI i := hv
    have hw' : w = nI i := hw
    subst hv'; subst hw'
    dsimp only at hS hG hC hM
    have c1 : M2 1 0 = nI n := by rw [hC 1 (by omega) (by omega)]; exact e1
    have d56 : N2 56 0 = nI n := by rw [hM 56 (by decide) (by decide)]; exact e2
    obtain ⟨s1, s2, s3, s4, s5⟩ := id hS
    obtain ⟨r, r1, r2⟩ := cnt_sim (a := i) hn6 hi c1 d56 hS
    have hg6 : ∀ {β : Type} (q : Option β), gd (nI i) 6 q = q := fun q => gd_nI (by omega) (by decide)
    have hg7 : ∀ {β : Type} (q : Option β), gd (nI i) 7 q = q := fun q => gd_nI (by omega) (by decide)
    have key : ∀ g, bool01 g → ∃ M' N', (if g = 0 then st M2 (b + 10) i g else st (st M2 (b + 10) i g) (b + 7) i (M2 (b + 7) i + 1)) = M' ∧ st (st N2 86 i g) 82 i (N2 82 i + (if g = 0 then 0 else 1)) = N' ∧ NS b n M' N' ∧ GW b (i + 1) M' N' ∧ GrC b M M' ∧ GrM N N' := by
      intro g hg
      refine ⟨_, _, rfl, rfl, ?_, ?_, ?_, ?_⟩
      · unfold NS
        refine ⟨fun a ha => ?_, fun a ha => ?_, fun a ha => ?_, fun a c ha hc => ?_, ?_⟩
        · by_cases c : g = 0
          · rw [if_pos c, if_pos c, st_c _ _ _ (show b + 7 ≠ b + 10 by omega), Int32.add_zero]
            by_cases e : a = i
            · subst e; rw [st_cc]; exact s1 a ha
            · rw [st_ck _ _ e, st_c _ _ _ (show 82 ≠ 86 by decide)]; exact s1 a ha
          · rw [if_neg c, if_neg c]
            by_cases e : a = i
            · subst e; rw [st_cc, st_cc, s1 a ha]
            · rw [st_ck _ _ e, st_ck _ _ e, st_c _ _ _ (show b + 7 ≠ b + 10 by omega), st_c _ _ _ (show 82 ≠ 86 by decide)]; exact s1 a ha
        · rw [st_c _ _ _ (show 83 ≠ 82 by decide), st_c _ _ _ (show 83 ≠ 86 by decide)]
          have : (if g = 0 then st M2 (b + 10) i g else st (st M2 (b + 10) i g) (b + 7) i (M2 (b + 7) i + 1)) (b + 8) = M2 (b + 8) := by
            by_cases c : g = 0
            · rw [if_pos c, st_c _ _ _ (show b + 8 ≠ b + 10 by omega)]
            · rw [if_neg c, st_c _ _ _ (show b + 8 ≠ b + 7 by omega), st_c _ _ _ (show b + 8 ≠ b + 10 by omega)]
          rw [this]; exact s2 a ha
        · rw [st_c _ _ _ (show 85 ≠ 82 by decide), st_c _ _ _ (show 85 ≠ 86 by decide)]
          have : (if g = 0 then st M2 (b + 10) i g else st (st M2 (b + 10) i g) (b + 7) i (M2 (b + 7) i + 1)) (b + 9) = M2 (b + 9) := by
            by_cases c : g = 0
            · rw [if_pos c, st_c _ _ _ (show b + 9 ≠ b + 10 by omega)]
            · rw [if_neg c, st_c _ _ _ (show b + 9 ≠ b + 7 by omega), st_c _ _ _ (show b + 9 ≠ b + 10 by omega)]
          rw [this]; exact s3 a ha
        · rw [st_c _ _ _ (show 84 ≠ 82 by decide), st_c _ _ _ (show 84 ≠ 86 by decide)]
          have : (if g = 0 then st M2 (b + 10) i g else st (st M2 (b + 10) i g) (b + 7) i (M2 (b + 7) i + 1)) (b + 11) = M2 (b + 11) := by
            by_cases c : g = 0
            · rw [if_pos c, st_c _ _ _ (show b + 11 ≠ b + 10 by omega)]
            · rw [if_neg c, st_c _ _ _ (show b + 11 ≠ b + 7 by omega), st_c _ _ _ (show b + 11 ≠ b + 10 by omega)]
          rw [this]; exact s4 a c ha hc
        · rw [st_c _ _ _ (show 56 ≠ 82 by decide), st_c _ _ _ (show 56 ≠ 86 by decide)]
          have : (if g = 0 then st M2 (b + 10) i g else st (st M2 (b + 10) i g) (b + 7) i (M2 (b + 7) i + 1)) (b + 6) = M2 (b + 6) := by
            by_cases c : g = 0
            · rw [if_pos c, st_c _ _ _ (show b + 6 ≠ b + 10 by omega)]
            · rw [if_neg c, st_c _ _ _ (show b + 6 ≠ b + 7 by omega), st_c _ _ _ (show b + 6 ≠ b + 10 by omega)]
          rw [this]; exact s5
      · intro a ha
        have : (if g = 0 then st M2 (b + 10) i g else st (st M2 (b + 10) i g) (b + 7) i (M2 (b + 7) i + 1)) (b + 10) = st M2 (b + 10) i g (b + 10) := by
          by_cases c : g = 0
          · rw [if_pos c]
          · rw [if_neg c, st_c _ _ _ (show b + 10 ≠ b + 7 by omega)]
        rw [this, st_c _ _ _ (show 86 ≠ 82 by decide)]
        by_cases e : a = i
        · subst e; rw [st_cc, st_cc]; exact ⟨rfl, hg⟩
        · rw [st_ck _ _ e, st_ck _ _ e]; exact hG a (by omega)
      · intro c a1 a2
        by_cases c0 : g = 0
        · rw [if_pos c0, st_c _ _ _ a2]; exact hC c a1 a2
        · rw [if_neg c0, st_c _ _ _ a1, st_c _ _ _ a2]; exact hC c a1 a2
      · intro c a1 a2
        rw [st_c _ _ _ a1, st_c _ _ _ a2]; exact hM c a1 a2
    have r2' : loop fu _ _ = some r := r2
    simp only [nm, d56, hg7, nI_clamp (show i < 2 ^ 31 by omega)] at r2'
    simp only [un2, nm, c1, d56, if_neg (nI_ge hi (show n < 2 ^ 31 by omega)), hg6, hg7, nI_clamp (show i < 2 ^ 31 by omega), nI_1, st_cc, nar0, nar1, st_c _ _ _ (show b + 7 ≠ b + 10 by omega), st_c _ _ _ (show 82 ≠ 86 by decide)]
    rw [r2']
    simp only [Option.bind_some, un1, r1]
    have fin0 : ∃ M' N', (some (.inl (nI (i + 1), st M2 (b + 10) i 0)) : Option ((Int32 × Mem) ⊕ Mem)) = some (.inl M') ∧ (some (.inl (nI (i + 1), st (st N2 86 i 0) 82 i (N2 82 i + 0))) : Option ((Int32 × Mem) ⊕ Mem)) = some (.inl N') ∧ M'.1 = nI (i + 1) ∧ N'.1 = nI (i + 1) ∧ NS b n M'.2 N'.2 ∧ GW b (i + 1) M'.2 N'.2 ∧ GrC b M M'.2 ∧ GrM N N'.2 := by
      obtain ⟨M', N', k1, k2, k3⟩ := key 0 (Or.inl rfl)
      rw [if_pos rfl] at k1 k2
      rw [k1, k2]
      exact ⟨_, _, rfl, rfl, rfl, rfl, k3⟩
    have fin1 : ∃ M' N', (some (.inl (nI (i + 1), st (st M2 (b + 10) i 1) (b + 7) i (M2 (b + 7) i + 1))) : Option ((Int32 × Mem) ⊕ Mem)) = some (.inl M') ∧ (some (.inl (nI (i + 1), st (st N2 86 i 1) 82 i (N2 82 i + 1))) : Option ((Int32 × Mem) ⊕ Mem)) = some (.inl N') ∧ M'.1 = nI (i + 1) ∧ N'.1 = nI (i + 1) ∧ NS b n M'.2 N'.2 ∧ GW b (i + 1) M'.2 N'.2 ∧ GrC b M M'.2 ∧ GrM N N'.2 := by
      obtain ⟨M', N', k1, k2, k3⟩ := key 1 (Or.inr rfl)
      rw [if_neg b1] at k1 k2
      rw [k1, k2]
      exact ⟨_, _, rfl, rfl, rfl, rfl, k3⟩
    rcases s3 i hi with ⟨u1, u2⟩ | ⟨u1, u2⟩
    · simp only [u1, u2, if_neg b1, if_pos rfl]
      unfold fX2_isMoreThanHalf
      rw [c1]
      by_cases c : 2 * r ≤ nI n
      · simp only [if_pos c, Option.bind_some, if_pos rfl]
        exact fin0
      · simp only [if_neg c, Option.bind_some, if_neg b1]
        exact fin1
    · simp only [u1, u2, if_neg b1, if_pos rfl]
      exact fin0
  · rintro ⟨v, M2⟩ ⟨w, N2⟩ ⟨hv, hw, hS, hG, hC, hM⟩
    have hv' : v = nI n := hv
    have hw' : w = nI n := hw
    subst hv'; subst hw'
    dsimp only at hS hG hC hM
    have c1 : M2 1 0 = nI n := by rw [hC 1 (by omega) (by omega)]; exact e1
    have d56 : N2 56 0 = nI n := by rw [hM 56 (by decide) (by decide)]; exact e2
    simp only [un2, c1, d56, if_pos (nI_le (Nat.le_refl n) (show n < 2 ^ 31 by omega))]
    exact ⟨_, _, rfl, rfl, hS, hG, hC, hM⟩
