/-! ===== the rule, and what is kept of a turn ===== -/
theorem rule_sim {b n : Nat} {M N : Mem} (hN : iN n M N) (hB : iBeh n M N) (h : NS b n M N) : ∃ r, fX3_keepTheRule b M = some r ∧ fX7_isRule N = some r ∧ bool01 r := by
  obtain ⟨hn2, hn6, e1, e2⟩ := hN
  obtain ⟨s1, -⟩ := h
  have top : ∃ x y, loop fu (un2 fun (v1 : Int32) (v2 : Int32) => (if (M 1 0) ≤ v2 then (some (.inr v1)) else (gd v2 6 (nm (fun (v5 : Int32) => nm (v2 + (1 : Int32)) fun (v6 : Int32) => some (.inl (v5, v6))) fun j38 => if (M 2 (Int32.toNatClampNeg v2)) = 0 then (gd v2 6 (nm ((if v1 < (M (b + 7) (Int32.toNatClampNeg v2)) then (M (b + 7) (Int32.toNatClampNeg v2)) else v1)) fun (v9 : Int32) => j38 v9)) else (j38 v1))) : Option ((Int32 × Int32) ⊕ (Int32)))) ((0 : Int32), (0 : Int32)) = some x ∧ loop fu (un2 fun (v1 : Int32) (v2 : Int32) => (if (N 56 0) ≤ v2 then (some (.inr v1)) else (gd v2 7 (nm (fun (v5 : Int32) => nm (v2 + (1 : Int32)) fun (v6 : Int32) => some (.inl (v5, v6))) fun j41 => nm (fun (u7 : Unit) => j41 v1) fun j40 => if (N 57 (Int32.toNatClampNeg v2)) = 0 then (gd v2 7 (if (N 82 (Int32.toNatClampNeg v2)) ≤ v1 then (j40 ()) else (gd v2 7 (j41 (N 82 (Int32.toNatClampNeg v2)))))) else (j40 ()))) : Option ((Int32 × Int32) ⊕ (Int32)))) ((0 : Int32), (0 : Int32)) = some y ∧ x = y := by
    refine loop_two (P := fun i s t => s = t ∧ s.2 = nI i) (Q := fun b c => b = c) n ?_ ?_ fu 0 _ _ (by unfold fu; omega) (by omega) ⟨rfl, rfl⟩
    · rintro i ⟨v, w⟩ t hi ⟨rfl, hw⟩
      have hw' : w = nI i := hw
      subst hw'
      simp only [un2, nm, e1, e2, if_neg (nI_ge hi (show n < 2 ^ 31 by omega)), nI_1, gd_nI (show i < 6 by omega) (show 6 < 2 ^ 31 by decide), gd_nI (show i < 7 by omega) (show 7 < 2 ^ 31 by decide), nI_clamp (show i < 2 ^ 31 by omega), hB i hi, s1 i hi, max_le]
      by_cases c : N 57 i = 0
      · simp only [if_pos c]
        by_cases c2 : N 82 i ≤ v
        · simp only [if_pos c2]; exact ⟨_, _, rfl, rfl, rfl, rfl⟩
        · simp only [if_neg c2]; exact ⟨_, _, rfl, rfl, rfl, rfl⟩
      · simp only [if_neg c]; exact ⟨_, _, rfl, rfl, rfl, rfl⟩
    · rintro ⟨v, w⟩ t ⟨rfl, hw⟩
      have hw' : w = nI n := hw
      subst hw'
      simp only [un2, e1, e2, if_pos (nI_le (Nat.le_refl n) (show n < 2 ^ 31 by omega))]
      exact ⟨_, _, rfl, rfl, rfl⟩
  obtain ⟨x, y, t1, t2, rfl⟩ := top
  have cn : ∃ r, fX3_noLowerThan b (x - 1) M = some r ∧ loop fu (un2 fun (v13 : Int32) (v14 : Int32) => (if (N 56 0) ≤ v14 then (some (.inr v13)) else (gd v14 7 (nm (fun (v17 : Int32) => nm ((v13 + v17)) fun (v18 : Int32) => nm (v14 + (1 : Int32)) fun (v19 : Int32) => some (.inl (v18, v19))) fun j78 => if (N 82 (Int32.toNatClampNeg v14)) < (x - (1 : Int32)) then (j78 (0 : Int32)) else (j78 (1 : Int32)))) : Option ((Int32 × Int32) ⊕ (Int32)))) ((0 : Int32), (0 : Int32)) = some r := by
    unfold fX3_noLowerThan
    rw [bnd1]
    refine two_eq (loop_two (P := fun i s t => s = t ∧ s.2 = nI i) (Q := fun b c => b = c) n ?_ ?_ fu 0 _ _ (by unfold fu; omega) (by omega) ⟨rfl, rfl⟩)
    · rintro i ⟨v, w⟩ t hi ⟨rfl, hw⟩
      have hw' : w = nI i := hw
      subst hw'
      simp only [un2, nm, e1, e2, if_neg (nI_ge hi (show n < 2 ^ 31 by omega)), nI_1, gd_nI (show i < 6 by omega) (show 6 < 2 ^ 31 by decide), gd_nI (show i < 7 by omega) (show 7 < 2 ^ 31 by decide), nI_clamp (show i < 2 ^ 31 by omega), s1 i hi, Int32.add_zero]
      by_cases c : N 82 i < x - 1
      · simp only [if_pos c]; exact ⟨_, _, rfl, rfl, rfl, rfl⟩
      · simp only [if_neg c]; exact ⟨_, _, rfl, rfl, rfl, rfl⟩
    · rintro ⟨v, w⟩ t ⟨rfl, hw⟩
      have hw' : w = nI n := hw
      subst hw'
      simp only [un2, e1, e2, if_pos (nI_le (Nat.le_refl n) (show n < 2 ^ 31 by omega))]
      exact ⟨_, _, rfl, rfl, rfl⟩
  obtain ⟨r, r1, r2⟩ := cn
  unfold fX3_keepTheRule fX7_isRule
  rw [t1, t2]
  simp only [Option.bind_some, un1]
  rw [r2, r1]
  unfold fX2_isMoreThanHalf
  rw [e1, e2]
  simp only [Option.bind_some, un1, nm]
  by_cases c : x = 0
  · simp only [if_pos c]; exact ⟨_, rfl, rfl, Or.inr rfl⟩
  · simp only [if_neg c]
    by_cases c2 : 2 * r ≤ nI n
    · simp only [if_pos c2, Option.bind_some, if_pos rfl]; exact ⟨_, rfl, rfl, Or.inl rfl⟩
    · simp only [if_neg c2, Option.bind_some, if_neg b1]; exact ⟨_, rfl, rfl, Or.inr rfl⟩
/-- the reference's end of a turn -/
abbrev mEnd (x1 v33 : Int32) (M69 : Mem) : Option ((Int32 × Mem) ⊕ (Mem)) := (fX7_isRule M69).bind (fun (r70 : Int32) => gd (((60 : Int32) * x1) + v33) 120 (nm (st M69 72 (Int32.toNatClampNeg (((60 : Int32) * x1) + v33)) (vp_nar .boolean r70)) fun (M73 : Mem) => gd x1 2 (nm (fun (v75 : Int32) => gd x1 2 (nm (st M73 70 (Int32.toNatClampNeg x1) v75) fun (M77 : Mem) => nm (v33 + (1 : Int32)) fun (v78 : Int32) => some (.inl (v78, M77)))) fun j291 => nm (fun (u79 : Unit) => gd x1 2 (j291 (M73 70 (Int32.toNatClampNeg x1)))) fun j285 => if 0 ≤ (M73 70 (Int32.toNatClampNeg x1)) then (j285 ()) else ((fX7_isRule M73).bind (fun (r82 : Int32) => if r82 = 0 then (j291 v33) else (j285 ()))))))
def failv (x : Int32) : Prop := x = -1 ∨ ∃ u, u < 40 ∧ x = nI u
theorem NS_congr {b n : Nat} {M N M' N' : Mem} (h : NS b n M N) (e1 : M' (b + 7) = M (b + 7)) (e2 : M' (b + 8) = M (b + 8)) (e3 : M' (b + 9) = M (b + 9)) (e4 : M' (b + 11) = M (b + 11)) (e5 : M' (b + 6) = M (b + 6)) (f1 : N' 82 = N 82) (f2 : N' 83 = N 83) (f3 : N' 85 = N 85) (f4 : N' 84 = N 84) (f5 : N' 56 33 = N 56 33) : NS b n M' N' := by
  unfold NS at *; rw [e1, e2, e3, e4, e5, f1, f2, f3, f4, f5]; exact h
theorem rec_heights {b n t : Nat} {M : Mem} (hb : b = 12 ∨ b = 34) (hn6 : n ≤ 6) (ht : t < 40) (e1 : M 1 0 = nI n) : ∃ M', loop fu (un2 fun (v1 : Int32) (M2 : Mem) => (if (M2 1 0) ≤ v1 then (some (.inr M2)) else ((fX6_place (nI t) v1).bind (fun (r4 : Int32) => gd v1 6 (gd r4 240 (nm (st M2 (b + 20) (Int32.toNatClampNeg r4) (M2 (b + 7) (Int32.toNatClampNeg v1))) fun (M8 : Mem) => nm (v1 + (1 : Int32)) fun (v9 : Int32) => some (.inl (v9, M8)))))) : Option ((Int32 × Mem) ⊕ (Mem)))) ((0 : Int32), M) = some M' ∧ (∀ c, c ≠ b + 20 → M' c = M c) ∧ (∀ j, (j < 6 * t ∨ 6 * t + n ≤ j) → M' (b + 20) j = M (b + 20) j) ∧ ∀ a, a < n → M' (b + 20) (6 * t + a) = M (b + 7) a := by
  refine loop_one (P := fun p (s : Int32 × Mem) => s.1 = nI p ∧ (∀ c, c ≠ b + 20 → s.2 c = M c) ∧ (∀ j, (j < 6 * t ∨ 6 * t + p ≤ j) → s.2 (b + 20) j = M (b + 20) j) ∧ ∀ a, a < p → s.2 (b + 20) (6 * t + a) = M (b + 7) a) (Q := fun (M' : Mem) => (∀ c, c ≠ b + 20 → M' c = M c) ∧ (∀ j, (j < 6 * t ∨ 6 * t + n ≤ j) → M' (b + 20) j = M (b + 20) j) ∧ ∀ a, a < n → M' (b + 20) (6 * t + a) = M (b + 7) a) n ?_ ?_ fu 0 _ (by unfold fu; omega) (by omega) ⟨rfl, fun _ _ => rfl, fun _ _ => rfl, fun a ha => by omega⟩
  · rintro p ⟨v, M2⟩ hp ⟨hv, h2, h3, h4⟩
    have hv' : v = nI p := hv
    subst hv'
    dsimp only at h2 h3 h4
    have hq : fX6_place (nI t) (nI p) = some (nI (6 * t + p)) := by unfold fX6_place; rw [mul6]
    refine ⟨(nI (p + 1), st M2 (b + 20) (6 * t + p) (M2 (b + 7) p)), ?_, rfl, fun c hc => (st_c _ _ _ hc).trans (h2 c hc), fun j hj => ?_, fun a ha => ?_⟩
    · simp only [un2, nm, h2 1 (by omega), e1, if_neg (nI_ge hp (show n < 2 ^ 31 by omega)), hq, Option.bind_some, gd_nI (show p < 6 by omega) (show 6 < 2 ^ 31 by decide), gd_nI (show 6 * t + p < 240 by omega) (show 240 < 2 ^ 31 by decide), nI_clamp (show 6 * t + p < 2 ^ 31 by omega), nI_clamp (show p < 2 ^ 31 by omega), nI_1]
    · dsimp only; rw [st_ck _ _ (by omega)]; exact h3 j (by omega)
    · dsimp only
      by_cases c : a = p
      · subst c; rw [st_cc, h2 (b + 7) (by omega)]
      · rw [st_ck _ _ (by omega)]; exact h4 a (by omega)
  · rintro ⟨v, M2⟩ ⟨hv, h2, h3, h4⟩
    have hv' : v = nI n := hv
    subst hv'
    dsimp only at h2 h3 h4
    refine ⟨M2, ?_, h2, h3, h4⟩
    simp only [un2, h2 1 (by omega), e1, if_pos (nI_le (Nat.le_refl n) (show n < 2 ^ 31 by omega))]
theorem rec_sim {b k n t : Nat} {M N : Mem} (hb : b = 12 ∨ b = 34) (hk : k < 2) (ht : t < 40) (hN : iN n M N) (hB : iBeh n M N) (h : NS b n M N) (hf1 : M b 9 = N 70 k) (hf2 : failv (M b 9)) : ∃ M' N', fX4_keepRecord b (nI t) M = some M' ∧ mEnd (nI k) (nI t) N = some (.inl (nI (t + 1), N')) ∧ (∀ c, c ≠ b → c ≠ b + 20 → c ≠ b + 21 → M' c = M c) ∧ (∀ i, i ≠ 9 → M' b i = M b i) ∧ (∀ j, (j < 6 * t ∨ 6 * t + n ≤ j) → M' (b + 20) j = M (b + 20) j) ∧ (∀ a, a < n → M' (b + 20) (6 * t + a) = M (b + 7) a) ∧ (∀ j, j ≠ t → M' (b + 21) j = M (b + 21) j) ∧ M' (b + 21) t = N' 72 (60 * k + t) ∧ M' b 9 = N' 70 k ∧ failv (M' b 9) ∧ (¬ M b 9 = -1 → M' b 9 = M b 9) ∧ (∀ c, c ≠ 70 → c ≠ 72 → N' c = N c) ∧ (∀ i, i ≠ k → N' 70 i = N 70 i) ∧ ∀ i, i ≠ 60 * k + t → N' 72 i = N 72 i := by
  obtain ⟨hn2, hn6, e1, e2⟩ := id hN
  obtain ⟨M1, a1, a2, a3, a4⟩ := rec_heights (M := M) hb hn6 ht e1
  have hN1 : iN n M1 N := iN_congr hN (a2 1 (by omega)) rfl
  have hB1 : iBeh n M1 N := iBeh_congr hB (a2 2 (by omega)) rfl
  have hS1 : NS b n M1 N := NS_congr h (a2 _ (by omega)) (a2 _ (by omega)) (a2 _ (by omega)) (a2 _ (by omega)) (a2 _ (by omega)) rfl rfl rfl rfl rfl
  obtain ⟨r, r1, r2, r3⟩ := rule_sim hN1 hB1 hS1
  have hix : ((60 : Int32) * nI k) + nI t = nI (60 * k + t) := by rw [show (60 : Int32) = nI 60 from rfl, pk_mul, nI_add]
  have hN2 : iN n M1 (st N 72 (60 * k + t) r) := iN_congr hN1 rfl (by rw [st_c _ _ _ (show 56 ≠ 72 by decide)])
  have hB2 : iBeh n M1 (st N 72 (60 * k + t) r) := iBeh_congr hB1 rfl (st_c _ _ _ (by decide))
  have hS2 : NS b n M1 (st N 72 (60 * k + t) r) := NS_congr hS1 rfl rfl rfl rfl rfl (st_c _ _ _ (by decide)) (st_c _ _ _ (by decide)) (st_c _ _ _ (by decide)) (st_c _ _ _ (by decide)) (by rw [st_c _ _ _ (show 56 ≠ 72 by decide)])
  obtain ⟨r', r1', r2', -⟩ := rule_sim hN2 hB2 hS2
  have hrr : r' = r := Option.some.inj (r1'.symm.trans r1)
  rw [hrr] at r2'
  have hgk : ∀ {β : Type} (q : Option β), gd (nI k) 2 q = q := fun q => gd_nI hk (by decide)
  have hc9 : M1 b 9 = M b 9 := by rw [a2 b (by omega)]
  have hcls : fX4_keepRecord b (nI t) M = (if r = 0 then (if M b 9 = -1 then some (st (st M1 (b + 21) t r) b 9 (nI t)) else some (st M1 (b + 21) t r)) else some (st M1 (b + 21) t r)) := by
    unfold fX4_keepRecord
    rw [a1]
    simp only [Option.bind_some, un1, r1, nm, gd_nI ht (show 40 < 2 ^ 31 by decide), nI_clamp (show t < 2 ^ 31 by omega), nar01 r3, st_cc, st_c _ _ _ (show b ≠ b + 21 by omega), hc9]
  have hmod : mEnd (nI k) (nI t) N = some (.inl (nI (t + 1), st (st N 72 (60 * k + t) r) 70 k (if 0 ≤ N 70 k then N 70 k else if r = 0 then nI t else N 70 k))) := by
    unfold mEnd
    rw [r2]
    simp only [Option.bind_some, hix, gd_nI (show 60 * k + t < 120 by omega) (show 120 < 2 ^ 31 by decide), nI_clamp (show 60 * k + t < 2 ^ 31 by omega), nm, hgk, nI_clamp (show k < 2 ^ 31 by omega), nar01 r3, st_c _ _ _ (show 70 ≠ 72 by decide), r2', nI_1]
    by_cases c : 0 ≤ N 70 k
    · simp only [if_pos c]
    · simp only [if_neg c]
      by_cases c2 : r = 0
      · simp only [if_pos c2]
      · simp only [if_neg c2]
  have hneg : M b 9 = -1 ↔ ¬ 0 ≤ N 70 k := by
    rw [← hf1]
    rcases hf2 with h1 | ⟨u, hu, h1⟩
    · rw [h1]; exact ⟨fun _ => by decide, fun _ => rfl⟩
    · rw [h1]; exact ⟨fun h2 => absurd h2 (neg1_ne (by omega)), fun h2 => absurd (nI_pos' (by omega)) h2⟩
  -- the class's memory: with the failure v
  have main : ∀ (M' : Mem) (v : Int32), (∀ c, c ≠ b → M' c = st M1 (b + 21) t r c) → (∀ i, M' b i = if i = 9 then v else M b i) → v = (if 0 ≤ N 70 k then N 70 k else if r = 0 then nI t else N 70 k) → failv v → (¬ M b 9 = -1 → v = M b 9) → (∀ c, c ≠ b → c ≠ b + 20 → c ≠ b + 21 → M' c = M c) ∧ (∀ i, i ≠ 9 → M' b i = M b i) ∧ (∀ j, (j < 6 * t ∨ 6 * t + n ≤ j) → M' (b + 20) j = M (b + 20) j) ∧ (∀ a, a < n → M' (b + 20) (6 * t + a) = M (b + 7) a) ∧ (∀ j, j ≠ t → M' (b + 21) j = M (b + 21) j) ∧ M' (b + 21) t = st (st N 72 (60 * k + t) r) 70 k v 72 (60 * k + t) ∧ M' b 9 = st (st N 72 (60 * k + t) r) 70 k v 70 k ∧ failv (M' b 9) ∧ (¬ M b 9 = -1 → M' b 9 = M b 9) ∧ (∀ c, c ≠ 70 → c ≠ 72 → st (st N 72 (60 * k + t) r) 70 k v c = N c) ∧ (∀ i, i ≠ k → st (st N 72 (60 * k + t) r) 70 k v 70 i = N 70 i) ∧ ∀ i, i ≠ 60 * k + t → st (st N 72 (60 * k + t) r) 70 k v 72 i = N 72 i := by
    intro M' v w1 w2 w3 w4 w5
    refine ⟨fun c c1 c2 c3 => by rw [w1 c c1, st_c _ _ _ c3]; exact a2 c c2, fun i hi => by rw [w2, if_neg hi], fun j hj => by rw [w1 _ (by omega), st_c _ _ _ (show b + 20 ≠ b + 21 by omega)]; exact a3 j hj, fun a ha => by rw [w1 _ (by omega), st_c _ _ _ (show b + 20 ≠ b + 21 by omega)]; exact a4 a ha, fun j hj => by rw [w1 _ (by omega), st_ck _ _ hj, a2 _ (by omega)], by rw [w1 _ (by omega), st_cc, st_c _ _ _ (show 72 ≠ 70 by decide), st_cc], by rw [w2, if_pos rfl, st_cc], by rw [w2, if_pos rfl]; exact w4, fun hh => by rw [w2, if_pos rfl]; exact w5 hh, fun c c1 c2 => by rw [st_c _ _ _ c1, st_c _ _ _ c2], fun i hi => by rw [st_ck _ _ hi, st_c _ _ _ (show 70 ≠ 72 by decide)], fun i hi => by rw [st_c _ _ _ (show 72 ≠ 70 by decide), st_ck _ _ hi]⟩
  rw [hcls, hmod]
  by_cases c9 : M b 9 = -1
  · rw [if_neg (hneg.mp c9)]
    by_cases c0 : r = 0
    · rw [if_pos c0, if_pos c9, if_pos c0]
      refine ⟨_, _, rfl, rfl, main _ (nI t) (fun c hc => st_c _ _ _ hc) (fun i => ?_) (by rw [if_neg (hneg.mp c9), if_pos c0]) (Or.inr ⟨t, ht, rfl⟩) (fun h2 => absurd c9 h2)⟩
      by_cases e : i = 9
      · subst e; rw [st_cc, if_pos rfl]
      · rw [st_ck _ _ e, if_neg e, st_c _ _ _ (show b ≠ b + 21 by omega), a2 b (by omega)]
    · rw [if_neg c0, if_neg c0]
      refine ⟨_, _, rfl, rfl, main _ (N 70 k) (fun c hc => rfl) (fun i => ?_) (by rw [if_neg (hneg.mp c9), if_neg c0]) (by rw [← hf1]; exact hf2) (fun h2 => absurd c9 h2)⟩
      rw [st_c _ _ _ (show b ≠ b + 21 by omega), a2 b (by omega)]
      by_cases e : i = 9
      · subst e; rw [if_pos rfl]; exact hf1
      · rw [if_neg e]
  · have hge : 0 ≤ N 70 k := by
      by_cases hh : 0 ≤ N 70 k
      · exact hh
      · exact absurd (hneg.mpr hh) c9
    rw [if_pos hge]
    have hsame : (if r = 0 then (if M b 9 = -1 then some (st (st M1 (b + 21) t r) b 9 (nI t)) else some (st M1 (b + 21) t r)) else some (st M1 (b + 21) t r)) = some (st M1 (b + 21) t r) := by
      rw [if_neg c9]; split <;> rfl
    rw [hsame]
    refine ⟨_, _, rfl, rfl, main _ (N 70 k) (fun c hc => rfl) (fun i => ?_) (by rw [if_pos hge]) (by rw [← hf1]; exact hf2) (fun _ => hf1.symm)⟩
    rw [st_c _ _ _ (show b ≠ b + 21 by omega), a2 b (by omega)]
    by_cases e : i = 9
    · subst e; rw [if_pos rfl]; exact hf1
    · rw [if_neg e]
