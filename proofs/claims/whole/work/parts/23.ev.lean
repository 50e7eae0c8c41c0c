/-! ===== the schedule ===== -/
theorem cnt_congr {p q : Nat → Bool} : ∀ {n : Nat}, (∀ e, e < n → p e = q e) → cnt p n = cnt q n
  | 0, _ => rfl
  | n + 1, h => by
    unfold cnt
    rw [cnt_congr (n := n) (fun e he => h e (by omega)), h n (by omega)]
def sk (i e : Nat) : Nat := if e < i then e else e + 1
theorem cnt_skip {p : Nat → Bool} {i : Nat} : ∀ {n : Nat}, i ≤ n → cnt (fun e => p (sk i e)) n + (if p i then 1 else 0) = cnt p (n + 1)
  | 0, h => by
    have : i = 0 := by omega
    subst this
    simp [cnt]
  | n + 1, h => by
    rcases Nat.lt_or_ge n i with h1 | h1
    · have hi : i = n + 1 := by omega
      subst hi
      rw [cnt_congr (q := p) (fun e he => by simp only [sk, if_pos he])]
      rfl
    · have ih := cnt_skip (p := p) (i := i) (n := n) h1
      have e1 : cnt (fun e => p (sk i e)) (n + 1) = cnt (fun e => p (sk i e)) n + (if p (n + 1) then 1 else 0) := by
        show cnt (fun e => p (sk i e)) n + (if p (sk i n) then 1 else 0) = _
        rw [show sk i n = n + 1 by simp only [sk, if_neg (show ¬ n < i by omega)]]
      have e2 : cnt p (n + 1 + 1) = cnt p (n + 1) + (if p (n + 1) then 1 else 0) := rfl
      omega
theorem cnt_le {p : Nat → Bool} : ∀ (n : Nat), cnt p n ≤ n
  | 0 => Nat.le_refl 0
  | n + 1 => by
    have := cnt_le (p := p) n
    unfold cnt
    by_cases h : p n
    · rw [if_pos h]; omega
    · rw [if_neg h]; omega
theorem cnt_pos {p : Nat → Bool} {i n : Nat} (hi : i < n) (hp : p i = true) : 0 < cnt p n := by
  induction n with
  | zero => omega
  | succ n ih =>
    unfold cnt
    rcases Nat.lt_or_ge i n with h | h
    · have := ih h; omega
    · have : i = n := by omega
      subst this
      rw [hp]; simp
/-- the naming of event i is counted by dl -/
theorem p_cn {M : Mem} {n i : Nat} (dl : Int32) (hi : i < 20) (hok : EvOK n (M 6 i) (M 7 i) (M 8 i) (M 9 i)) : ∃ M', fX5_countNaming (nI i) dl M = some M' ∧ (∀ c, c ≠ 11 → M' c = M c) ∧ ∀ k, k < 1200 → M' 11 k = if nmg M k i then M 11 k + dl else M 11 k := by
  obtain ⟨kk, ww, ff, ss, h1, h2, h3, h4, h5, h6, h7, h8, -⟩ := hok
  unfold fX5_countNaming
  rw [gd_nI hi (by decide), gd_nI hi (by decide), gd_nI hi (by decide), nI_clamp (by omega)]
  unfold fX6_namesLetter
  by_cases c4 : M 6 i < 4
  · rw [if_pos c4]
    refine ⟨M, rfl, fun _ _ => rfl, fun k hk => ?_⟩
    rw [if_neg (by simp [nmg, c4])]
  · rw [if_neg c4]
    simp only [Option.bind_some, if_neg b1]
    have hl : fX6_isLetter (M 8 i) = some 1 := by rw [h3]; exact vin_in (n := 1200) h7 (by decide)
    rw [hl]
    simp only [Option.bind_some, if_neg b1, nm]
    rw [h3, gd_nI h7 (by decide), gd_nI h7 (by decide), nI_clamp (by omega)]
    refine ⟨_, rfl, fun c hc => st_c _ _ _ hc, fun k hk => ?_⟩
    by_cases hkf : k = ff
    · subst hkf
      rw [st_cc, if_pos (by simp [nmg, c4, h3])]
    · rw [st_ck _ _ hkf, if_neg]
      simp only [nmg, h3, decide_eq_true_eq]
      rintro ⟨-, e⟩
      exact hkf ((nI_eq (by omega) (by omega)).mp e).symm
