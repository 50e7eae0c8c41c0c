/-! ===== one letter on both sides ===== -/
def SdM (k : Nat) (N N' : Mem) : Prop := (∀ c, c ≠ 66 → c ≠ 67 → ¬ (74 ≤ c ∧ c ≤ 81) → N' c = N c) ∧ (∀ i, i ≠ k → N' 66 i = N 66 i ∧ N' 67 i = N 67 i) ∧ (∀ c, 74 ≤ c → c ≤ 80 → ∀ i, (i < 1200 * k ∨ 1200 * k + 1200 ≤ i) → N' c i = N c i) ∧ ∀ i, (i < 7200 * k ∨ 7200 * k + 7200 ≤ i) → N' 81 i = N 81 i
def SdC (b : Nat) (M M' : Mem) : Prop := ∀ c, ¬ (b + 1 ≤ c ∧ c ≤ b + 5) → ¬ (b + 12 ≤ c ∧ c ≤ b + 19) → M' c = M c
theorem p_msend {n ne k l a c t d : Nat} {M N : Mem} (hk : k < 2) (hl : l < 1200) (ha : a < 6) (hc : c < 6) (ht : t < 40) (hd : d ≤ 5) (hr : evRel n ne M N) (h66 : N 66 k = nI l) (h58 : N 58 (7 * a + c) = nI d) : ∃ N', fX7_send (nI k) (nI t) (nI a) (nI c) N = some N' ∧ (((aL (N 56 10) l ∨ 0 < cnt (evq M 4 l) ne) ∧ N' 67 k = N 67 k + 1 ∧ N' 79 (1200 * k + l) = -1) ∨ (¬ (aL (N 56 10) l ∨ 0 < cnt (evq M 4 l) ne) ∧ N' 67 k = N 67 k ∧ N' 79 (1200 * k + l) = nI (t + d + lat M l ne))) ∧ N' 66 k = nI (l + 1) ∧ N' 74 (1200 * k + l) = nI a ∧ N' 75 (1200 * k + l) = nI c ∧ N' 76 (1200 * k + l) = nI t ∧ N' 77 (1200 * k + l) = hsv N a ∧ N' 78 (1200 * k + l) = N 83 a ∧ N' 80 (1200 * k + l) = 0 ∧ (∀ j, 1 ≤ j → j < 6 → N' 81 (6 * (1200 * k + l) + j) = nI (cnt (d5 M l j) ne)) ∧ SdM k N N' ∧ (∀ c', 74 ≤ c' → c' ≤ 80 → ∀ i, i ≠ 1200 * k + l → N' c' i = N c' i) ∧ ∀ i, (i < 6 * (1200 * k + l) ∨ 6 * (1200 * k + l) + 6 ≤ i) → N' 81 i = N 81 i := by
  obtain ⟨lk, hlk⟩ : ∃ lk, lk = 1200 * k + l := ⟨_, rfl⟩
  obtain ⟨v24, hv, he⟩ := send_eq (t := t) hk hl ha hc h66
  rw [← hlk] at he
  obtain ⟨S, hS⟩ : ∃ S, S = sN k l a c t N := ⟨_, rfl⟩
  have hS' : S = st (st (st (st (st (st (st (st N 66 k (nI (l + 1))) 74 lk (nI a)) 75 lk (nI c)) 76 lk (nI t)) 77 lk (hsv N a)) 78 lk (N 83 a)) 80 lk 0) 79 lk (nI (t + d)) := by
    rw [hS, hlk]; unfold sN; rw [h58, nI_add]
  have sc : ∀ c', c' ≠ 66 → ¬ (74 ≤ c' ∧ c' ≤ 80) → S c' = N c' := fun c' h1 h2 => by
    rw [hS', st_c _ _ _ (by omega), st_c _ _ _ (by omega), st_c _ _ _ (by omega), st_c _ _ _ (by omega), st_c _ _ _ (by omega), st_c _ _ _ (by omega), st_c _ _ _ (by omega), st_c _ _ _ (by omega)]
  have s66 : S 66 = upd (N 66) k (nI (l + 1)) := by rw [hS']; simp [st, va_up]
  have s74 : S 74 = upd (N 74) lk (nI a) := by rw [hS']; simp [st, va_up]
  have s75 : S 75 = upd (N 75) lk (nI c) := by rw [hS']; simp [st, va_up]
  have s76 : S 76 = upd (N 76) lk (nI t) := by rw [hS']; simp [st, va_up]
  have s77 : S 77 = upd (N 77) lk (hsv N a) := by rw [hS']; simp [st, va_up]
  have s78 : S 78 = upd (N 78) lk (N 83 a) := by rw [hS']; simp [st, va_up]
  have s79 : S 79 = upd (N 79) lk (nI (t + d)) := by rw [hS']; simp [st, va_up]
  have s80 : S 80 = upd (N 80) lk 0 := by rw [hS']; simp [st, va_up]
  rw [← hS] at he
  obtain ⟨Z, z1, z2, z3⟩ := p_zDbl (N := S) (show lk < 2400 by omega)
  have hrel : evRel n ne M Z := by
    obtain ⟨r1, r2, r3⟩ := hr
    refine ⟨?_, r2, fun e he2 => ?_⟩
    · rw [z2 56 (by decide), sc 56 (by decide) (by decide)]; exact r1
    · rw [z2 60 (by decide), sc 60 (by decide) (by decide), z2 62 (by decide), sc 62 (by decide) (by decide), z2 63 (by decide), sc 63 (by decide) (by decide), z2 64 (by decide), sc 64 (by decide) (by decide)]; exact r3 e he2
  obtain ⟨Y, y1, y2, y3, y4, y5⟩ := p_eLp (n := n) (ne := ne) (l := l) (lk := lk) (base := t + d) (v24 := v24) hrel hl (by omega) (by rcases hv with ⟨h, -⟩ | ⟨h, -⟩ <;> rw [h]; exact Or.inr rfl; exact Or.inl rfl) (by rw [z2 79 (by decide), s79]; simp [upd]) (fun j j1 j2 => by rw [z3, if_pos (by omega)])
  rw [z1] at he
  simp only [Option.bind_some, un1] at he
  rw [y1] at he
  simp only [Option.bind_some, un2] at he
  have yc : ∀ c', c' ≠ 66 → ¬ (74 ≤ c' ∧ c' ≤ 81) → Y c' = N c' := fun c' h1 h2 => by rw [y2 c' (by omega) (by omega), z2 c' (by omega), sc c' h1 (by omega)]
  have y66 : Y 66 = upd (N 66) k (nI (l + 1)) := by rw [y2 66 (by decide) (by decide), z2 66 (by decide), s66]
  have y74 : Y 74 = upd (N 74) lk (nI a) := by rw [y2 74 (by decide) (by decide), z2 74 (by decide), s74]
  have y75 : Y 75 = upd (N 75) lk (nI c) := by rw [y2 75 (by decide) (by decide), z2 75 (by decide), s75]
  have y76 : Y 76 = upd (N 76) lk (nI t) := by rw [y2 76 (by decide) (by decide), z2 76 (by decide), s76]
  have y77 : Y 77 = upd (N 77) lk (hsv N a) := by rw [y2 77 (by decide) (by decide), z2 77 (by decide), s77]
  have y78 : Y 78 = upd (N 78) lk (N 83 a) := by rw [y2 78 (by decide) (by decide), z2 78 (by decide), s78]
  have y80 : Y 80 = upd (N 80) lk 0 := by rw [y2 80 (by decide) (by decide), z2 80 (by decide), s80]
  have y79 : ∀ i, i ≠ lk → Y 79 i = N 79 i := fun i hi => by rw [y3, if_neg hi, z2 79 (by decide), s79]; simp [upd, hi]
  have y81 : ∀ i, (i < 6 * lk ∨ 6 * lk + 6 ≤ i) → Y 81 i = N 81 i := fun i hi => by rw [y5 i hi, z3, if_neg (by omega), sc 81 (by decide) (by decide)]
  -- the rows that both ends share
  have rows : ∀ W : Mem, (∀ c', c' ≠ 67 → c' ≠ 79 → W c' = Y c') → (∀ i, i ≠ k → W 67 i = N 67 i) → (∀ i, i ≠ lk → W 79 i = N 79 i) → W 66 k = nI (l + 1) ∧ W 74 lk = nI a ∧ W 75 lk = nI c ∧ W 76 lk = nI t ∧ W 77 lk = hsv N a ∧ W 78 lk = N 83 a ∧ W 80 lk = 0 ∧ (∀ j, 1 ≤ j → j < 6 → W 81 (6 * lk + j) = nI (cnt (d5 M l j) ne)) ∧ SdM k N W ∧ (∀ c', 74 ≤ c' → c' ≤ 80 → ∀ i, i ≠ lk → W c' i = N c' i) ∧ ∀ i, (i < 6 * lk ∨ 6 * lk + 6 ≤ i) → W 81 i = N 81 i := by
    intro W w1 w2 w3
    have wr : ∀ c', 74 ≤ c' → c' ≤ 80 → ∀ i, i ≠ lk → W c' i = N c' i := fun c' h1 h2 i hi => by
      by_cases e : c' = 79
      · subst e; exact w3 i hi
      · rw [w1 c' (by omega) e]
        rcases (show c' = 74 ∨ c' = 75 ∨ c' = 76 ∨ c' = 77 ∨ c' = 78 ∨ c' = 80 by omega) with rfl | rfl | rfl | rfl | rfl | rfl
        · rw [y74]; simp [upd, hi]
        · rw [y75]; simp [upd, hi]
        · rw [y76]; simp [upd, hi]
        · rw [y77]; simp [upd, hi]
        · rw [y78]; simp [upd, hi]
        · rw [y80]; simp [upd, hi]
    refine ⟨by rw [w1 66 (by decide) (by decide), y66]; simp [upd], by rw [w1 74 (by decide) (by decide), y74]; simp [upd], by rw [w1 75 (by decide) (by decide), y75]; simp [upd], by rw [w1 76 (by decide) (by decide), y76]; simp [upd], by rw [w1 77 (by decide) (by decide), y77]; simp [upd], by rw [w1 78 (by decide) (by decide), y78]; simp [upd], by rw [w1 80 (by decide) (by decide), y80]; simp [upd], fun j j1 j2 => by rw [w1 81 (by decide) (by decide)]; exact y4 j j1 j2, ⟨fun c' h1 h2 h3 => by rw [w1 c' h2 (by omega)]; exact yc c' h1 h3, fun i hi => ⟨by rw [w1 66 (by decide) (by decide), y66]; simp [upd, hi], w2 i hi⟩, fun c' h1 h2 i hi => wr c' h1 h2 i (by omega), fun i hi => by rw [w1 81 (by decide) (by decide)]; exact y81 i (by omega)⟩, wr, fun i hi => by rw [w1 81 (by decide) (by decide)]; exact y81 i hi⟩
  have n67 : Y 67 = N 67 := yc 67 (by decide) (by decide)
  rw [← hlk]
  by_cases hL : aL (N 56 10) l ∨ 0 < cnt (evq M 4 l) ne
  · have hv1 : v24 = 1 ∨ 0 < cnt (evq M 4 l) ne := by
      rcases hL with h | h
      · rcases hv with ⟨h1, -⟩ | ⟨-, h2⟩
        · exact Or.inl h1
        · exact absurd h h2
      · exact Or.inr h
    rw [if_pos hv1, if_neg b1] at he
    refine ⟨_, he, Or.inl ⟨hL, ?_, ?_⟩, rows _ (fun c' h1 h2 => by rw [st_c _ _ _ h1, st_c _ _ _ h2]) (fun i hi => by rw [st_ck _ _ hi, st_c _ _ _ (show 67 ≠ 79 by decide), n67]) (fun i hi => by rw [st_c _ _ _ (show 79 ≠ 67 by decide), st_ck _ _ hi]; exact y79 i hi)⟩
    · rw [st_cc, st_c _ _ _ (show 67 ≠ 79 by decide), n67]
    · rw [st_c _ _ _ (show 79 ≠ 67 by decide), st_cc]
  · have hv1 : ¬ (v24 = 1 ∨ 0 < cnt (evq M 4 l) ne) := fun h => by
      rcases h with h | h
      · rcases hv with ⟨-, h2⟩ | ⟨h1, -⟩
        · exact hL (Or.inl h2)
        · rw [h] at h1; exact b1 h1
      · exact hL (Or.inr h)
    rw [if_neg hv1, if_pos rfl] at he
    exact ⟨_, he, Or.inr ⟨hL, by rw [n67], by rw [y3, if_pos rfl]⟩, rows _ (fun _ _ _ => rfl) (fun i hi => by rw [n67]) y79⟩
