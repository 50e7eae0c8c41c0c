/-! ===== the relation between the class's memory and the reference's: M the memory whose class cells are meant, N the one whose reference cells are meant ===== -/
def cnt (p : Nat → Bool) : Nat → Nat
  | 0 => 0
  | k + 1 => cnt p k + (if p k then 1 else 0)
def nat256 (x : Int32) : Prop := ∃ r, r < 256 ∧ x = nI r
def bool01 (x : Int32) : Prop := x = 0 ∨ x = 1
def iN (n : Nat) (M N : Mem) : Prop := 2 ≤ n ∧ n ≤ 6 ∧ M 1 0 = nI n ∧ N 56 0 = nI n
def iBeh (n : Nat) (M N : Mem) : Prop := ∀ a, a < n → M 2 a = N 57 a
def iDel (n : Nat) (M N : Mem) : Prop := ∀ a c, a < n → c < n → M 3 (6 * a + c) = N 58 (7 * a + c) ∧ ∃ d, 1 ≤ d ∧ d ≤ 5 ∧ M 3 (6 * a + c) = nI d
def iRum (n : Nat) (M N : Mem) : Prop := ∀ a, a < n → M 4 a = N 59 a ∧ nat256 (M 4 a)
def EvOK (n : Nat) (k w f s : Int32) : Prop := ∃ kk ww ff ss : Nat, k = nI kk ∧ w = nI ww ∧ f = nI ff ∧ s = nI ss ∧ kk ≤ 6 ∧ ww < 40 ∧ ff < 1200 ∧ ss ≤ 5 ∧ (kk = 2 ∨ kk = 3 → ff < n) ∧ (kk = 5 ∨ kk = 6 → 1 ≤ ss)
def iEv (n ne : Nat) (M N : Mem) : Prop := M 5 0 = nI ne ∧ N 56 4 = nI ne ∧ ne ≤ 20 ∧ ∀ e, e < ne → M 6 e = N 60 e ∧ M 7 e = N 61 e ∧ M 8 e = N 62 e ∧ M 9 e = N 63 e ∧ EvOK n (M 6 e) (M 7 e) (M 8 e) (M 9 e)
/-- event e names letter k -/
def nmg (M : Mem) (k e : Nat) : Bool := decide (¬ M 6 e < 4 ∧ M 8 e = nI k)
def iNam (ne : Nat) (M : Mem) : Prop := ∀ k, k < 1200 → M 11 k = nI (cnt (nmg M k) ne)
def iOut (ne : Nat) (M N : Mem) : Prop := ∀ e, e < ne → M 10 e = N 64 e ∧ bool01 (M 10 e)
/-- settings and schedule -/
def Cfg (n ne : Nat) (M N : Mem) : Prop := iN n M N ∧ iBeh n M N ∧ iDel n M N ∧ iRum n M N ∧ iEv n ne M N ∧ iNam ne M
def iLet (b k nl : Nat) (M N : Mem) : Prop := ∀ j, j < nl → M (b + 13) j = N 74 (1200 * k + j) ∧ M (b + 14) j = N 75 (1200 * k + j) ∧ M (b + 15) j = N 76 (1200 * k + j) ∧ M (b + 16) j = N 77 (1200 * k + j) ∧ M (b + 17) j = N 78 (1200 * k + j) ∧ M (b + 18) j = N 79 (1200 * k + j) ∧ M (b + 19) j = N 80 (1200 * k + j) ∧ nat256 (M (b + 17) j)
/-- what is kept of a play of which t turns are over -/
def Rec (b k n t nl : Nat) (M N : Mem) : Prop := nl ≤ 1200 ∧ M (b + 12) 0 = nI nl ∧ N 66 k = nI nl ∧ iLet b k nl M N ∧ M (b + 12) 1 = N 67 k ∧ M b 10 = N 68 k ∧ M b 11 = N 69 k ∧ (∀ u a, u < t → a < n → M (b + 20) (6 * u + a) = N 71 (420 * k + (7 * u + a))) ∧ (∀ u, u < t → M (b + 21) u = N 72 (60 * k + u))
/-- the play that is shown -/
def Shown (n T nl : Nat) (M : Mem) : Prop := T ≤ 40 ∧ M 12 8 = nI T ∧ M 65 0 = nI T ∧ Rec 12 0 n T nl M M ∧ (0 < T → M 12 9 = M 70 0 ∧ ∀ a, a < n → M 20 a = M 73 a ∧ nat256 (M 20 a)) ∧ M 12 2 = 0 ∧ M 34 2 = 1
/-- the whole, between two calls -/
def InvA (n ne T nl : Nat) (M : Mem) : Prop := Cfg n ne M M ∧ (∀ e, e < 20 → (e < ne → M 10 e = 0) ∧ M 64 e = 0) ∧ M 56 10 = 0 ∧ Shown n T nl M
def Inv (M : Mem) : Prop := ∃ n ne T nl : Nat, InvA n ne T nl M
/-! ===== methods that only read ===== -/
theorem ite_some {α : Type} {c : Prop} {x : Decidable c} {a b : Option α} {r s : α} (h1 : c → a = some r) (h2 : ¬ c → b = some r) : @ite _ c x a b = some r := by
  by_cases h : c
  · rw [if_pos h]; exact h1 h
  · rw [if_neg h]; exact h2 h
theorem s_count {M : Mem} (h : Inv M) (x : Int32) : ∃ r, fX6_count x M = some r ∧ fX7_count x M = some r := by
  obtain ⟨n, ne, T, nl, ⟨⟨-, -, e1, e2⟩, -, -, -, ⟨e3, e4, -⟩, -⟩, -, -, -, e5, e6, ⟨-, e7, e8, -, e9, e10, e11, -⟩, -⟩ := h
  unfold fX6_count fX7_count
  simp only [gd_0 (show 0 < 2 by decide) (show 2 < 2 ^ 31 by decide), cl_0, e1, e2, e3, e4, e5, e6, e8, ← e9, ← e10, ← e11]
  have e7' : M 24 0 = nI nl := e7
  simp only [e7']
  have key : ∀ (a0 a1 a2 a3 a4 a5 a6 : Int32), ∃ r, (if x = 0 then some a0 else if x = 1 then some a1 else if x = 2 then some a2 else if x = 3 then some a3 else if x = 4 then some a4 else if x = 5 then some a5 else if x = 6 then some a6 else some (-2)) = some r := by
    intro a0 a1 a2 a3 a4 a5 a6
    repeat' first | exact ⟨_, rfl⟩ | split
  obtain ⟨r, hr⟩ := key (nI n) (nI ne) (nI T) (nI nl) (M 24 1) (M 12 10) (M 12 11)
  exact ⟨r, hr, hr⟩
theorem s_fails {M : Mem} (h : Inv M) : ∃ r, fX6_fails M = some r ∧ fX7_fails M = some r := by
  obtain ⟨n, ne, T, nl, -, -, -, hT, e5, e6, -, e7, -⟩ := h
  unfold fX6_fails fX7_fails
  rw [gd_0 (by decide) (by decide), gd_0 (by decide) (by decide), cl_0, e5, e6]
  by_cases c : nI T = 0
  · rw [if_pos c, if_pos c]; exact ⟨_, rfl, rfl⟩
  · rw [if_neg c, if_neg c]
    have hT0 : 0 < T := by
      rcases Nat.eq_zero_or_pos T with h | h
      · subst h; exact absurd rfl c
      · exact h
    exact ⟨_, rfl, by rw [(e7 hT0).1]⟩
theorem s_told {M : Mem} (h : Inv M) (x y : Int32) : ∃ r, fX6_told x y M = some r ∧ fX7_told x y M = some r := by
  obtain ⟨n, ne, T, nl, ⟨-, -, -, -, ⟨e3, e4, hne, he⟩, -⟩, -⟩ := h
  unfold fX6_told fX7_told
  rw [p_5has x e3, e4, p_in x (by omega)]
  rcases vin_cases x (n := ne) (by omega) with h0 | ⟨j, hj, rfl, h1⟩
  · rw [h0]; exact ⟨_, rfl, rfl⟩
  · rw [h1]
    obtain ⟨a1, a2, a3, a4, -⟩ := he j hj
    simp only [Option.bind_some, if_neg (show ¬ (1 : Int32) = 0 by decide), gd_nI (show j < 20 by omega) (show 20 < 2 ^ 31 by decide), nI_clamp (show j < 2 ^ 31 by omega), show (3 : Int32) = nI 4 - 1 from rfl, p_in y (show 4 < 2 ^ 30 by decide)]
    rcases vin_cases y (n := 4) (by omega) with h0 | ⟨i, hi, rfl, h2⟩
    · rw [h0]
      have hne' : ∀ i, i < 4 → ¬ y = nI i := fun i hi e => by subst e; rw [vin_in hi (by decide)] at h0; cases h0
      rw [if_neg (show ¬ y = 0 from hne' 0 (by decide)), if_neg (show ¬ y = 1 from hne' 1 (by decide)), if_neg (show ¬ y = 2 from hne' 2 (by decide)), if_neg (show ¬ y = nI 4 - 1 from hne' 3 (by decide))]
      exact ⟨_, rfl, rfl⟩
    · rw [h2]
      rcases (show i = 0 ∨ i = 1 ∨ i = 2 ∨ i = 3 by omega) with rfl | rfl | rfl | rfl
      · exact ⟨_, rfl, by rw [a1]; rfl⟩
      · exact ⟨_, rfl, by rw [a2]; rfl⟩
      · exact ⟨_, rfl, by rw [a3]; rfl⟩
      · exact ⟨_, rfl, by rw [a4]; rfl⟩
theorem mul6 (u a : Nat) : nI u * 6 + nI a = nI (6 * u + a) := by
  rw [show (6 : Int32) = nI 6 from rfl, pk_mul, nI_add, Nat.mul_comm]
theorem mul7 (u a : Nat) : 7 * nI u + nI a = nI (7 * u + a) := by
  rw [show (7 : Int32) = nI 7 from rfl, pk_mul, nI_add]
theorem b1 : ¬ (1 : Int32) = 0 := by decide
theorem s_height {M : Mem} (h : Inv M) (x y : Int32) : ∃ r, fX6_height x y M = some r ∧ fX7_height x y M = some r := by
  obtain ⟨n, ne, T, nl, ⟨⟨hn2, hn6, e1, e2⟩, -⟩, -, -, hT, e5, e6, ⟨-, -, -, -, -, -, -, hh, -⟩, -⟩ := h
  unfold fX6_height fX7_height
  rw [p_4has 12 x e5, p_isTurn7 x (by omega) e6]
  rcases vin_cases x (n := T) (by omega) with h0 | ⟨u, hu, rfl, h1⟩
  · rw [h0]; exact ⟨_, rfl, rfl⟩
  · rw [h1]
    simp only [Option.bind_some, if_neg b1]
    rw [p_2has y e1, p_isNode y (by omega) e2]
    rcases vin_cases y (n := n) (by omega) with h0 | ⟨a, ha, rfl, h2⟩
    · rw [h0]; exact ⟨_, rfl, rfl⟩
    · rw [h2]
      have hp : fX6_place (nI u) (nI a) = some (nI (6 * u + a)) := by unfold fX6_place; rw [mul6]
      simp only [Option.bind_some, if_neg b1, hp, mul7]
      rw [gd_nI (show 6 * u + a < 240 by omega) (by decide), gd_nI (show 7 * u + a < 840 by omega) (by decide), nI_clamp (show 6 * u + a < 2 ^ 31 by omega), nI_clamp (show 7 * u + a < 2 ^ 31 by omega)]
      refine ⟨_, rfl, ?_⟩
      have := hh u a hu ha
      simp only [Nat.mul_zero, Nat.zero_add] at this
      rw [← this]
theorem s_holds {M : Mem} (h : Inv M) (x : Int32) : ∃ r, fX6_holds x M = some r ∧ fX7_holds x M = some r := by
  obtain ⟨n, ne, T, nl, -, -, -, hT, e5, e6, ⟨-, -, -, -, -, -, -, -, hh⟩, -⟩ := h
  unfold fX6_holds fX7_holds
  rw [p_4has 12 x e5, p_isTurn7 x (by omega) e6]
  rcases vin_cases x (n := T) (by omega) with h0 | ⟨u, hu, rfl, h1⟩
  · rw [h0]; exact ⟨_, rfl, rfl⟩
  · rw [h1]
    have := hh u hu
    simp only [Nat.mul_zero, Nat.zero_add] at this
    simp only [Option.bind_some, if_neg b1]
    rw [gd_nI (show u < 40 by omega) (by decide), gd_nI (show u < 120 by omega) (by decide), nI_clamp (show u < 2 ^ 31 by omega), ← this]
    by_cases c : M 33 u = 0
    · rw [if_pos c]; exact ⟨_, rfl, rfl⟩
    · rw [if_neg c]; exact ⟨_, rfl, rfl⟩
theorem s_letter {M : Mem} (h : Inv M) (x y : Int32) : ∃ r, fX6_letter x y M = some r ∧ fX7_letter x y M = some r := by
  obtain ⟨n, ne, T, nl, -, -, -, hT, e5, e6, ⟨hnl, e7, e8, hl, -⟩, -⟩ := h
  unfold fX6_letter fX7_letter
  rw [gd_0 (by decide) (by decide), cl_0, p_1has 12 x e7, e8, p_in x (by omega)]
  rcases vin_cases x (n := nl) (by omega) with h0 | ⟨j, hj, rfl, h1⟩
  · rw [h0]; exact ⟨_, rfl, rfl⟩
  · rw [h1]
    obtain ⟨a1, a2, a3, a4, a5, a6, a7, -⟩ := hl j hj
    simp only [Nat.mul_zero, Nat.zero_add] at a1 a2 a3 a4 a5 a6 a7
    simp only [Option.bind_some, if_neg b1, gd_nI (show j < 1200 by omega) (show 1200 < 2 ^ 31 by decide), gd_nI (show j < 2400 by omega) (show 2400 < 2 ^ 31 by decide), nI_clamp (show j < 2 ^ 31 by omega), show (6 : Int32) = nI 7 - 1 from rfl, p_in y (show 7 < 2 ^ 30 by decide)]
    rcases vin_cases y (n := 7) (by omega) with h0 | ⟨i, hi, rfl, h2⟩
    · rw [h0]
      have hne' : ∀ i, i < 7 → ¬ y = nI i := fun i hi e => by subst e; rw [vin_in hi (by decide)] at h0; cases h0
      rw [if_neg (show ¬ y = 0 from hne' 0 (by decide)), if_neg (show ¬ y = 1 from hne' 1 (by decide)), if_neg (show ¬ y = 2 from hne' 2 (by decide)), if_neg (show ¬ y = 3 from hne' 3 (by decide)), if_neg (show ¬ y = 4 from hne' 4 (by decide)), if_neg (show ¬ y = 5 from hne' 5 (by decide)), if_neg (show ¬ y = nI 7 - 1 from hne' 6 (by decide))]
      exact ⟨_, rfl, rfl⟩
    · rw [h2]
      rcases (show i = 0 ∨ i = 1 ∨ i = 2 ∨ i = 3 ∨ i = 4 ∨ i = 5 ∨ i = 6 by omega) with rfl | rfl | rfl | rfl | rfl | rfl | rfl
      · exact ⟨_, rfl, by rw [← a1]; rfl⟩
      · exact ⟨_, rfl, by rw [← a2]; rfl⟩
      · exact ⟨_, rfl, by rw [← a3]; rfl⟩
      · exact ⟨_, rfl, by rw [← a4]; rfl⟩
      · exact ⟨_, rfl, by rw [← a5]; rfl⟩
      · exact ⟨_, rfl, by rw [← a6]; rfl⟩
      · exact ⟨_, rfl, by rw [← a7]; rfl⟩
theorem p_isRum (x : Int32) : fX6_isRumour x = vin x 8 := rfl
theorem p_in8 (x : Int32) : fX7_in x 0 7 = vin x 8 := p_in (m := 8) x (by decide)
theorem s_reached {M : Mem} (h : Inv M) (x : Int32) : ∃ r, fX6_reached x M = some r ∧ fX7_reached x M = some r := by
  obtain ⟨n, ne, T, nl, ⟨⟨hn2, hn6, e1, e2⟩, -⟩, -, -, hT, e5, e6, -, e7, -⟩ := h
  unfold fX6_reached fX7_reached
  rw [p_isRum, p_in8, gd_0 (by decide) (by decide), cl_0, e5, e6]
  rcases vin_cases x (n := 8) (by decide) with h0 | ⟨u, hu, rfl, h1⟩
  · rw [h0]; exact ⟨_, rfl, rfl⟩
  · rw [h1]
    simp only [Option.bind_some, if_neg b1]
    by_cases c : nI T = 0
    · rw [if_pos c, if_pos c]; exact ⟨_, rfl, rfl⟩
    · rw [if_neg c, if_neg c]
      have hT0 : 0 < T := by
        rcases Nat.eq_zero_or_pos T with h | h
        · subst h; exact absurd rfl c
        · exact h
      have hk := (e7 hT0).2
      unfold fX3_thatKnow
      rw [e1, e2]
      rw [bnd1, bnd1, bnd2]
      refine two_eq (loop_two (P := fun i s t => s = t ∧ s.2 = nI i) (Q := fun b c => b = c) n ?_ ?_ fu 0 _ _ (by unfold fu; omega) (by omega) ⟨rfl, rfl⟩)
      · rintro i ⟨v, w⟩ t hi ⟨rfl, hw⟩
        have hw' : w = nI i := hw
        subst hw'
        refine ⟨(v + (M (12 + 8) i >>> (nI u &&& 31) &&& 1), nI (i + 1)), _, ?_, ?_, rfl, rfl⟩
        · simp only [un2]
          rw [if_neg (nI_ge hi (by omega)), gd_nI (show i < 6 by omega) (by decide), nI_clamp (show i < 2 ^ 31 by omega)]
          simp only [nm, nI_1]
        · simp only [un2]
          rw [if_neg (nI_ge hi (by omega)), gd_nI (show i < 14 by omega) (by decide), nI_clamp (show i < 2 ^ 31 by omega)]
          simp only [nm, nI_1, ← (hk i hi).1]
      · rintro ⟨v, w⟩ t ⟨rfl, hw⟩
        have hw' : w = nI n := hw
        subst hw'
        refine ⟨v, v, ?_, ?_, rfl⟩ <;> · simp only [un2]; rw [if_pos (nI_le (Nat.le_refl _) (by omega))]
theorem bits_eq : ∀ r, r < 256 → fX7_bits (nI r) = fJ6_bitCount_0f7a4 (nI r) := by decide +kernel
theorem bits_eq' {x : Int32} (h : nat256 x) : fX7_bits x = fJ6_bitCount_0f7a4 x := by
  obtain ⟨r, hr, rfl⟩ := h
  exact bits_eq r hr
theorem bc_some (x : Int32) : ∃ r, fJ6_bitCount_0f7a4 x = some r := ⟨_, rfl⟩
theorem s_bytes {M : Mem} (h : Inv M) (x : Int32) : ∃ r, fX6_bytes x M = some r ∧ fX7_bytes x M = some r := by
  obtain ⟨n, ne, T, nl, ⟨⟨hn2, hn6, e1, e2⟩, -⟩, -, -, hT, e5, e6, ⟨hnl, e7, e8, hl, -⟩, -⟩ := h
  unfold fX6_bytes fX7_bytes
  simp only [p_2has x e1, p_isNode x (show n < 2 ^ 30 by omega) e2, gd_0 (show 0 < 2 by decide) (show 2 < 2 ^ 31 by decide), cl_0, e5, e6, e8]
  rcases vin_cases x (n := n) (by omega) with h0 | ⟨a, ha, rfl, h1⟩
  · rw [h0]; exact ⟨_, rfl, rfl⟩
  · rw [h1]
    simp only [Option.bind_some, if_neg b1]
    by_cases c : nI T = 0
    · rw [if_pos c, if_pos c]; exact ⟨_, rfl, rfl⟩
    · rw [if_neg c, if_neg c]
      unfold fX1_bytesFrom
      rw [bnd1, bnd1, bnd2]
      refine two_eq (loop_two (P := fun i s t => s = t ∧ s.2 = nI i) (Q := fun b c => b = c) nl ?_ ?_ fu 0 _ _ (by unfold fu; omega) (by omega) ⟨rfl, rfl⟩)
      · rintro i ⟨v, w⟩ t hi ⟨rfl, hw⟩
        have hw' : w = nI i := hw
        subst hw'
        obtain ⟨a1, -, -, -, a5, -, -, a8⟩ := hl i hi
        simp only [Nat.mul_zero, Nat.zero_add] at a1 a5
        obtain ⟨r, hr⟩ := bc_some (M (12 + 17) i)
        have hr2 : fX7_bits (M 78 i) = some r := by rw [← a5, bits_eq' a8]; exact hr
        simp only [un2, nm, e7, if_neg (nI_ge hi (show nl < 2 ^ 31 by omega)), gd_nI (show i < 1200 by omega) (show 1200 < 2 ^ 31 by decide), gd_nI (show i < 2400 by omega) (show 2400 < 2 ^ 31 by decide), nI_clamp (show i < 2 ^ 31 by omega), ← a1, hr, hr2, Option.bind_some, nI_1]
        by_cases c3 : M (12 + 13) i = nI a
        · simp only [if_pos c3]; exact ⟨_, _, rfl, rfl, rfl, rfl⟩
        · simp only [if_neg c3, Int32.add_zero]; exact ⟨_, _, rfl, rfl, rfl, rfl⟩
      · rintro ⟨v, w⟩ t ⟨rfl, hw⟩
        have hw' : w = nI nl := hw
        subst hw'
        simp only [un2, e7, if_pos (nI_le (Nat.le_refl nl) (show nl < 2 ^ 31 by omega))]
        exact ⟨_, _, rfl, rfl, rfl⟩
