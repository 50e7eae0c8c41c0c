/-! ===== pure: reading, guards, loops ===== -/
theorem st_cc (M : Mem) (c k : Nat) (v : Int32) : st M c k v c k = v := by simp [st, va_up, upd]
theorem st_ck (M : Mem) {c k k' : Nat} (v : Int32) (h : k' ≠ k) : st M c k v c k' = M c k' := by simp [st, va_up, upd, h]
theorem st_c (M : Mem) {c c' : Nat} (k : Nat) (v : Int32) (h : c' ≠ c) : st M c k v c' = M c' := by simp [st, va_up, h]
theorem gd_nI {β : Type} {j n : Nat} {k : Option β} (h : j < n) (hn : n < 2 ^ 31) : gd (nI j) n k = k := gd_in (vp_in_nI h hn)
theorem gd_0 {β : Type} {n : Nat} {k : Option β} (h : 0 < n) (hn : n < 2 ^ 31) : gd (0 : Int32) n k = k := gd_nI (j := 0) h hn
theorem cl_0 : (0 : Int32).toNatClampNeg = 0 := rfl
theorem loop_in {σ β : Type} {f : σ → Option (σ ⊕ β)} {s s' : σ} {n : Nat} (h : f s = some (.inl s')) : loop (n + 1) f s = loop n f s' := by simp [loop, h]
theorem loop_out {σ β : Type} {f : σ → Option (σ ⊕ β)} {s : σ} {b : β} {n : Nat} (h : f s = some (.inr b)) : loop (n + 1) f s = some b := by simp [loop, h]
theorem loop_gen {σ β : Type} {f : σ → Option (σ ⊕ β)} (P : Nat → σ → Prop) (Q : β → Prop) (hs : ∀ i s, P (i + 1) s → (∃ s', f s = some (.inl s') ∧ P i s') ∨ ∃ b, f s = some (.inr b) ∧ Q b) (h0 : ∀ s, P 0 s → ∃ b, f s = some (.inr b) ∧ Q b) : ∀ (N m : Nat) (s : σ), m < N → P m s → ∃ b, loop N f s = some b ∧ Q b := by
  intro N
  induction N with
  | zero => intro m s h; omega
  | succ N ih =>
    intro m s hN hP
    cases m with
    | zero =>
      obtain ⟨b, e, hQ⟩ := h0 s hP
      exact ⟨b, loop_out e, hQ⟩
    | succ m =>
      rcases hs m s hP with ⟨s', e, hP'⟩ | ⟨b, e, hQ⟩
      · obtain ⟨b, e2, hQ⟩ := ih m s' (by omega) hP'
        exact ⟨b, by rw [loop_in e]; exact e2, hQ⟩
      · exact ⟨b, loop_out e, hQ⟩
/-- a loop that counts i up to n -/
theorem loop_one {σ β : Type} {f : σ → Option (σ ⊕ β)} (P : Nat → σ → Prop) (Q : β → Prop) (n : Nat) (hs : ∀ i s, i < n → P i s → ∃ s', f s = some (.inl s') ∧ P (i + 1) s') (hx : ∀ s, P n s → ∃ b, f s = some (.inr b) ∧ Q b) : ∀ (N i : Nat) (s : σ), n - i < N → i ≤ n → P i s → ∃ b, loop N f s = some b ∧ Q b := by
  intro N
  induction N with
  | zero => intro i s h; omega
  | succ N ih =>
    intro i s hN hi hP
    rcases Nat.lt_or_ge i n with h | h
    · obtain ⟨s', e, hP'⟩ := hs i s h hP
      obtain ⟨b, e2, hQ⟩ := ih (i + 1) s' (by omega) (by omega) hP'
      exact ⟨b, by rw [loop_in e]; exact e2, hQ⟩
    · have hin : i = n := by omega
      subst hin
      obtain ⟨b, e, hQ⟩ := hx s hP
      exact ⟨b, loop_out e, hQ⟩
/-- two loops side by side -/
theorem loop_two {σ τ β γ : Type} {f : σ → Option (σ ⊕ β)} {g : τ → Option (τ ⊕ γ)} (P : Nat → σ → τ → Prop) (Q : β → γ → Prop) (n : Nat) (hs : ∀ i s t, i < n → P i s t → ∃ s' t', f s = some (.inl s') ∧ g t = some (.inl t') ∧ P (i + 1) s' t') (hx : ∀ s t, P n s t → ∃ b c, f s = some (.inr b) ∧ g t = some (.inr c) ∧ Q b c) : ∀ (N i : Nat) (s : σ) (t : τ), n - i < N → i ≤ n → P i s t → ∃ b c, loop N f s = some b ∧ loop N g t = some c ∧ Q b c := by
  intro N
  induction N with
  | zero => intro i s t h; omega
  | succ N ih =>
    intro i s t hN hi hP
    rcases Nat.lt_or_ge i n with h | h
    · obtain ⟨s', t', e, e', hP'⟩ := hs i s t h hP
      obtain ⟨b, c, e2, e3, hQ⟩ := ih (i + 1) s' t' (by omega) (by omega) hP'
      exact ⟨b, c, by rw [loop_in e]; exact e2, by rw [loop_in e']; exact e3, hQ⟩
    · have hin : i = n := by omega
      subst hin
      obtain ⟨b, c, e, e', hQ⟩ := hx s t hP
      exact ⟨b, c, loop_out e, loop_out e', hQ⟩
/-! ===== ranges ===== -/
def vin (x : Int32) (n : Nat) : Option Int32 := if x < 0 then some 0 else if nI n ≤ x then some 0 else some 1
theorem vin_neg {x : Int32} {n : Nat} (h : x < 0) : vin x n = some 0 := by unfold vin; rw [if_pos h]
theorem vin_big {x : Int32} {n : Nat} (h : nI n ≤ x) : vin x n = some 0 := by
  unfold vin
  by_cases c : x < 0
  · rw [if_pos c]
  · rw [if_neg c, if_pos h]
theorem vin_in {j n : Nat} (h : j < n) (hn : n < 2 ^ 31) : vin (nI j) n = some 1 := by
  unfold vin
  rw [if_neg (nI_pos (by omega)), if_neg (nI_ge h hn)]
theorem vin_cases (x : Int32) {n : Nat} (hn : n < 2 ^ 31) : vin x n = some 0 ∨ ∃ j, j < n ∧ x = nI j ∧ vin x n = some 1 := by
  rcases pk_ix x hn with h | h | ⟨j, hj, rfl⟩
  · exact Or.inl (vin_neg h)
  · exact Or.inl (vin_big h)
  · exact Or.inr ⟨j, hj, rfl, vin_in hj hn⟩
theorem sub1_lt {x : Int32} {m : Nat} (hm : m < 2 ^ 30) : nI m - 1 < x ↔ nI m ≤ x := by
  rw [Int32.lt_iff_toInt_lt, Int32.le_iff_toInt_le, nI_toInt (by omega), show (1 : Int32) = nI 1 from rfl, pk_sub_toInt hm (by decide)]
  omega
theorem p_in (x : Int32) {m : Nat} (hm : m < 2 ^ 30) : fX7_in x 0 (nI m - 1) = vin x m := by
  unfold fX7_in vin
  by_cases c : x < 0
  · rw [if_pos c, if_pos c]
  · rw [if_neg c, if_neg c]
    by_cases c2 : nI m ≤ x
    · rw [if_pos (sub1_lt hm |>.mpr c2), if_pos c2]
    · rw [if_neg (fun h => c2 (sub1_lt hm |>.mp h)), if_neg c2]
theorem p_gz (x : Int32) (m : Nat) : ((vin x m).bind fun r => gz r (some r)) = vin x m := by
  unfold vin
  by_cases c : x < 0
  · rw [if_pos c]; rfl
  · rw [if_neg c]
    by_cases c2 : nI m ≤ x
    · rw [if_pos c2]; rfl
    · rw [if_neg c2]; rfl
theorem p_isNode (x : Int32) {n : Nat} {M : Mem} (hn : n < 2 ^ 30) (h : M 56 0 = nI n) : fX7_isNode x M = vin x n := by
  unfold fX7_isNode
  rw [h, p_in x hn]
  exact p_gz x n
theorem p_2has (x : Int32) {n : Nat} {M : Mem} (h : M 1 0 = nI n) : fX2_has x M = vin x n := by
  unfold fX2_has vin; rw [h]
theorem p_5has (x : Int32) {n : Nat} {M : Mem} (h : M 5 0 = nI n) : fX5_has x M = vin x n := by
  unfold fX5_has vin; rw [h]
theorem p_1has (b : Nat) (x : Int32) {n : Nat} {M : Mem} (h : M (b + 12) 0 = nI n) : fX1_has b x M = vin x n := by
  unfold fX1_has vin; rw [h]
theorem p_4has (b : Nat) (x : Int32) {n : Nat} {M : Mem} (h : M b 8 = nI n) : fX4_hasTurn b x M = vin x n := by
  unfold fX4_hasTurn vin; rw [h]
theorem p_isTurn7 (x : Int32) {n : Nat} {M : Mem} (hn : n < 2 ^ 30) (h : M 65 0 = nI n) : fX7_isTurn x M = vin x n := by
  unfold fX7_isTurn
  rw [gd_0 (by decide) (by decide), cl_0, h, p_in x hn]
  exact p_gz x n
theorem ge_lt {x : Int32} {n : Nat} (hn : n < 2 ^ 31) : (nI n ≤ x) ↔ ¬ (x < nI n) := by
  rw [Int32.le_iff_toInt_le, Int32.lt_iff_toInt_lt]; omega
theorem bnd1 {α : Type} (o : Option α) : (o.bind (un1 fun (v : α) => some v)) = o := by cases o <;> rfl
theorem bnd2 {α : Type} (o : Option α) : (o.bind fun (v : α) => some v) = o := by cases o <;> rfl
theorem two_eq {α : Type} {o1 o2 : Option α} (h : ∃ b c, o1 = some b ∧ o2 = some c ∧ b = c) : ∃ r, o1 = some r ∧ o2 = some r := by
  obtain ⟨b, c, h1, h2, h3⟩ := h
  exact ⟨b, h1, by rw [h3]; exact h2⟩
theorem nI0_pos {T : Nat} (c : ¬ nI T = 0) : 0 < T := by
  rcases Nat.eq_zero_or_pos T with h | h
  · subst h; exact absurd rfl c
  · exact h
