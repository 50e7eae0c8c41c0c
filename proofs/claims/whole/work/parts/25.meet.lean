/-! ===== a turn's first phase: the events ===== -/
def upr (x y : Int32) : Prop := (x = 1 ∧ y = 0) ∨ (x = 0 ∧ y = 1)
/-- the nodes in a play -/
def NS (b n : Nat) (M N : Mem) : Prop := (∀ a, a < n → M (b + 7) a = N 82 a) ∧ (∀ a, a < n → M (b + 8) a = N 83 a ∧ nat256 (M (b + 8) a)) ∧ (∀ a, a < n → upr (M (b + 9) a) (N 85 a)) ∧ (∀ a c, a < n → c < n → M (b + 11) (6 * a + c) = N 84 (7 * a + c)) ∧ M (b + 6) 6 = N 56 33
theorem zero_c {b n a : Nat} {M : Mem} (hn : n ≤ 6) (ha : a < n) (h1 : M 1 0 = nI n) (hb : b = 12 ∨ b = 34) : ∃ M', fX3_forgetShown b (nI a) M = some M' ∧ (∀ c, c ≠ b + 11 → M' c = M c) ∧ ∀ j, M' (b + 11) j = if 6 * a ≤ j ∧ j < 6 * a + n then 0 else M (b + 11) j := by
  unfold fX3_forgetShown
  rw [bnd1]
  refine loop_one (P := fun p (s : Int32 × Mem) => s.1 = nI p ∧ (∀ c, c ≠ b + 11 → s.2 c = M c) ∧ ∀ j, s.2 (b + 11) j = if 6 * a ≤ j ∧ j < 6 * a + p then 0 else M (b + 11) j) (Q := fun (M' : Mem) => (∀ c, c ≠ b + 11 → M' c = M c) ∧ ∀ j, M' (b + 11) j = if 6 * a ≤ j ∧ j < 6 * a + n then 0 else M (b + 11) j) n ?_ ?_ fu 0 _ (by unfold fu; omega) (by omega) ⟨rfl, fun _ _ => rfl, fun j => by rw [if_neg (by omega)]⟩
  · rintro p ⟨v, M2⟩ hp ⟨hv, h2, h3⟩
    have hv' : v = nI p := hv
    subst hv'
    dsimp only at h2 h3
    have hq : fX6_pair (nI a) (nI p) = some (nI (6 * a + p)) := by unfold fX6_pair; rw [mul6]
    refine ⟨(nI (p + 1), st M2 (b + 11) (6 * a + p) 0), ?_, rfl, fun c hc => (st_c _ _ _ hc).trans (h2 c hc), fun j => ?_⟩
    · simp only [un2, nm, h2 1 (by omega), h1, if_neg (nI_ge hp (show n < 2 ^ 31 by omega)), hq, Option.bind_some, gd_nI (show 6 * a + p < 36 by omega) (show 36 < 2 ^ 31 by decide), nI_clamp (show 6 * a + p < 2 ^ 31 by omega), nI_1]
    · show st M2 (b + 11) (6 * a + p) 0 (b + 11) j = _
      by_cases c : j = 6 * a + p
      · subst c; rw [st_cc, if_pos (by omega)]
      · rw [st_ck _ _ c, h3 j]
        by_cases c2 : 6 * a ≤ j ∧ j < 6 * a + p
        · rw [if_pos c2, if_pos (by omega)]
        · rw [if_neg c2, if_neg (by omega)]
  · rintro ⟨v, M2⟩ ⟨hv, h2, h3⟩
    have hv' : v = nI n := hv
    subst hv'
    dsimp only at h2 h3
    refine ⟨M2, ?_, h2, h3⟩
    simp only [un2, h2 1 (by omega), h1, if_pos (nI_le (Nat.le_refl n) (show n < 2 ^ 31 by omega))]
theorem zero_m {a : Nat} {N : Mem} (ha : a < 7) : ∃ N', loop fu (un2 fun (v22 : Int32) (M23 : Mem) => (if (7 : Int32) ≤ v22 then (some (.inr M23)) else (gd (((7 : Int32) * nI a) + v22) 49 (nm (st M23 84 (Int32.toNatClampNeg (((7 : Int32) * nI a) + v22)) (0 : Int32)) fun (M26 : Mem) => nm (v22 + (1 : Int32)) fun (v27 : Int32) => some (.inl (v27, M26)))) : Option ((Int32 × Mem) ⊕ (Mem)))) ((0 : Int32), N) = some N' ∧ (∀ c, c ≠ 84 → N' c = N c) ∧ ∀ j, N' 84 j = if 7 * a ≤ j ∧ j < 7 * a + 7 then 0 else N 84 j := by
  refine loop_one (P := fun p (s : Int32 × Mem) => s.1 = nI p ∧ (∀ c, c ≠ 84 → s.2 c = N c) ∧ ∀ j, s.2 84 j = if 7 * a ≤ j ∧ j < 7 * a + p then 0 else N 84 j) (Q := fun (M' : Mem) => (∀ c, c ≠ 84 → M' c = N c) ∧ ∀ j, M' 84 j = if 7 * a ≤ j ∧ j < 7 * a + 7 then 0 else N 84 j) 7 ?_ ?_ fu 0 _ (by unfold fu; omega) (by omega) ⟨rfl, fun _ _ => rfl, fun j => by rw [if_neg (by omega)]⟩
  · rintro p ⟨v, M2⟩ hp ⟨hv, h2, h3⟩
    have hv' : v = nI p := hv
    subst hv'
    dsimp only at h2 h3
    refine ⟨(nI (p + 1), st M2 84 (7 * a + p) 0), ?_, rfl, fun c hc => (st_c _ _ _ hc).trans (h2 c hc), fun j => ?_⟩
    · simp only [un2, nm, mul7, if_neg (show ¬ (7 : Int32) ≤ nI p from nI_ge hp (by decide)), gd_nI (show 7 * a + p < 49 by omega) (show 49 < 2 ^ 31 by decide), nI_clamp (show 7 * a + p < 2 ^ 31 by omega), nI_1]
    · show st M2 84 (7 * a + p) 0 84 j = _
      by_cases c : j = 7 * a + p
      · subst c; rw [st_cc, if_pos (by omega)]
      · rw [st_ck _ _ c, h3 j]
        by_cases c2 : 7 * a ≤ j ∧ j < 7 * a + p
        · rw [if_pos c2, if_pos (by omega)]
        · rw [if_neg c2, if_neg (by omega)]
  · rintro ⟨v, M2⟩ ⟨hv, h2, h3⟩
    have hv' : v = nI 7 := hv
    subst hv'
    dsimp only at h2 h3
    exact ⟨M2, by simp only [un2]; rfl, h2, h3⟩
theorem p_hap {M : Mem} {i : Nat} (hi : i < 20) (x : Int32) : fX5_happensAt (nI i) x M = some (if M 10 i = 0 ∧ ¬ 3 < M 6 i ∧ M 7 i = x then 1 else 0) := by
  unfold fX5_happensAt fX6_isTimed
  rw [gd_nI hi (by decide), gd_nI hi (by decide), gd_nI hi (by decide), nI_clamp (by omega)]
  by_cases c1 : M 10 i = 0
  · rw [if_pos c1]
    by_cases c2 : 3 < M 6 i
    · rw [if_pos c2, if_neg (show ¬ (M 10 i = 0 ∧ ¬ 3 < M 6 i ∧ M 7 i = x) from fun h => h.2.1 c2)]; rfl
    · rw [if_neg c2]
      simp only [Option.bind_some, if_neg b1]
      by_cases c3 : M 7 i = x
      · rw [if_pos c3, if_pos ⟨c1, c2, c3⟩]
      · rw [if_neg c3, if_neg (show ¬ (M 10 i = 0 ∧ ¬ 3 < M 6 i ∧ M 7 i = x) from fun h => c3 h.2.2)]
  · rw [if_neg c1, if_neg (show ¬ (M 10 i = 0 ∧ ¬ 3 < M 6 i ∧ M 7 i = x) from fun h => c1 h.1)]
/-- what the first phase leaves -/
def MtC (b : Nat) (M M' : Mem) : Prop := ∀ c, c ≠ b + 6 → c ≠ b + 9 → c ≠ b + 11 → M' c = M c
def MtM (N N' : Mem) : Prop := (∀ c, c ≠ 56 → c ≠ 84 → c ≠ 85 → N' c = N c) ∧ ∀ k, k ≠ 33 → N' 56 k = N 56 k
/-- one event that happens now -/
theorem meet_one {b n kk ff : Nat} {M N : Mem} (hb : b = 12 ∨ b = 34) (hn6 : n ≤ 6) (h1 : M 1 0 = nI n) (hk : kk ≤ 3) (hf : kk = 2 ∨ kk = 3 → ff < n) (h : NS b n M N) : ∃ M', fX3_meet b (nI kk) (nI ff) M = some M' ∧ MtC b M M' ∧ ((kk = 0 ∧ NS b n M' (st N 56 33 (nI ff))) ∨ (kk = 1 ∧ NS b n M' (st N 56 33 0)) ∨ (kk = 2 ∧ NS b n M' (st N 85 ff 1)) ∨ (kk = 3 ∧ N 85 ff = 0 ∧ NS b n M' N) ∨ (kk = 3 ∧ ¬ N 85 ff = 0 ∧ ∃ N', loop fu (un2 fun (v22 : Int32) (M23 : Mem) => (if (7 : Int32) ≤ v22 then (some (.inr M23)) else (gd (((7 : Int32) * nI ff) + v22) 49 (nm (st M23 84 (Int32.toNatClampNeg (((7 : Int32) * nI ff) + v22)) (0 : Int32)) fun (M26 : Mem) => nm (v22 + (1 : Int32)) fun (v27 : Int32) => some (.inl (v27, M26)))) : Option ((Int32 × Mem) ⊕ (Mem)))) ((0 : Int32), st N 85 ff 0) = some N' ∧ NS b n M' N' ∧ (∀ c, c ≠ 84 → c ≠ 85 → N' c = N c))) := by
  obtain ⟨s1, s2, s3, s4, s5⟩ := id h
  rcases (show kk = 0 ∨ kk = 1 ∨ kk = 2 ∨ kk = 3 by omega) with rfl | rfl | rfl | rfl
  · refine ⟨st M (b + 6) 6 (nI ff), rfl, fun c c1 _ _ => st_c _ _ _ c1, Or.inl ⟨rfl, ?_⟩⟩
    unfold NS
    rw [st_c _ _ _ (show b + 7 ≠ b + 6 by omega), st_c _ _ _ (show b + 8 ≠ b + 6 by omega), st_c _ _ _ (show b + 9 ≠ b + 6 by omega), st_c _ _ _ (show b + 11 ≠ b + 6 by omega), st_cc, st_cc, st_c _ _ _ (show 82 ≠ 56 by decide), st_c _ _ _ (show 83 ≠ 56 by decide), st_c _ _ _ (show 84 ≠ 56 by decide), st_c _ _ _ (show 85 ≠ 56 by decide)]
    exact ⟨s1, s2, s3, s4, rfl⟩
  · refine ⟨st M (b + 6) 6 0, rfl, fun c c1 _ _ => st_c _ _ _ c1, Or.inr (Or.inl ⟨rfl, ?_⟩)⟩
    unfold NS
    rw [st_c _ _ _ (show b + 7 ≠ b + 6 by omega), st_c _ _ _ (show b + 8 ≠ b + 6 by omega), st_c _ _ _ (show b + 9 ≠ b + 6 by omega), st_c _ _ _ (show b + 11 ≠ b + 6 by omega), st_cc, st_cc, st_c _ _ _ (show 82 ≠ 56 by decide), st_c _ _ _ (show 83 ≠ 56 by decide), st_c _ _ _ (show 84 ≠ 56 by decide), st_c _ _ _ (show 85 ≠ 56 by decide)]
    exact ⟨s1, s2, s3, s4, rfl⟩
  · have hff := hf (Or.inl rfl)
    refine ⟨st M (b + 9) ff 0, ?_, fun c _ c1 _ => st_c _ _ _ c1, Or.inr (Or.inr (Or.inl ⟨rfl, ?_⟩))⟩
    · show (fX2_has (nI ff) M).bind _ = _
      rw [p_2has _ h1, vin_in hff (by omega)]
      simp only [Option.bind_some, if_neg b1, nm, nar0, gd_nI (show ff < 6 by omega) (show 6 < 2 ^ 31 by decide), nI_clamp (show ff < 2 ^ 31 by omega)]
    · unfold NS
      rw [st_c _ _ _ (show b + 7 ≠ b + 9 by omega), st_c _ _ _ (show b + 8 ≠ b + 9 by omega), st_c _ _ _ (show b + 6 ≠ b + 9 by omega), st_c _ _ _ (show b + 11 ≠ b + 9 by omega), st_c _ _ _ (show 82 ≠ 85 by decide), st_c _ _ _ (show 83 ≠ 85 by decide), st_c _ _ _ (show 84 ≠ 85 by decide), st_c _ _ _ (show 56 ≠ 85 by decide)]
      refine ⟨s1, s2, fun a ha => ?_, s4, s5⟩
      by_cases c : a = ff
      · subst c; rw [st_cc, st_cc]; exact Or.inr ⟨rfl, rfl⟩
      · rw [st_ck _ _ c, st_ck _ _ c]; exact s3 a ha
  · have hff := hf (Or.inr rfl)
    have hm : fX3_meet b 3 (nI ff) M = if M (b + 9) ff = 0 then (fX3_forgetShown b (nI ff) (st M (b + 9) ff 1)).bind (fun M12 => some M12) else some M := by
      show (fX2_has (nI ff) M).bind _ = _
      rw [p_2has _ h1, vin_in hff (by omega)]
      simp only [Option.bind_some, if_neg b1, nm, nar1, gd_nI (show ff < 6 by omega) (show 6 < 2 ^ 31 by decide), nI_clamp (show ff < 2 ^ 31 by omega)]
    rcases s3 ff hff with ⟨u1, u2⟩ | ⟨u1, u2⟩
    · refine ⟨M, ?_, fun c _ _ _ => rfl, Or.inr (Or.inr (Or.inr (Or.inl ⟨rfl, u2, h⟩)))⟩
      show fX3_meet b 3 (nI ff) M = _
      rw [hm, u1, if_neg b1]
    · obtain ⟨M', z1, z2, z3⟩ := zero_c (M := st M (b + 9) ff 1) hn6 hff (by rw [st_c _ _ _ (show 1 ≠ b + 9 by omega)]; exact h1) hb
      obtain ⟨N', y1, y2, y3⟩ := zero_m (a := ff) (N := st N 85 ff 0) (by omega)
      refine ⟨M', ?_, fun c c1 c2 c3 => by rw [z2 c c3, st_c _ _ _ c2], Or.inr (Or.inr (Or.inr (Or.inr ⟨rfl, by rw [u2]; exact b1, N', y1, ?_, fun c c1 c2 => by rw [y2 c c1, st_c _ _ _ c2]⟩)))⟩
      · show fX3_meet b 3 (nI ff) M = _
        rw [hm, if_pos u1, z1]; rfl
      · unfold NS
        rw [z2 _ (show b + 7 ≠ b + 11 by omega), z2 _ (show b + 8 ≠ b + 11 by omega), z2 _ (show b + 9 ≠ b + 11 by omega), z2 _ (show b + 6 ≠ b + 11 by omega), y2 _ (show 82 ≠ 84 by decide), y2 _ (show 83 ≠ 84 by decide), y2 _ (show 85 ≠ 84 by decide), y2 _ (show 56 ≠ 84 by decide), st_c _ _ _ (show b + 7 ≠ b + 9 by omega), st_c _ _ _ (show b + 8 ≠ b + 9 by omega), st_c _ _ _ (show b + 6 ≠ b + 9 by omega), st_c _ _ _ (show 82 ≠ 85 by decide), st_c _ _ _ (show 83 ≠ 85 by decide), st_c _ _ _ (show 56 ≠ 85 by decide)]
        refine ⟨s1, s2, fun a ha => ?_, fun a c ha hc => ?_, s5⟩
        · by_cases c : a = ff
          · subst c; rw [st_cc, st_cc]; exact Or.inl ⟨rfl, rfl⟩
          · rw [st_ck _ _ c, st_ck _ _ c]; exact s3 a ha
        · rw [z3, y3, st_c _ _ _ (show b + 11 ≠ b + 9 by omega), st_c _ _ _ (show 84 ≠ 85 by decide)]
          by_cases c2 : a = ff
          · subst c2; rw [if_pos (by omega), if_pos (by omega)]
          · rw [if_neg (by omega), if_neg (by omega)]; exact s4 a c ha hc
/-! the schedule of the class and the one of the reference: what is left out may still stand in the class's -/
def evm (M N : Mem) (e e' : Nat) : Prop := M 6 e = N 60 e' ∧ M 7 e = N 61 e' ∧ M 8 e = N 62 e' ∧ M 9 e = N 63 e' ∧ M 10 e = N 64 e'
def SubD (M N : Mem) (a a' : Nat) : Nat → Nat → Prop
  | 0, e' => e' = a'
  | d + 1, e' => (¬ M 10 (a + d) = 0 ∧ SubD M N a a' d e') ∨ ∃ x, e' = x + 1 ∧ evm M N (a + d) x ∧ SubD M N a a' d x
def Sub (M N : Mem) (a a' e e' : Nat) : Prop := ∃ d, e = a + d ∧ SubD M N a a' d e'
theorem Sub.nil {M N : Mem} {a a' : Nat} : Sub M N a a' a a' := ⟨0, rfl, rfl⟩
theorem Sub.skip {M N : Mem} {a a' e e' : Nat} (h : Sub M N a a' e e') (h2 : ¬ M 10 e = 0) : Sub M N a a' (e + 1) e' := by
  obtain ⟨d, rfl, h⟩ := h
  exact ⟨d + 1, rfl, Or.inl ⟨h2, h⟩⟩
theorem Sub.both {M N : Mem} {a a' e e' : Nat} (h : Sub M N a a' e e') (h2 : evm M N e e') : Sub M N a a' (e + 1) (e' + 1) := by
  obtain ⟨d, rfl, h⟩ := h
  exact ⟨d + 1, rfl, Or.inr ⟨e', rfl, h2, h⟩⟩
theorem Sub.ind {M N : Mem} {a a' : Nat} {motive : ∀ e e' : Nat, Sub M N a a' e e' → Prop} (nil : motive a a' Sub.nil) (skip : ∀ {e e' : Nat} (h : Sub M N a a' e e') (h2 : ¬ M 10 e = 0), motive e e' h → motive (e + 1) e' (Sub.skip h h2)) (both : ∀ {e e' : Nat} (h : Sub M N a a' e e') (h2 : evm M N e e'), motive e e' h → motive (e + 1) (e' + 1) (Sub.both h h2)) {e e' : Nat} (h : Sub M N a a' e e') : motive e e' h := by
  obtain ⟨d, rfl, h⟩ := id h
  revert e'
  induction d with
  | zero =>
    intro e' h1 h0
    have h2 : e' = a' := h1
    subst h2
    exact nil
  | succ d ih =>
    intro e' h1 h0
    rcases h1 with ⟨g1, g2⟩ | ⟨x, rfl, g1, g2⟩
    · exact skip ⟨d, rfl, g2⟩ g1 (ih g2 ⟨d, rfl, g2⟩)
    · exact both ⟨d, rfl, g2⟩ g1 (ih g2 ⟨d, rfl, g2⟩)
theorem Sub.cases {M N : Mem} {a a' e e' : Nat} (h : Sub M N a a' (e + 1) e') (ha : a ≤ e) : (¬ M 10 e = 0 ∧ Sub M N a a' e e') ∨ ∃ x, e' = x + 1 ∧ evm M N e x ∧ Sub M N a a' e x := by
  obtain ⟨d, h1, h2⟩ := h
  cases d with
  | zero => omega
  | succ d =>
    have : e = a + d := by omega
    subst this
    rcases h2 with ⟨g1, g2⟩ | ⟨x, rfl, g1, g2⟩
    · exact Or.inl ⟨g1, d, rfl, g2⟩
    · exact Or.inr ⟨x, rfl, g1, d, rfl, g2⟩
theorem Sub.congr {M N M' N' : Mem} {a a' e e' : Nat} (h : Sub M N a a' e e') (hm : ∀ c, 6 ≤ c → c ≤ 10 → ∀ i, a ≤ i → i < e → M' c i = M c i) (hn : ∀ c, 60 ≤ c → c ≤ 64 → ∀ i, a' ≤ i → i < e' → N' c i = N c i) : a ≤ e ∧ a' ≤ e' ∧ Sub M' N' a a' e e' := by
  induction h using Sub.ind with
  | nil => exact ⟨Nat.le_refl _, Nat.le_refl _, .nil⟩
  | skip h1 h2 ih =>
    obtain ⟨i1, i2, i3⟩ := ih (fun c c1 c2 i i1 i2 => hm c c1 c2 i i1 (by omega)) hn
    exact ⟨by omega, i2, .skip i3 (by rw [hm 10 (by decide) (by decide) _ i1 (by omega)]; exact h2)⟩
  | both h1 h2 ih =>
    obtain ⟨i1, i2, i3⟩ := ih (fun c c1 c2 i i1 i2 => hm c c1 c2 i i1 (by omega)) (fun c c1 c2 i i1 i2 => hn c c1 c2 i i1 (by omega))
    obtain ⟨m1, m2, m3, m4, m5⟩ := h2
    refine ⟨by omega, by omega, .both i3 ⟨?_, ?_, ?_, ?_, ?_⟩⟩
    · rw [hm 6 (by decide) (by decide) _ i1 (by omega), hn 60 (by decide) (by decide) _ i2 (by omega)]; exact m1
    · rw [hm 7 (by decide) (by decide) _ i1 (by omega), hn 61 (by decide) (by decide) _ i2 (by omega)]; exact m2
    · rw [hm 8 (by decide) (by decide) _ i1 (by omega), hn 62 (by decide) (by decide) _ i2 (by omega)]; exact m3
    · rw [hm 9 (by decide) (by decide) _ i1 (by omega), hn 63 (by decide) (by decide) _ i2 (by omega)]; exact m4
    · rw [hm 10 (by decide) (by decide) _ i1 (by omega), hn 64 (by decide) (by decide) _ i2 (by omega)]; exact m5
theorem Sub.cg {M N M' N' : Mem} {a a' e e' : Nat} (h : Sub M N a a' e e') (hm : ∀ c, 6 ≤ c → c ≤ 10 → M' c = M c) (hn : ∀ c, 60 ≤ c → c ≤ 64 → N' c = N c) : Sub M' N' a a' e e' := (h.congr (fun c c1 c2 i _ _ => by rw [hm c c1 c2]) (fun c c1 c2 i _ _ => by rw [hn c c1 c2])).2.2
theorem Sub.le {M N : Mem} {a a' e e' : Nat} (h : Sub M N a a' e e') : a ≤ e ∧ a' ≤ e' ∧ e' - a' ≤ e - a := by
  induction h using Sub.ind with
  | nil => omega
  | skip h1 h2 ih => omega
  | both h1 h2 ih => omega
theorem Sub.pre {M N : Mem} : ∀ (e : Nat), (∀ i, i < e → evm M N i i) → Sub M N 0 0 e e
  | 0, _ => .nil
  | e + 1, h => .both (Sub.pre e (fun i hi => h i (by omega))) (h e (by omega))
theorem Sub.tr {M N : Mem} {a a' e e' z z' : Nat} (h1 : Sub M N a a' e e') (h : Sub M N e e' z z') : Sub M N a a' z z' := by
  induction h using Sub.ind with
  | nil => exact h1
  | skip _ h2 ih => exact .skip ih h2
  | both _ h2 ih => exact .both ih h2
/-- each event of the reference stands in the class -/
theorem Sub.ex {M N : Mem} {a a' e e' : Nat} (h : Sub M N a a' e e') : ∀ i, a' ≤ i → i < e' → ∃ j, a ≤ j ∧ j < e ∧ evm M N j i := by
  induction h using Sub.ind with
  | nil => intro i h1 h2; omega
  | skip h1 h2 ih =>
    intro i g1 g2
    obtain ⟨j, j1, j2, j3⟩ := ih i g1 g2
    exact ⟨j, j1, by omega, j3⟩
  | @both x x' h1 h2 ih =>
    intro i g1 g2
    rcases Nat.lt_or_ge i x' with h | h
    · obtain ⟨j, j1, j2, j3⟩ := ih i g1 h
      exact ⟨j, j1, by omega, j3⟩
    · have : i = x' := by omega
      subst this
      exact ⟨x, h1.le.1, by omega, h2⟩
def EvS (n ne ne' : Nat) (M N : Mem) : Prop := M 5 0 = nI ne ∧ ne ≤ 20 ∧ (∀ e, e < ne → EvOK n (M 6 e) (M 7 e) (M 8 e) (M 9 e)) ∧ N 56 4 = nI ne' ∧ ne' ≤ ne ∧ Sub M N 0 0 ne ne' ∧ iNam ne M
theorem loop_sub {f g : Int32 × Mem → Option ((Int32 × Mem) ⊕ Mem)} {Ms Ns M N : Mem} (P : Mem → Mem → Prop) {ne ne' F : Nat} (hsub : Sub Ms Ns 0 0 ne ne') (hskip : ∀ e M2 N2, e < ne → ¬ Ms 10 e = 0 → P M2 N2 → f (nI e, M2) = some (.inl (nI (e + 1), M2))) (hboth : ∀ e e' M2 N2, e < ne → e' < ne' → evm Ms Ns e e' → P M2 N2 → ∃ M3 N3, f (nI e, M2) = some (.inl (nI (e + 1), M3)) ∧ g (nI e', N2) = some (.inl (nI (e' + 1), N3)) ∧ P M3 N3) (hx : ∀ M2 N2, P M2 N2 → f (nI ne, M2) = some (.inr M2) ∧ g (nI ne', N2) = some (.inr N2)) (hf : ne < F) (hg : ne' < F) (hP : P M N) : ∃ M' N', loop F f (0, M) = some M' ∧ loop F g (0, N) = some N' ∧ P M' N' := by
  have key : ∀ e e', Sub Ms Ns 0 0 e e' → e ≤ ne → e' ≤ ne' → ∃ M2 N2, P M2 N2 ∧ (∀ F, e ≤ F → loop F f (0, M) = loop (F - e) f (nI e, M2)) ∧ ∀ F, e' ≤ F → loop F g (0, N) = loop (F - e') g (nI e', N2) := by
    intro e e' h
    induction h using Sub.ind with
    | nil => intro _ _; exact ⟨M, N, hP, fun F _ => rfl, fun F _ => rfl⟩
    | @skip e e' h1 h2 ih =>
      intro g1 g2
      obtain ⟨M2, N2, i1, i2, i3⟩ := ih (by omega) g2
      refine ⟨M2, N2, i1, fun F hF => ?_, i3⟩
      rw [i2 F (by omega), show F - e = (F - (e + 1)) + 1 by omega, loop_in (hskip e M2 N2 (by omega) h2 i1)]
    | @both e e' h1 h2 ih =>
      intro g1 g2
      obtain ⟨M2, N2, i1, i2, i3⟩ := ih (by omega) (by omega)
      obtain ⟨M3, N3, j1, j2, j3⟩ := hboth e e' M2 N2 (by omega) (by omega) h2 i1
      refine ⟨M3, N3, j3, fun F hF => ?_, fun F hF => ?_⟩
      · rw [i2 F (by omega), show F - e = (F - (e + 1)) + 1 by omega, loop_in j1]
      · rw [i3 F (by omega), show F - e' = (F - (e' + 1)) + 1 by omega, loop_in j2]
  obtain ⟨M2, N2, k1, k2, k3⟩ := key ne ne' hsub (Nat.le_refl _) (Nat.le_refl _)
  obtain ⟨x1, x2⟩ := hx M2 N2 k1
  refine ⟨M2, N2, ?_, ?_, k1⟩
  · rw [k2 F (by omega), show F - ne = (F - ne - 1) + 1 by omega, loop_out x1]
  · rw [k3 F (by omega), show F - ne' = (F - ne' - 1) + 1 by omega, loop_out x2]
theorem meet_sim {b n ne ne' t : Nat} {M N : Mem} (hb : b = 12 ∨ b = 34) (ht : t < 40) (hN : iN n M N) (hev : EvS n ne ne' M N) (h : NS b n M N) : ∃ M' N', fX4_meetEvents b (nI t) M = some M' ∧ fX7_happen (nI t) N = some N' ∧ NS b n M' N' ∧ MtC b M M' ∧ MtM N N' := by
  obtain ⟨hn2, hn6, e1, e2⟩ := hN
  obtain ⟨v1, v3, hok, v2, hle, hsub, -⟩ := hev
  unfold fX4_meetEvents fX7_happen
  rw [bnd1, bnd1]
  refine loop_sub (Ms := M) (Ns := N) (P := fun M2 N2 => NS b n M2 N2 ∧ MtC b M M2 ∧ MtM N N2) hsub ?_ ?_ ?_ (by unfold fu; omega) (by unfold fu; omega) ⟨h, fun _ _ _ _ => rfl, fun _ _ _ _ => rfl, fun _ _ => rfl⟩
  · rintro i M2 N2 hi hfl ⟨hS, hC, hM1, hM2⟩
    have c5 : M2 5 = M 5 := hC 5 (by omega) (by omega) (by omega)
    have c10 : M2 10 i = M 10 i := by rw [hC 10 (by omega) (by omega) (by omega)]
    simp only [un2, nm, c5, v1, if_neg (nI_ge hi (show ne < 2 ^ 31 by omega)), p_hap (show i < 20 by omega), Option.bind_some, c10, nI_1]
    rw [if_neg (show ¬ (M 10 i = 0 ∧ ¬ 3 < M2 6 i ∧ M2 7 i = nI t) from fun h => hfl h.1), if_pos rfl]
  · rintro i i' M2 N2 hi hi' ⟨w1, w2, w3, w4, o1⟩ ⟨hS, hC, hM1, hM2⟩
    obtain ⟨kk, ww, ff, ss, k1, k2, k3, k4, k5, k6, k7, k8, k9, k10⟩ := hok i hi
    have c5 : M2 5 = M 5 := hC 5 (by omega) (by omega) (by omega)
    have c1 : M2 1 = M 1 := hC 1 (by omega) (by omega) (by omega)
    have c6 : M2 6 i = nI kk := by rw [hC 6 (by omega) (by omega) (by omega)]; exact k1
    have c7 : M2 7 i = nI ww := by rw [hC 7 (by omega) (by omega) (by omega)]; exact k2
    have c8 : M2 8 i = nI ff := by rw [hC 8 (by omega) (by omega) (by omega)]; exact k3
    have c10 : M2 10 i = M 10 i := by rw [hC 10 (by omega) (by omega) (by omega)]
    have d60 : N2 60 i' = nI kk := by rw [hM1 60 (by decide) (by decide) (by decide), ← w1]; exact k1
    have d61 : N2 61 i' = nI ww := by rw [hM1 61 (by decide) (by decide) (by decide), ← w2]; exact k2
    have d62 : N2 62 i' = nI ff := by rw [hM1 62 (by decide) (by decide) (by decide), ← w3]; exact k3
    have d64 : N2 64 i' = M 10 i := by rw [hM1 64 (by decide) (by decide) (by decide), ← o1]
    have hgi : ∀ {β : Type} (k : Option β), gd (nI i) 20 k = k := fun k => gd_nI (by omega) (by decide)
    have hgi' : ∀ {β : Type} (k : Option β), gd (nI i') 20 k = k := fun k => gd_nI (by omega) (by decide)
    simp only [un2, nm, c5, v1, hM2 4 (by decide), v2, if_neg (nI_ge hi (show ne < 2 ^ 31 by omega)), if_neg (nI_ge hi' (show ne' < 2 ^ 31 by omega)), p_hap (show i < 20 by omega), Option.bind_some, hgi, hgi', nI_clamp (show i < 2 ^ 31 by omega), nI_clamp (show i' < 2 ^ 31 by omega), c6, c7, c8, c10, d60, d61, d62, d64, nI_1, nar0, nar1]
    by_cases cA : M 10 i = 0
    · by_cases cB : kk ≤ 3
      · by_cases cC : ww = t
        · subst cC
          rw [if_pos (show M 10 i = 0 ∧ ¬ 3 < nI kk ∧ nI ww = nI ww from ⟨cA, nI_nlt cB (by decide), rfl⟩), if_neg b1, if_pos cA, if_neg (show ¬ 4 ≤ nI kk from nI_ge (show kk < 4 by omega) (by decide)), if_pos rfl]
          obtain ⟨M', q1, q2, q3⟩ := meet_one (kk := kk) (ff := ff) hb hn6 (by rw [c1]; exact e1) cB k9 hS
          have hq2 : MtC b M M' := fun c a1 a2 a3 => (q2 c a1 a2 a3).trans (hC c a1 a2 a3)
          rw [q1]
          simp only [Option.bind_some]
          rcases q3 with ⟨rfl, q3⟩ | ⟨rfl, q3⟩ | ⟨rfl, q3⟩ | ⟨rfl, q4, q3⟩ | ⟨rfl, q4, N', q5, q3, q6⟩
          · exact ⟨_, st N2 56 33 (nI ff), rfl, rfl, q3, hq2, fun c a1 a2 a3 => (st_c _ _ _ a1).trans (hM1 c a1 a2 a3), fun k hk => (st_ck _ _ hk).trans (hM2 k hk)⟩
          · exact ⟨_, st N2 56 33 0, rfl, rfl, q3, hq2, fun c a1 a2 a3 => (st_c _ _ _ a1).trans (hM1 c a1 a2 a3), fun k hk => (st_ck _ _ hk).trans (hM2 k hk)⟩
          · have hff := k9 (Or.inl rfl)
            rw [if_pos (show (2 : Int32) ≤ nI 2 by decide), if_pos (show nI 2 = (2 : Int32) from rfl), gd_nI (show ff < 7 by omega) (by decide), nI_clamp (show ff < 2 ^ 31 by omega)]
            exact ⟨_, st N2 85 ff 1, rfl, rfl, q3, hq2, fun c a1 a2 a3 => (st_c _ _ _ a3).trans (hM1 c a1 a2 a3), fun k hk => (congrFun (st_c N2 ff 1 (show 56 ≠ 85 by decide)) k).trans (hM2 k hk)⟩
          · have hff := k9 (Or.inr rfl)
            rw [if_pos (show (2 : Int32) ≤ nI 3 by decide), if_neg (show ¬ nI 3 = (2 : Int32) by decide), gd_nI (show ff < 7 by omega) (by decide), gd_nI (show ff < 7 by omega) (by decide), nI_clamp (show ff < 2 ^ 31 by omega), if_pos q4]
            exact ⟨_, N2, rfl, rfl, q3, hq2, hM1, hM2⟩
          · have hff := k9 (Or.inr rfl)
            rw [if_pos (show (2 : Int32) ≤ nI 3 by decide), if_neg (show ¬ nI 3 = (2 : Int32) by decide), gd_nI (show ff < 7 by omega) (by decide), gd_nI (show ff < 7 by omega) (by decide), nI_clamp (show ff < 2 ^ 31 by omega), if_neg q4]
            refine ⟨_, N', rfl, ?_, q3, hq2, fun c a1 a2 a3 => (q6 c a2 a3).trans (hM1 c a1 a2 a3), fun k hk => (congrFun (q6 56 (by decide) (by decide)) k).trans (hM2 k hk)⟩
            simp only [nm] at q5
            rw [q5]
            rfl
        · have ne1 : ¬ nI ww = nI t := fun e => cC ((nI_eq (by omega) (by omega)).mp e)
          rw [if_neg (show ¬ (M 10 i = 0 ∧ ¬ 3 < nI kk ∧ nI ww = nI t) from fun h => ne1 h.2.2), if_pos rfl, if_pos cA, if_neg (show ¬ 4 ≤ nI kk from nI_ge (show kk < 4 by omega) (by decide)), if_neg ne1]
          exact ⟨_, _, rfl, rfl, hS, hC, hM1, hM2⟩
      · rw [if_neg (show ¬ (M 10 i = 0 ∧ ¬ 3 < nI kk ∧ nI ww = nI t) from fun h => h.2.1 (nI_lt (show 3 < kk by omega) (by omega))), if_pos rfl, if_pos cA, if_pos (show 4 ≤ nI kk from nI_le (show 4 ≤ kk by omega) (by omega))]
        exact ⟨_, _, rfl, rfl, hS, hC, hM1, hM2⟩
    · rw [if_neg (show ¬ (M 10 i = 0 ∧ ¬ 3 < nI kk ∧ nI ww = nI t) from fun h => cA h.1), if_pos rfl, if_neg cA]
      exact ⟨_, _, rfl, rfl, hS, hC, hM1, hM2⟩
  · rintro M2 N2 ⟨hS, hC, hM1, hM2⟩
    have c5 : M2 5 = M 5 := hC 5 (by omega) (by omega) (by omega)
    simp only [un2, c5, v1, hM2 4 (by decide), v2, if_pos (nI_le (Nat.le_refl ne) (show ne < 2 ^ 31 by omega)), if_pos (nI_le (Nat.le_refl ne') (show ne' < 2 ^ 31 by omega))]
    exact ⟨trivial, trivial⟩
