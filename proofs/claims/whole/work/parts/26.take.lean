/-! ===== a turn's second phase: what comes ===== -/
/-- nodes and letters in a play -/
def PR (b k n nl : Nat) (M N : Mem) : Prop := NS b n M N ∧ iLet b k nl M N ∧ (∀ j, j < nl → ∃ s r, s < n ∧ r < n ∧ M (b + 13) j = nI s ∧ M (b + 14) j = nI r) ∧ M (b + 12) 0 = nI nl ∧ N 66 k = nI nl ∧ M (b + 12) 1 = N 67 k ∧ M b 10 = N 68 k ∧ M b 11 = N 69 k
def TkC (b : Nat) (M M' : Mem) : Prop := (∀ c, c ≠ b → c ≠ b + 8 → c ≠ b + 11 → c ≠ b + 19 → M' c = M c) ∧ ∀ i, i ≠ 10 → i ≠ 11 → M' b i = M b i
def TkM (k : Nat) (N N' : Mem) : Prop := (∀ c, c ≠ 68 → c ≠ 69 → c ≠ 80 → c ≠ 83 → c ≠ 84 → N' c = N c) ∧ (∀ i, i ≠ k → N' 68 i = N 68 i ∧ N' 69 i = N 69 i) ∧ ∀ i, (i < 1200 * k ∨ 1200 * k + 1200 ≤ i) → N' 80 i = N 80 i
theorem TkC.tr {b : Nat} {M M1 M2 : Mem} (h1 : TkC b M M1) (h2 : TkC b M1 M2) : TkC b M M2 := ⟨fun c a1 a2 a3 a4 => (h2.1 c a1 a2 a3 a4).trans (h1.1 c a1 a2 a3 a4), fun i a1 a2 => (h2.2 i a1 a2).trans (h1.2 i a1 a2)⟩
theorem TkM.tr {k : Nat} {M M1 M2 : Mem} (h1 : TkM k M M1) (h2 : TkM k M1 M2) : TkM k M M2 := ⟨fun c a1 a2 a3 a4 a5 => (h2.1 c a1 a2 a3 a4 a5).trans (h1.1 c a1 a2 a3 a4 a5), fun i a1 => ⟨(h2.2.1 i a1).1.trans (h1.2.1 i a1).1, (h2.2.1 i a1).2.trans (h1.2.1 i a1).2⟩, fun i a1 => (h2.2.2 i a1).trans (h1.2.2 i a1)⟩
/-- the bits of two nodes of a group -/
abbrev tog (g : Int32) (s r : Nat) : Prop := ((g >>> (nI s &&& 31)) &&& (1 : Int32)) = ((g >>> (nI r &&& 31)) &&& (1 : Int32))
/-- the class's memory once letter j was taken in m times -/
def TkIn (b j s r m : Nat) (M X : Mem) : Prop := (∀ c, c ≠ b → c ≠ b + 8 → c ≠ b + 11 → c ≠ b + 19 → X c = M c) ∧ (∀ i, X (b + 11) i = if i = 6 * r + s then (if M (b + 11) (6 * r + s) < M (b + 16) j then M (b + 16) j else M (b + 11) (6 * r + s)) else M (b + 11) i) ∧ (∀ i, X (b + 8) i = if i = r then M (b + 8) r ||| M (b + 17) j else M (b + 8) i) ∧ (∀ i, X (b + 19) i = if i = j then M (b + 19) j + nI m else M (b + 19) i) ∧ ∀ i, X b i = if i = 10 then M b 10 + nI m else M b i
/-- .. once it was gone m times -/
def TkGo (b m : Nat) (M X : Mem) : Prop := (∀ c, c ≠ b → X c = M c) ∧ ∀ i, X b i = if i = 11 then M b 11 + nI m else M b i
theorem take1 {b n nl j s r : Nat} {M : Mem} (hn : n ≤ 6) (hnl : nl ≤ 1200) (hj : j < nl) (hs : s < n) (hr : r < n) (h0 : M (b + 12) 0 = nI nl) (h1 : M (b + 13) j = nI s) (h2 : M (b + 14) j = nI r) : ∃ X, fX4_takeIn b (nI j) M = some X ∧ ((M (b + 9) r ≠ 0 ∧ tog (M (b + 6) 6) s r ∧ TkIn b j s r 1 M X) ∨ (¬ (M (b + 9) r ≠ 0 ∧ tog (M (b + 6) 6) s r) ∧ TkGo b 1 M X)) := by
  have hg : ∀ {β : Type} (k : Option β), gd (nI j) 1200 k = k := fun k => gd_nI (by omega) (by decide)
  have hgr : ∀ {β : Type} (k : Option β), gd (nI r) 6 k = k := fun k => gd_nI (by omega) (by decide)
  have hcr : fX3_canReach b (nI s) (nI r) M = some (if M (b + 9) r ≠ 0 ∧ tog (M (b + 6) 6) s r then 1 else 0) := by
    unfold fX3_canReach
    rw [hgr, nI_clamp (by omega)]
    by_cases c1 : M (b + 9) r = 0
    · rw [if_pos c1, if_neg (show ¬ (M (b + 9) r ≠ 0 ∧ tog (M (b + 6) 6) s r) from fun h => h.1 c1)]
    · rw [if_neg c1]
      by_cases c2 : tog (M (b + 6) 6) s r
      · rw [if_pos c2, if_pos ⟨c1, c2⟩]
      · rw [if_neg c2, if_neg (show ¬ (M (b + 9) r ≠ 0 ∧ tog (M (b + 6) 6) s r) from fun h => c2 h.2)]
  unfold fX4_takeIn
  rw [p_1has b _ h0, vin_in hj (by omega)]
  simp only [Option.bind_some, if_neg b1, hg, nm, nI_clamp (show j < 2 ^ 31 by omega), h1, h2, hcr]
  by_cases c : M (b + 9) r ≠ 0 ∧ tog (M (b + 6) 6) s r
  · rw [if_pos c, if_neg b1]
    have hp : fX6_pair (nI r) (nI s) = some (nI (6 * r + s)) := by unfold fX6_pair; rw [mul6]
    have ht : fX3_takeIn b (nI s) (nI r) (M (b + 16) j) (M (b + 17) j) M = some (st (st M (b + 11) (6 * r + s) (if M (b + 11) (6 * r + s) < M (b + 16) j then M (b + 16) j else M (b + 11) (6 * r + s))) (b + 8) r (M (b + 8) r ||| M (b + 17) j)) := by
      unfold fX3_takeIn
      rw [hp]
      simp only [Option.bind_some, nm, hgr, gd_nI (show 6 * r + s < 36 by omega) (show 36 < 2 ^ 31 by decide), nI_clamp (show 6 * r + s < 2 ^ 31 by omega), nI_clamp (show r < 2 ^ 31 by omega), st_c _ _ _ (show b + 8 ≠ b + 11 by omega)]
    rw [ht]
    refine ⟨_, rfl, Or.inl ⟨c.1, c.2, ?_⟩⟩
    refine ⟨fun c c1 c2 c3 c4 => by rw [st_c _ _ _ c1, st_c _ _ _ c4, st_c _ _ _ c2, st_c _ _ _ c3], fun i => ?_, fun i => ?_, fun i => ?_, fun i => ?_⟩
    · rw [st_c _ _ _ (show b + 11 ≠ b by omega), st_c _ _ _ (show b + 11 ≠ b + 19 by omega), st_c _ _ _ (show b + 11 ≠ b + 8 by omega)]
      by_cases e : i = 6 * r + s
      · subst e; rw [st_cc, if_pos rfl]
      · rw [st_ck _ _ e, if_neg e]
    · rw [st_c _ _ _ (show b + 8 ≠ b by omega), st_c _ _ _ (show b + 8 ≠ b + 19 by omega)]
      by_cases e : i = r
      · subst e; rw [st_cc, if_pos rfl]
      · rw [st_ck _ _ e, if_neg e, st_c _ _ _ (show b + 8 ≠ b + 11 by omega)]
    · rw [st_c _ _ _ (show b + 19 ≠ b by omega)]
      by_cases e : i = j
      · subst e
        rw [st_cc, if_pos rfl, st_c _ _ _ (show b + 19 ≠ b + 8 by omega), st_c _ _ _ (show b + 19 ≠ b + 11 by omega)]; rfl
      · rw [st_ck _ _ e, if_neg e, st_c _ _ _ (show b + 19 ≠ b + 8 by omega), st_c _ _ _ (show b + 19 ≠ b + 11 by omega)]
    · by_cases e : i = 10
      · subst e
        rw [st_cc, if_pos rfl, st_c _ _ _ (show b ≠ b + 19 by omega), st_c _ _ _ (show b ≠ b + 8 by omega), st_c _ _ _ (show b ≠ b + 11 by omega)]; rfl
      · rw [st_ck _ _ e, if_neg e, st_c _ _ _ (show b ≠ b + 19 by omega), st_c _ _ _ (show b ≠ b + 8 by omega), st_c _ _ _ (show b ≠ b + 11 by omega)]
  · rw [if_neg c, if_pos rfl]
    refine ⟨_, rfl, Or.inr ⟨c, fun c c1 => st_c _ _ _ c1, fun i => ?_⟩⟩
    by_cases e : i = 11
    · subst e; rw [st_cc, if_pos rfl]; rfl
    · rw [st_ck _ _ e, if_neg e]
def tkL (b : Nat) : List Nat → Mem → Option Mem
  | [], M => some M
  | l :: L, M => (fX4_takeIn b (nI l) M).bind (tkL b L)
theorem tkL_app (b : Nat) : ∀ (A B : List Nat) (M : Mem), tkL b (A ++ B) M = (tkL b A M).bind (tkL b B)
  | [], B, M => rfl
  | l :: A, B, M => by
    show (fX4_takeIn b (nI l) M).bind (tkL b (A ++ B)) = ((fX4_takeIn b (nI l) M).bind (tkL b A)).bind (tkL b B)
    cases fX4_takeIn b (nI l) M with
    | none => rfl
    | some X => exact tkL_app b A B X
theorem max_i (x y : Int32) : (if (if x < y then y else x) < y then y else (if x < y then y else x)) = (if x < y then y else x) := by
  by_cases c : x < y
  · rw [if_pos c]; split <;> rfl
  · rw [if_neg c, if_neg c]
theorem or_i (x y : Int32) : (x ||| y) ||| y = x ||| y := by
  apply Int32.toBitVec_inj.mp
  simp [Int32.toBitVec_or, BitVec.or_assoc]
theorem add_s (x : Int32) (m : Nat) : x + nI m + nI 1 = x + nI (m + 1) := by rw [Int32.add_assoc, nI_add]
/-- letter j taken in m times -/
theorem takeM {b n nl j s r : Nat} {M : Mem} (hn : n ≤ 6) (hnl : nl ≤ 1200) (hj : j < nl) (hs : s < n) (hr : r < n) (h0 : M (b + 12) 0 = nI nl) (h1 : M (b + 13) j = nI s) (h2 : M (b + 14) j = nI r) : ∀ m, ∃ X, tkL b (List.replicate (m + 1) j) M = some X ∧ ((M (b + 9) r ≠ 0 ∧ tog (M (b + 6) 6) s r ∧ TkIn b j s r (m + 1) M X) ∨ (¬ (M (b + 9) r ≠ 0 ∧ tog (M (b + 6) 6) s r) ∧ TkGo b (m + 1) M X))
  | 0 => by
    obtain ⟨X, e, h⟩ := take1 hn hnl hj hs hr h0 h1 h2
    exact ⟨X, by show (fX4_takeIn b (nI j) M).bind _ = _; rw [e]; rfl, h⟩
  | m + 1 => by
    obtain ⟨X, e, h⟩ := takeM hn hnl hj hs hr h0 h1 h2 m
    have hrep : List.replicate (m + 1 + 1) j = List.replicate (m + 1) j ++ [j] := List.replicate_succ'
    rcases h with ⟨u1, u2, ⟨x1, x2, x3, x4, x5⟩⟩ | ⟨u1, x1, x2⟩
    · obtain ⟨Y, ey, hy⟩ := take1 (M := X) hn hnl hj hs hr (by rw [x1 (b + 12) (by omega) (by omega) (by omega) (by omega)]; exact h0) (by rw [x1 (b + 13) (by omega) (by omega) (by omega) (by omega)]; exact h1) (by rw [x1 (b + 14) (by omega) (by omega) (by omega) (by omega)]; exact h2)
      refine ⟨Y, by rw [hrep, tkL_app, e]; show (fX4_takeIn b (nI j) X).bind _ = _; rw [ey]; rfl, ?_⟩
      rw [x1 (b + 9) (by omega) (by omega) (by omega) (by omega), x1 (b + 6) (by omega) (by omega) (by omega) (by omega)] at hy
      rcases hy with ⟨-, -, ⟨y1, y2, y3, y4, y5⟩⟩ | ⟨hy, -⟩
      · refine Or.inl ⟨u1, u2, fun c a1 a2 a3 a4 => (y1 c a1 a2 a3 a4).trans (x1 c a1 a2 a3 a4), fun i => ?_, fun i => ?_, fun i => ?_, fun i => ?_⟩
        · rw [y2, x1 (b + 16) (by omega) (by omega) (by omega) (by omega), x2, x2 i, if_pos rfl, max_i]
          by_cases e : i = 6 * r + s
          · rw [if_pos e, if_pos e]
          · simp only [if_neg e]
        · rw [y3, x1 (b + 17) (by omega) (by omega) (by omega) (by omega), x3, x3 i, if_pos rfl, or_i]
          by_cases e : i = r
          · rw [if_pos e, if_pos e]
          · simp only [if_neg e]
        · rw [y4, x4, x4 i, if_pos rfl, add_s]
          by_cases e : i = j
          · rw [if_pos e, if_pos e]
          · simp only [if_neg e]
        · rw [y5, x5, x5 i, if_pos rfl, add_s]
          by_cases e : i = 10
          · rw [if_pos e, if_pos e]
          · simp only [if_neg e]
      · exact absurd ⟨u1, u2⟩ hy
    · obtain ⟨Y, ey, hy⟩ := take1 (M := X) hn hnl hj hs hr (by rw [x1 (b + 12) (by omega)]; exact h0) (by rw [x1 (b + 13) (by omega)]; exact h1) (by rw [x1 (b + 14) (by omega)]; exact h2)
      refine ⟨Y, by rw [hrep, tkL_app, e]; show (fX4_takeIn b (nI j) X).bind _ = _; rw [ey]; rfl, ?_⟩
      rw [x1 (b + 9) (by omega), x1 (b + 6) (by omega)] at hy
      rcases hy with ⟨a1, a2, -⟩ | ⟨-, y1, y2⟩
      · exact absurd ⟨a1, a2⟩ u1
      · refine Or.inr ⟨u1, fun c a1 => (y1 c a1).trans (x1 c a1), fun i => ?_⟩
        rw [y2, x2, x2 i, if_pos rfl, add_s]
        by_cases e : i = 11
        · rw [if_pos e, if_pos e]
        · simp only [if_neg e]
def CmIn (k l s r m : Nat) (N Y : Mem) : Prop := (∀ c, c ≠ 68 → c ≠ 80 → c ≠ 83 → c ≠ 84 → Y c = N c) ∧ (∀ i, Y 68 i = if i = k then N 68 k + nI m else N 68 i) ∧ (∀ i, Y 80 i = if i = l then N 80 l + nI m else N 80 i) ∧ (∀ i, Y 84 i = if i = 7 * r + s then (if N 77 l ≤ N 84 (7 * r + s) then N 84 (7 * r + s) else N 77 l) else N 84 i) ∧ ∀ i, Y 83 i = if i = r then N 83 r ||| N 78 l else N 83 i
def CmGo (k m : Nat) (N Y : Mem) : Prop := (∀ c, c ≠ 69 → Y c = N c) ∧ ∀ i, Y 69 i = if i = k then N 69 k + nI m else N 69 i
theorem come1 {n k l s r m : Nat} {N : Mem} (hn : n ≤ 6) (hk : k < 2) (hl : l < 2400) (hs : s < n) (hr : r < n) (h1 : N 74 l = nI s) (h2 : N 75 l = nI r) : ∃ Y, fX7_come (nI k) (nI l) (nI m) N = some Y ∧ ((N 85 r = 0 ∧ tog (N 56 33) r s ∧ CmIn k l s r m N Y) ∨ (¬ (N 85 r = 0 ∧ tog (N 56 33) r s) ∧ CmGo k m N Y)) := by
  have hg : ∀ {β : Type} (q : Option β), gd (nI l) 2400 q = q := fun q => gd_nI hl (by decide)
  have hgk : ∀ {β : Type} (q : Option β), gd (nI k) 2 q = q := fun q => gd_nI hk (by decide)
  have hgr : ∀ {β : Type} (q : Option β), gd (nI r) 7 q = q := fun q => gd_nI (by omega) (by decide)
  have hgo : ∃ Y, (some (st N 69 k (N 69 k + nI m)) : Option Mem) = some Y ∧ CmGo k m N Y := by
    refine ⟨_, rfl, fun c c1 => st_c _ _ _ c1, fun i => ?_⟩
    by_cases e : i = k
    · subst e; rw [st_cc, if_pos rfl]
    · rw [st_ck _ _ e, if_neg e]
  unfold fX7_come
  simp only [hg, hgk, nm, nI_clamp (show l < 2 ^ 31 by omega), nI_clamp (show k < 2 ^ 31 by omega), h2, hgr, nI_clamp (show r < 2 ^ 31 by omega)]
  by_cases c1 : N 85 r = 0
  · rw [if_pos c1]
    unfold fX7_isTogether
    rw [h1]
    by_cases c2 : tog (N 56 33) r s
    · rw [if_pos c2]
      simp only [Option.bind_some, if_neg b1, st_c _ _ _ (show 80 ≠ 68 by decide), st_c _ _ _ (show 74 ≠ 80 by decide), st_c _ _ _ (show 74 ≠ 68 by decide), st_c _ _ _ (show 77 ≠ 80 by decide), st_c _ _ _ (show 77 ≠ 68 by decide), st_c _ _ _ (show 84 ≠ 80 by decide), st_c _ _ _ (show 84 ≠ 68 by decide), st_c _ _ _ (show 83 ≠ 84 by decide), st_c _ _ _ (show 83 ≠ 80 by decide), st_c _ _ _ (show 83 ≠ 68 by decide), st_c _ _ _ (show 78 ≠ 84 by decide), st_c _ _ _ (show 78 ≠ 80 by decide), st_c _ _ _ (show 78 ≠ 68 by decide), h1, mul7, gd_nI (show 7 * r + s < 49 by omega) (show 49 < 2 ^ 31 by decide), nI_clamp (show 7 * r + s < 2 ^ 31 by omega)]
      have key : ∀ w, CmIn k l s r m N (st (st (st (st N 68 k (N 68 k + nI m)) 80 l (N 80 l + nI m)) 84 (7 * r + s) w) 83 r (N 83 r ||| N 78 l)) ∨ w ≠ (if N 77 l ≤ N 84 (7 * r + s) then N 84 (7 * r + s) else N 77 l) := by
        intro w
        by_cases hw : w = (if N 77 l ≤ N 84 (7 * r + s) then N 84 (7 * r + s) else N 77 l)
        · left
          refine ⟨fun c a1 a2 a3 a4 => by rw [st_c _ _ _ a3, st_c _ _ _ a4, st_c _ _ _ a2, st_c _ _ _ a1], fun i => ?_, fun i => ?_, fun i => ?_, fun i => ?_⟩
          · rw [st_c _ _ _ (show 68 ≠ 83 by decide), st_c _ _ _ (show 68 ≠ 84 by decide), st_c _ _ _ (show 68 ≠ 80 by decide)]
            by_cases e : i = k
            · subst e; rw [st_cc, if_pos rfl]
            · rw [st_ck _ _ e, if_neg e]
          · rw [st_c _ _ _ (show 80 ≠ 83 by decide), st_c _ _ _ (show 80 ≠ 84 by decide)]
            by_cases e : i = l
            · subst e; rw [st_cc, if_pos rfl]
            · rw [st_ck _ _ e, if_neg e, st_c _ _ _ (show 80 ≠ 68 by decide)]
          · rw [st_c _ _ _ (show 84 ≠ 83 by decide)]
            by_cases e : i = 7 * r + s
            · subst e; rw [st_cc, if_pos rfl]; exact hw
            · rw [st_ck _ _ e, if_neg e, st_c _ _ _ (show 84 ≠ 80 by decide), st_c _ _ _ (show 84 ≠ 68 by decide)]
          · by_cases e : i = r
            · subst e; rw [st_cc, if_pos rfl]
            · rw [st_ck _ _ e, if_neg e, st_c _ _ _ (show 83 ≠ 84 by decide), st_c _ _ _ (show 83 ≠ 80 by decide), st_c _ _ _ (show 83 ≠ 68 by decide)]
        · exact Or.inr hw
      by_cases c3 : N 77 l ≤ N 84 (7 * r + s)
      · rw [if_pos c3]
        refine ⟨_, rfl, Or.inl ⟨c1, c2, (key _).resolve_right (fun h => h (by rw [if_pos c3]))⟩⟩
      · rw [if_neg c3]
        refine ⟨_, rfl, Or.inl ⟨c1, c2, (key _).resolve_right (fun h => h (by rw [if_neg c3]))⟩⟩
    · rw [if_neg c2]
      obtain ⟨Y, e1, e2⟩ := hgo
      exact ⟨Y, e1, Or.inr ⟨fun h => c2 h.2, e2⟩⟩
  · rw [if_neg c1]
    obtain ⟨Y, e1, e2⟩ := hgo
    exact ⟨Y, e1, Or.inr ⟨fun h => c1 h.1, e2⟩⟩
theorem max_le (x y : Int32) : (if x < y then y else x) = (if y ≤ x then x else y) := by
  by_cases c : x < y
  · rw [if_pos c, if_neg (fun h => by rw [Int32.lt_iff_toInt_lt] at c; rw [Int32.le_iff_toInt_le] at h; omega)]
  · rw [if_neg c, if_pos (by rw [Int32.lt_iff_toInt_lt] at c; rw [Int32.le_iff_toInt_le]; omega)]
/-- letter j comes m times, on both sides -/
theorem take_let {b k n nl j m : Nat} {M N : Mem} (hn : n ≤ 6) (hk : k < 2) (hnl : nl ≤ 1200) (hj : j < nl) (h : PR b k n nl M N) : ∃ M' N', tkL b (List.replicate (m + 1) j) M = some M' ∧ fX7_come (nI k) (nI (1200 * k + j)) (nI (m + 1)) N = some N' ∧ PR b k n nl M' N' ∧ TkC b M M' ∧ TkM k N N' := by
  obtain ⟨⟨s1, s2, s3, s4, s5⟩, hl, hsr, p1, p2, p3, p4, p5⟩ := id h
  obtain ⟨s, r, hs, hr, q1, q2⟩ := hsr j hj
  obtain ⟨l1, l2, l3, l4, l5, l6, l7, l8⟩ := hl j hj
  obtain ⟨X, hX, cX⟩ := takeM (b := b) (m := m) hn hnl hj hs hr p1 q1 q2
  obtain ⟨Y, hY, cY⟩ := come1 (N := N) (n := n) (k := k) (l := 1200 * k + j) (m := m + 1) hn hk (by omega) hs hr (by rw [← l1]; exact q1) (by rw [← l2]; exact q2)
  refine ⟨X, Y, hX, hY, ?_⟩
  have hiff : (M (b + 9) r ≠ 0 ∧ tog (M (b + 6) 6) s r) ↔ (N 85 r = 0 ∧ tog (N 56 33) r s) := by
    rw [← s5]
    constructor
    · rintro ⟨a1, a2⟩
      rcases s3 r hr with ⟨u1, u2⟩ | ⟨u1, u2⟩
      · exact ⟨u2, a2.symm⟩
      · exact absurd u1 a1
    · rintro ⟨a1, a2⟩
      rcases s3 r hr with ⟨u1, u2⟩ | ⟨u1, u2⟩
      · exact ⟨by rw [u1]; exact b1, a2.symm⟩
      · rw [u2] at a1; exact absurd a1 b1
  rcases cX with ⟨a1, a2, x1, x2, x3, x4, x5⟩ | ⟨a1, x1, x2⟩
  · rcases cY with ⟨-, -, y1, y2, y3, y4, y5⟩ | ⟨b1', -⟩
    · refine ⟨⟨⟨fun a ha => ?_, fun a ha => ?_, fun a ha => ?_, fun a c ha hc => ?_, ?_⟩, fun i hi => ?_, fun i hi => ?_, ?_, ?_, ?_, ?_, ?_⟩, ⟨x1, fun i i1 i2 => by rw [x5, if_neg i1]⟩, fun c c1 c2 c3 c4 c5 => y1 c c1 c3 c4 c5, fun i hi => ⟨by rw [y2, if_neg hi], by rw [y1 69 (by decide) (by decide) (by decide) (by decide)]⟩, fun i hi => by rw [y3, if_neg (by omega)]⟩
      · rw [x1 (b + 7) (by omega) (by omega) (by omega) (by omega), y1 82 (by decide) (by decide) (by decide) (by decide)]; exact s1 a ha
      · rw [x3, y5]
        by_cases e : a = r
        · subst e
          rw [if_pos rfl, if_pos rfl, (s2 a ha).1, l5]
          exact ⟨rfl, by rw [← l5, ← (s2 a ha).1]; exact or_256 (s2 a ha).2 l8⟩
        · rw [if_neg e, if_neg e]; exact s2 a ha
      · rw [x1 (b + 9) (by omega) (by omega) (by omega) (by omega), y1 85 (by decide) (by decide) (by decide) (by decide)]; exact s3 a ha
      · rw [x2, y4]
        by_cases e : a = r ∧ c = s
        · obtain ⟨rfl, rfl⟩ := e
          rw [if_pos rfl, if_pos rfl, max_le, s4 a c ha hc, l4]
        · rw [if_neg (by omega), if_neg (by omega)]; exact s4 a c ha hc
      · rw [x1 (b + 6) (by omega) (by omega) (by omega) (by omega), y1 56 (by decide) (by decide) (by decide) (by decide)]; exact s5
      · rw [x1 (b + 13) (by omega) (by omega) (by omega) (by omega), x1 (b + 14) (by omega) (by omega) (by omega) (by omega), x1 (b + 15) (by omega) (by omega) (by omega) (by omega), x1 (b + 16) (by omega) (by omega) (by omega) (by omega), x1 (b + 17) (by omega) (by omega) (by omega) (by omega), x1 (b + 18) (by omega) (by omega) (by omega) (by omega), y1 74 (by decide) (by decide) (by decide) (by decide), y1 75 (by decide) (by decide) (by decide) (by decide), y1 76 (by decide) (by decide) (by decide) (by decide), y1 77 (by decide) (by decide) (by decide) (by decide), y1 78 (by decide) (by decide) (by decide) (by decide), y1 79 (by decide) (by decide) (by decide) (by decide), x4, y3]
        obtain ⟨m1, m2, m3, m4, m5, m6, m7, m8⟩ := hl i hi
        refine ⟨m1, m2, m3, m4, m5, m6, ?_, m8⟩
        by_cases e : i = j
        · subst e; rw [if_pos rfl, if_pos rfl, l7]
        · rw [if_neg e, if_neg (by omega)]; exact m7
      · rw [x1 (b + 13) (by omega) (by omega) (by omega) (by omega), x1 (b + 14) (by omega) (by omega) (by omega) (by omega)]; exact hsr i hi
      · rw [x1 (b + 12) (by omega) (by omega) (by omega) (by omega)]; exact p1
      · rw [y1 66 (by decide) (by decide) (by decide) (by decide)]; exact p2
      · rw [x1 (b + 12) (by omega) (by omega) (by omega) (by omega), y1 67 (by decide) (by decide) (by decide) (by decide)]; exact p3
      · rw [x5, if_pos rfl, y2, if_pos rfl, p4]
      · rw [x5, if_neg (by decide), y1 69 (by decide) (by decide) (by decide) (by decide)]; exact p5
    · exact absurd (hiff.mp ⟨a1, a2⟩) b1'
  · rcases cY with ⟨b1', b2', -⟩ | ⟨-, y1, y2⟩
    · exact absurd (hiff.mpr ⟨b1', b2'⟩) a1
    · refine ⟨⟨⟨fun a ha => ?_, fun a ha => ?_, fun a ha => ?_, fun a c ha hc => ?_, ?_⟩, fun i hi => ?_, fun i hi => ?_, ?_, ?_, ?_, ?_, ?_⟩, ⟨fun c c1 _ _ _ => x1 c c1, fun i i1 i2 => by rw [x2, if_neg i2]⟩, fun c c1 c2 c3 c4 c5 => y1 c c2, fun i hi => ⟨by rw [y1 68 (by decide)], by rw [y2, if_neg hi]⟩, fun i hi => by rw [y1 80 (by decide)]⟩
      · rw [x1 (b + 7) (by omega), y1 82 (by decide)]; exact s1 a ha
      · rw [x1 (b + 8) (by omega), y1 83 (by decide)]; exact s2 a ha
      · rw [x1 (b + 9) (by omega), y1 85 (by decide)]; exact s3 a ha
      · rw [x1 (b + 11) (by omega), y1 84 (by decide)]; exact s4 a c ha hc
      · rw [x1 (b + 6) (by omega), y1 56 (by decide)]; exact s5
      · rw [x1 (b + 13) (by omega), x1 (b + 14) (by omega), x1 (b + 15) (by omega), x1 (b + 16) (by omega), x1 (b + 17) (by omega), x1 (b + 18) (by omega), x1 (b + 19) (by omega), y1 74 (by decide), y1 75 (by decide), y1 76 (by decide), y1 77 (by decide), y1 78 (by decide), y1 79 (by decide), y1 80 (by decide)]
        exact hl i hi
      · rw [x1 (b + 13) (by omega), x1 (b + 14) (by omega)]; exact hsr i hi
      · rw [x1 (b + 12) (by omega)]; exact p1
      · rw [y1 66 (by decide)]; exact p2
      · rw [x1 (b + 12) (by omega), y1 67 (by decide)]; exact p3
      · rw [x2, if_neg (by decide), y1 68 (by decide)]; exact p4
      · rw [x2, if_pos rfl, y2, if_pos rfl, p5]
