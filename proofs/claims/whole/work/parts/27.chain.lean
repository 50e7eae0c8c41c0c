/-! ===== the chains of comings against the reference's scan ===== -/
def nod (own : Nat → Nat) (u : Nat) : Nat → List Nat
  | 0 => []
  | q + 1 => nod own u q ++ (if own q = u then [q] else [])
def hdI : List Nat → Int32
  | [] => -1
  | q :: _ => nI q
def lst (tm : Nat → Nat) : Nat → List Nat
  | 0 => []
  | j + 1 => lst tm j ++ List.replicate (tm j) j
def cmI : Option Nat → Int32
  | none => -1
  | some c => nI c
def tmf (cm : Nat → Option Nat) (dd : Nat → Nat → Nat) (u j : Nat) : Nat := match cm j with
  | none => 0
  | some c => if u = c then 1 else if c < u ∧ u ≤ c + 5 then dd j (u - c) else 0
theorem nod_lt {own : Nat → Nat} {u : Nat} : ∀ {sz q : Nat}, q ∈ nod own u sz → q < sz ∧ own q = u
  | 0, q, h => by cases h
  | sz + 1, q, h => by
    rcases List.mem_append.mp h with h1 | h1
    · obtain ⟨a, b⟩ := nod_lt h1
      exact ⟨by omega, b⟩
    · by_cases c : own sz = u
      · rw [if_pos c] at h1
        have : q = sz := List.mem_singleton.mp h1
        subst this
        exact ⟨by omega, c⟩
      · rw [if_neg c] at h1; cases h1
theorem nod_len {own : Nat → Nat} {u : Nat} : ∀ (sz : Nat), (nod own u sz).length ≤ sz
  | 0 => Nat.le_refl 0
  | sz + 1 => by
    have := nod_len (own := own) (u := u) sz
    show (nod own u sz ++ _).length ≤ _
    rw [List.length_append]
    by_cases c : own sz = u
    · rw [if_pos c]; simp; omega
    · rw [if_neg c]; simp; omega
/-- the comings: what the class's chains hold, by the reference's rows -/
def CR (b k nl sz : Nat) (own lt : Nat → Nat) (cm : Nat → Option Nat) (dd : Nat → Nat → Nat) (M N : Mem) : Prop := M (b + 1) 0 = nI sz ∧ (∀ q, q < sz → M (b + 2) q = nI (lt q) ∧ lt q < nl) ∧ (∀ u, u < 40 → M (b + 4) u = hdI (nod own u sz)) ∧ (∀ u, u < 40 → M (b + 5) u = hdI (nod own u sz).reverse) ∧ (∀ u, u < 40 → ∀ A q B, nod own u sz = A ++ q :: B → M (b + 3) q = hdI B) ∧ (∀ j, j < nl → N 79 (1200 * k + j) = cmI (cm j) ∧ ∀ c, cm j = some c → c < 1000) ∧ (∀ j i, j < nl → 1 ≤ i → i < 6 → N 81 (6 * (1200 * k + j) + i) = nI (dd j i) ∧ dd j i ≤ 20) ∧ ∀ u, u < 40 → (nod own u sz).map lt = lst (tmf cm dd u) nl
theorem CR_congr {b k nl sz : Nat} {own lt : Nat → Nat} {cm : Nat → Option Nat} {dd : Nat → Nat → Nat} {M N M' N' : Mem} (h : CR b k nl sz own lt cm dd M N) (e1 : M' (b + 1) = M (b + 1)) (e2 : M' (b + 2) = M (b + 2)) (e3 : M' (b + 3) = M (b + 3)) (e4 : M' (b + 4) = M (b + 4)) (e5 : M' (b + 5) = M (b + 5)) (f1 : N' 79 = N 79) (f2 : N' 81 = N 81) : CR b k nl sz own lt cm dd M' N' := by
  unfold CR at *
  rw [e1, e2, e3, e4, e5, f1, f2]
  exact h
theorem p_0has (b : Nat) (x : Int32) {n : Nat} {M : Mem} (h : M (b + 1) 0 = nI n) : fX0_has b x M = vin x n := by
  unfold fX0_has vin; rw [h]
theorem neg1_ne {q : Nat} (h : q < 2 ^ 31) : ¬ nI q = -1 := fun e => by
  have h1 : (nI q).toInt = q := nI_toInt h
  rw [e] at h1
  have h2 : (-1 : Int32).toInt = -1 := rfl
  omega
theorem chain_loop {b nl sz t k : Nat} {own lt : Nat → Nat} {cm : Nat → Option Nat} {dd : Nat → Nat → Nat} {M N : Mem} (hC : CR b k nl sz own lt cm dd M N) (hsz : sz ≤ 1220) (ht : t < 40) (hpres : ∀ (L : List Nat) (X Y : Mem), (∀ l ∈ L, l < nl) → TkC b M X → tkL b L X = some Y → TkC b M Y) : ∀ (B A : List Nat) (i : Nat) (X Y : Mem) (F : Nat), nod own t sz = A ++ B → i + B.length ≤ 1220 → TkC b M X → tkL b (B.map lt) X = some Y → B.length < F → loop F (un3 fun (v3 : Int32) (v4 : Int32) (M5 : Mem) => (if (1220 : Int32) ≤ v4 then (some (.inr M5)) else (if v3 = (-1 : Int32) then (some (.inr M5)) else ((fX0_letterOf b v3 M5).bind (fun (r8 : Int32) => (fX4_takeIn b r8 M5).bind (fun (M10 : Mem) => (fX0_behind b v3 M10).bind (fun (r12 : Int32) => nm (v4 + (1 : Int32)) fun (v14 : Int32) => some (.inl (r12, v14, M10))))))) : Option ((Int32 × Int32 × Mem) ⊕ (Mem)))) (hdI B, nI i, X) = some Y
  | [], A, i, X, Y, F, _, _, _, hY, hF => by
    obtain ⟨F', rfl⟩ : ∃ F', F = F' + 1 := ⟨F - 1, by simp at hF; omega⟩
    have hXY : X = Y := Option.some.inj hY
    subst hXY
    refine loop_out ?_
    simp only [un3, hdI]
    by_cases c : (1220 : Int32) ≤ nI i
    · rw [if_pos c]
    · rw [if_neg c, if_pos trivial]
  | q :: B, A, i, X, Y, F, hnod, hi, hX, hY, hF => by
    obtain ⟨F', rfl⟩ : ∃ F', F = F' + 1 := ⟨F - 1, by simp at hF; omega⟩
    obtain ⟨c1, c2, c3, c4, c5, -⟩ := id hC
    have hq : q < sz := (nod_lt (own := own) (u := t) (by rw [hnod]; simp)).1
    obtain ⟨hl1, hl2⟩ := c2 q hq
    obtain ⟨X2, hX2, hY2⟩ := bd_of (o := fX4_takeIn b (nI (lt q)) X) (k := tkL b (B.map lt)) hY
    have hX2' : TkC b M X2 := hpres [lt q] X X2 (by simpa using hl2) hX (by show (fX4_takeIn b (nI (lt q)) X).bind _ = _; rw [hX2]; rfl)
    simp only [List.length_cons] at hi hF
    have ih := chain_loop hC hsz ht hpres B (A ++ [q]) (i + 1) X2 Y F' (by rw [hnod]; simp) (by omega) hX2' hY2 (by omega)
    rw [loop_in]
    · exact ih
    · have e1 : X (b + 1) = M (b + 1) := hX.1 _ (by omega) (by omega) (by omega) (by omega)
      have e2 : X (b + 2) = M (b + 2) := hX.1 _ (by omega) (by omega) (by omega) (by omega)
      have f1 : X2 (b + 1) = M (b + 1) := hX2'.1 _ (by omega) (by omega) (by omega) (by omega)
      have f3 : X2 (b + 3) = M (b + 3) := hX2'.1 _ (by omega) (by omega) (by omega) (by omega)
      show (if (1220 : Int32) ≤ nI i then (some (.inr X) : Option ((Int32 × Int32 × Mem) ⊕ Mem)) else (if nI q = (-1 : Int32) then (some (.inr X)) else ((fX0_letterOf b (nI q) X).bind (fun (r8 : Int32) => (fX4_takeIn b r8 X).bind (fun (M10 : Mem) => (fX0_behind b (nI q) M10).bind (fun (r12 : Int32) => nm (nI i + (1 : Int32)) fun (v14 : Int32) => some (.inl (r12, v14, M10)))))))) = some (.inl (hdI B, nI (i + 1), X2))
      rw [if_neg (show ¬ (1220 : Int32) ≤ nI i from nI_ge (show i < 1220 by omega) (by decide)), if_neg (neg1_ne (show q < 2 ^ 31 by omega))]
      unfold fX0_letterOf fX0_behind
      rw [p_0has b _ (by rw [e1]; exact c1), vin_in hq (by omega)]
      simp only [Option.bind_some, if_neg b1, gd_nI (show q < 1220 by omega) (show 1220 < 2 ^ 31 by decide), nI_clamp (show q < 2 ^ 31 by omega), e2, hl1, hX2]
      rw [p_0has b _ (by rw [f1]; exact c1), vin_in hq (by omega)]
      simp only [Option.bind_some, if_neg b1, f3, c5 t ht A q B hnod, nm, nI_1]
theorem take_pres {b k n nl : Nat} {M N : Mem} (hn : n ≤ 6) (hnl : nl ≤ 1200) (h : PR b k n nl M N) : ∀ (L : List Nat) (X Y : Mem), (∀ l ∈ L, l < nl) → TkC b M X → tkL b L X = some Y → TkC b M Y
  | [], X, Y, _, hX, hY => by cases hY; exact hX
  | l :: L, X, Y, hL, hX, hY => by
    obtain ⟨X2, hX2, hY2⟩ := bd_of (o := fX4_takeIn b (nI l) X) (k := tkL b L) hY
    obtain ⟨s, r, hs, hr, q1, q2⟩ := h.2.2.1 l (hL l (by simp))
    obtain ⟨X3, e3, h3⟩ := take1 (b := b) (M := X) hn hnl (hL l (by simp)) hs hr (by rw [hX.1 (b + 12) (by omega) (by omega) (by omega) (by omega)]; exact h.2.2.2.1) (by rw [hX.1 (b + 13) (by omega) (by omega) (by omega) (by omega)]; exact q1) (by rw [hX.1 (b + 14) (by omega) (by omega) (by omega) (by omega)]; exact q2)
    have e4 : X3 = X2 := Option.some.inj (e3.symm.trans hX2)
    rw [e4] at h3
    refine take_pres hn hnl h L X2 Y (fun l hl => hL l (by simp [hl])) (hX.tr ?_) hY2
    rcases h3 with ⟨-, -, x1, x2, x3, x4, x5⟩ | ⟨-, x1, x2⟩
    · exact ⟨x1, fun i i1 i2 => by rw [x5, if_neg i1]⟩
    · exact ⟨fun c c1 _ _ _ => x1 c c1, fun i i1 i2 => by rw [x2, if_neg i2]⟩
theorem mul1200 (k j : Nat) : 1200 * nI k + nI j = nI (1200 * k + j) := by
  rw [show (1200 : Int32) = nI 1200 from rfl, pk_mul, nI_add]
theorem mul6' (l i : Nat) : 6 * nI l + nI i = nI (6 * l + i) := by
  rw [show (6 : Int32) = nI 6 from rfl, pk_mul, nI_add]
theorem take_sim {b k n nl sz t : Nat} {own lt : Nat → Nat} {cm : Nat → Option Nat} {dd : Nat → Nat → Nat} {M N : Mem} (hn : n ≤ 6) (hk : k < 2) (hnl : nl ≤ 1200) (hsz : sz ≤ 1220) (ht : t < 40) (h : PR b k n nl M N) (hC : CR b k nl sz own lt cm dd M N) : ∃ M' N', fX4_takeInComings b (nI t) M = some M' ∧ fX7_takeIn (nI k) (nI t) N = some N' ∧ PR b k n nl M' N' ∧ TkC b M M' ∧ TkM k N N' := by
  obtain ⟨c1, c2, c3, c4, c5, c6, c7, c8⟩ := id hC
  have hM : ∃ N', fX7_takeIn (nI k) (nI t) N = some N' ∧ ∃ M', tkL b (lst (tmf cm dd t) nl) M = some M' ∧ PR b k n nl M' N' ∧ TkC b M M' ∧ TkM k N N' := by
    unfold fX7_takeIn
    rw [bnd1]
    refine loop_one (P := fun j (s : Int32 × Mem) => s.1 = nI j ∧ ∃ M', tkL b (lst (tmf cm dd t) j) M = some M' ∧ PR b k n nl M' s.2 ∧ TkC b M M' ∧ TkM k N s.2) (Q := fun N' => ∃ M', tkL b (lst (tmf cm dd t) nl) M = some M' ∧ PR b k n nl M' N' ∧ TkC b M M' ∧ TkM k N N') nl ?_ ?_ fu 0 _ (by unfold fu; omega) (by omega) ⟨rfl, M, rfl, h, ⟨fun _ _ _ _ _ => rfl, fun _ _ _ => rfl⟩, fun _ _ _ _ _ _ => rfl, fun _ _ => ⟨rfl, rfl⟩, fun _ _ => rfl⟩
    · rintro j ⟨v, N2⟩ hj ⟨hv, M2, g1, g2, g3, g4⟩
      have hv' : v = nI j := hv
      subst hv'
      dsimp only at g2 g4
      have n79 : N2 79 = N 79 := g4.1 79 (by decide) (by decide) (by decide) (by decide) (by decide)
      have n81 : N2 81 = N 81 := g4.1 81 (by decide) (by decide) (by decide) (by decide) (by decide)
      have n66 : N2 66 k = nI nl := g2.2.2.2.2.1
      have skip : tmf cm dd t j = 0 → ∃ M', tkL b (lst (tmf cm dd t) (j + 1)) M = some M' ∧ PR b k n nl M' N2 ∧ TkC b M M' ∧ TkM k N N2 := fun e => ⟨M2, by show tkL b (lst (tmf cm dd t) j ++ List.replicate (tmf cm dd t j) j) M = _; rw [e]; simpa using g1, g2, g3, g4⟩
      have come : ∀ m, tmf cm dd t j = m + 1 → ∃ N', fX7_come (nI k) (nI (1200 * k + j)) (nI (m + 1)) N2 = some N' ∧ ∃ M', tkL b (lst (tmf cm dd t) (j + 1)) M = some M' ∧ PR b k n nl M' N' ∧ TkC b M M' ∧ TkM k N N' := by
        intro m e
        obtain ⟨M', N', h1, h2, h3, h4, h5⟩ := take_let (m := m) hn hk hnl hj g2
        refine ⟨N', h2, M', ?_, h3, g3.tr h4, g4.tr h5⟩
        show tkL b (lst (tmf cm dd t) j ++ List.replicate (tmf cm dd t j) j) M = _
        rw [e, tkL_app, g1]
        exact h1
      obtain ⟨d1, d2⟩ := c6 j hj
      have hg : ∀ {β : Type} (q : Option β), gd (nI (1200 * k + j)) 2400 q = q := fun q => gd_nI (by omega) (by decide)
      cases hcm : cm j with
      | none =>
        have e0 : tmf cm dd t j = 0 := by unfold tmf; rw [hcm]
        have d1' : N 79 (1200 * k + j) = -1 := by rw [d1, hcm]; rfl
        simp only [un2, nm, gd_nI hk (show 2 < 2 ^ 31 by decide), nI_clamp (show k < 2 ^ 31 by omega), n66, if_neg (nI_ge hj (show nl < 2 ^ 31 by omega)), mul1200, hg, nI_clamp (show 1200 * k + j < 2 ^ 31 by omega), n79, d1', nI_1]
        rw [if_pos (show (-1 : Int32) < 0 by decide)]
        exact ⟨_, rfl, rfl, skip e0⟩
      | some c =>
        have hc := d2 c hcm
        have d1' : N 79 (1200 * k + j) = nI c := by rw [d1, hcm]; rfl
        simp only [un2, nm, gd_nI hk (show 2 < 2 ^ 31 by decide), nI_clamp (show k < 2 ^ 31 by omega), n66, if_neg (nI_ge hj (show nl < 2 ^ 31 by omega)), mul1200, hg, nI_clamp (show 1200 * k + j < 2 ^ 31 by omega), n79, d1', nI_1]
        rw [if_neg (nI_pos (show c < 2 ^ 31 by omega))]
        rcases Nat.lt_or_ge t c with h1 | h1
        · have e0 : tmf cm dd t j = 0 := by unfold tmf; rw [hcm]; simp only; rw [if_neg (by omega), if_neg (by omega)]
          have : fX7_in (nI t - nI c) 0 5 = some 0 := by unfold fX7_in; rw [if_pos (pk_sneg (by omega) h1)]
          rw [this]
          simp only [Option.bind_some, if_pos rfl]
          exact ⟨_, rfl, rfl, skip e0⟩
        · rw [pk_sub h1, show fX7_in (nI (t - c)) 0 5 = vin (nI (t - c)) 6 from p_in (m := 6) _ (by decide)]
          rcases Nat.lt_or_ge (t - c) 6 with h2 | h2
          · rw [vin_in h2 (by decide)]
            simp only [Option.bind_some, if_neg b1]
            by_cases h3 : t = c
            · subst h3
              have e0 : tmf cm dd t j = 0 + 1 := by unfold tmf; rw [hcm]; simp
              rw [Nat.sub_self, if_pos (show nI 0 = 0 from rfl), if_neg (show ¬ (1 : Int32) ≤ 0 by decide)]
              obtain ⟨N', p1, p2⟩ := come 0 e0
              have p1' : fX7_come (nI k) (nI (1200 * k + j)) 1 N2 = some N' := p1
              rw [p1']
              exact ⟨_, rfl, rfl, p2⟩
            · have e0 : tmf cm dd t j = dd j (t - c) := by unfold tmf; rw [hcm]; simp only; rw [if_neg h3, if_pos (by omega)]
              obtain ⟨d3, d4⟩ := c7 j (t - c) hj (by omega) h2
              rw [if_neg (nI_ne0 (show 0 < t - c by omega) (by omega)), mul6', gd_nI (show 6 * (1200 * k + j) + (t - c) < 14400 by omega) (by decide), nI_clamp (show 6 * (1200 * k + j) + (t - c) < 2 ^ 31 by omega), n81, d3]
              rcases Nat.eq_zero_or_pos (dd j (t - c)) with h4 | h4
              · rw [h4, if_pos (show nI 0 ≤ 0 by decide)]
                exact ⟨_, rfl, rfl, skip (by rw [e0, h4])⟩
              · rw [if_neg (nI_nle h4 (by omega))]
                obtain ⟨N', p1, p2⟩ := come (dd j (t - c) - 1) (by omega)
                rw [show dd j (t - c) - 1 + 1 = dd j (t - c) by omega] at p1
                rw [p1]
                exact ⟨_, rfl, rfl, p2⟩
          · rw [vin_big (nI_le h2 (by omega))]
            have e0 : tmf cm dd t j = 0 := by unfold tmf; rw [hcm]; simp only; rw [if_neg (by omega), if_neg (by omega)]
            simp only [Option.bind_some, if_pos rfl]
            exact ⟨_, rfl, rfl, skip e0⟩
    · rintro ⟨v, N2⟩ ⟨hv, hx⟩
      have hv' : v = nI nl := hv
      subst hv'
      obtain ⟨M2, g1, g2, g3, g4⟩ := id hx
      dsimp only at g2
      have n66 : N2 66 k = nI nl := g2.2.2.2.2.1
      refine ⟨N2, ?_, hx⟩
      simp only [un2, gd_nI hk (show 2 < 2 ^ 31 by decide), nI_clamp (show k < 2 ^ 31 by omega), n66, if_pos (nI_le (Nat.le_refl nl) (show nl < 2 ^ 31 by omega))]
  obtain ⟨N', a1, M', a2, a3, a4, a5⟩ := hM
  refine ⟨M', N', ?_, a1, a3, a4, a5⟩
  unfold fX4_takeInComings fX0_firstAt
  rw [show fX6_isTurn (nI t) = some 1 from vin_in (n := 40) ht (by decide)]
  simp only [Option.bind_some, if_neg b1, gd_nI ht (show 40 < 2 ^ 31 by decide), nI_clamp (show t < 2 ^ 31 by omega), c3 t ht]
  rw [bnd1]
  have hlen := nod_len (own := own) (u := t) sz
  exact chain_loop hC hsz ht (take_pres hn hnl h) (nod own t sz) [] 0 M M' fu rfl (by omega) ⟨fun _ _ _ _ _ => rfl, fun _ _ _ => rfl⟩ (by rw [c8 t ht]; exact a2) (by unfold fu; omega)
