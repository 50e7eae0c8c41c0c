/-! ===== a coming is added to its chain ===== -/
theorem nod_congr {own own' : Nat → Nat} {v : Nat} : ∀ {sz : Nat}, (∀ q, q < sz → own' q = own q) → nod own' v sz = nod own v sz
  | 0, _ => rfl
  | sz + 1, h => by
    show nod own' v sz ++ _ = nod own v sz ++ _
    rw [nod_congr (fun q hq => h q (by omega)), h sz (by omega)]
theorem nod_pw {own : Nat → Nat} {u : Nat} : ∀ (sz : Nat), (nod own u sz).Pairwise (· < ·)
  | 0 => List.Pairwise.nil
  | sz + 1 => by
    show (nod own u sz ++ _).Pairwise _
    rw [List.pairwise_append]
    refine ⟨nod_pw sz, ?_, fun a ha b hb => ?_⟩
    · by_cases c : own sz = u
      · rw [if_pos c]; simp
      · rw [if_neg c]; simp
    · have h1 := (nod_lt ha).1
      by_cases c : own sz = u
      · rw [if_pos c] at hb
        have : b = sz := List.mem_singleton.mp hb
        omega
      · rw [if_neg c] at hb; cases hb
/-- the class's chains: node q of turn own q holds letter lt q -/
def CH (b sz : Nat) (own lt : Nat → Nat) (M : Mem) : Prop := M (b + 1) 0 = nI sz ∧ (∀ q, q < sz → M (b + 2) q = nI (lt q)) ∧ (∀ u, u < 40 → M (b + 4) u = hdI (nod own u sz)) ∧ (∀ u, u < 40 → M (b + 5) u = hdI (nod own u sz).reverse) ∧ (∀ u, u < 40 → ∀ A q B, nod own u sz = A ++ q :: B → M (b + 3) q = hdI B) ∧ ∀ q, q < sz → own q < 40
def AdC (b : Nat) (M M' : Mem) : Prop := ∀ c, c ≠ b + 1 → c ≠ b + 2 → c ≠ b + 3 → c ≠ b + 4 → c ≠ b + 5 → M' c = M c
theorem add_ch {b sz u l : Nat} {own lt : Nat → Nat} {M : Mem} (h : CH b sz own lt M) (hsz : sz < 1220) (hu : u < 40) : ∃ M', fX0_add b (nI l) (nI u) M = some M' ∧ CH b (sz + 1) (fun q => if q = sz then u else own q) (fun q => if q = sz then l else lt q) M' ∧ AdC b M M' := by
  obtain ⟨c1, c2, c3, c4, c5, c6⟩ := h
  have hn : ∀ v, nod (fun q => if q = sz then u else own q) v (sz + 1) = nod own v sz ++ (if u = v then [sz] else []) := fun v => by
    show nod _ v sz ++ (if (if sz = sz then u else own sz) = v then [sz] else []) = _
    rw [nod_congr (own := own) (fun q hq => if_neg (by omega)), if_pos rfl]
  have hgu : ∀ {β : Type} (k : Option β), gd (nI u) 40 k = k := fun k => gd_nI hu (by decide)
  have hgs : ∀ {β : Type} (k : Option β), gd (nI sz) 1220 k = k := fun k => gd_nI hsz (by decide)
  have e5 : st (st M (b + 2) sz (nI l)) (b + 3) sz (-1) (b + 5) u = hdI (nod own u sz).reverse := by
    rw [st_c _ _ _ (show b + 5 ≠ b + 3 by omega), st_c _ _ _ (show b + 5 ≠ b + 2 by omega)]; exact c4 u hu
  -- the two ways
  have red : fX0_add b (nI l) (nI u) M = (if hdI (nod own u sz).reverse = -1 then some (st (st (st (st (st M (b + 2) sz (nI l)) (b + 3) sz (-1)) (b + 4) u (nI sz)) (b + 5) u (nI sz)) (b + 1) 0 (nI (sz + 1))) else gd (hdI (nod own u sz).reverse) 1220 (some (st (st (st (st (st M (b + 2) sz (nI l)) (b + 3) sz (-1)) (b + 3) (Int32.toNatClampNeg (hdI (nod own u sz).reverse)) (nI sz)) (b + 5) u (nI sz)) (b + 1) 0 (nI (sz + 1))))) := by
    unfold fX0_add
    rw [if_neg (nI_pos (show u < 2 ^ 31 by omega)), if_neg (show ¬ (40 : Int32) ≤ nI u from nI_ge hu (by decide)), c1, if_pos (show nI sz < 1220 from nI_lt hsz (by decide))]
    simp only [nm, hgs, hgu, c1, nI_clamp (show sz < 2 ^ 31 by omega), nI_clamp (show u < 2 ^ 31 by omega), st_c _ _ _ (show b + 1 ≠ b + 2 by omega), st_c _ _ _ (show b + 1 ≠ b + 3 by omega), st_c _ _ _ (show b + 1 ≠ b + 4 by omega), st_c _ _ _ (show b + 1 ≠ b + 5 by omega), e5, nI_1]
  have l2 : ∀ {X : Mem}, X (b + 2) = upd (M (b + 2)) sz (nI l) → ∀ q, q < sz + 1 → X (b + 2) q = nI (if q = sz then l else lt q) := by
    intro X hX q hq
    rw [hX]
    unfold upd
    by_cases e : q = sz
    · rw [if_pos e, if_pos e]
    · rw [if_neg e, if_neg e]; exact c2 q (by omega)
  have l5 : ∀ {X : Mem}, X (b + 5) = upd (M (b + 5)) u (nI sz) → ∀ v, v < 40 → X (b + 5) v = hdI (nod own v sz ++ (if u = v then [sz] else [])).reverse := by
    intro X hX v hv
    rw [hX]
    unfold upd
    by_cases e : v = u
    · subst e; rw [if_pos rfl, if_pos rfl, List.reverse_append]; rfl
    · rw [if_neg e, if_neg (Ne.symm e), List.append_nil]; exact c4 v hv
  have l6 : ∀ q, q < sz + 1 → (if q = sz then u else own q) < 40 := fun q hq => by
    by_cases e : q = sz
    · rw [if_pos e]; exact hu
    · rw [if_neg e]; exact c6 q (by omega)
  rcases List.eq_nil_or_concat (nod own u sz) with hQ | ⟨Q', p, hQ⟩
  · refine ⟨st (st (st (st (st M (b + 2) sz (nI l)) (b + 3) sz (-1)) (b + 4) u (nI sz)) (b + 5) u (nI sz)) (b + 1) 0 (nI (sz + 1)), ?_, ⟨st_cc _ _ _ _, l2 (by simp [st, va_up]), fun v hv => ?_, fun v hv => by rw [hn v]; exact l5 (by simp [st, va_up]) v hv, fun v hv A q B hAB => ?_, l6⟩, fun c a1 a2 a3 a4 a5 => by rw [st_c _ _ _ a1, st_c _ _ _ a5, st_c _ _ _ a4, st_c _ _ _ a3, st_c _ _ _ a2]⟩
    · rw [red, hQ]; rfl
    · rw [hn v, st_c _ _ _ (show b + 4 ≠ b + 1 by omega), st_c _ _ _ (show b + 4 ≠ b + 5 by omega)]
      by_cases e : v = u
      · subst e; rw [st_cc, if_pos rfl, hQ]; rfl
      · rw [st_ck _ _ e, if_neg (Ne.symm e), List.append_nil, st_c _ _ _ (show b + 4 ≠ b + 3 by omega), st_c _ _ _ (show b + 4 ≠ b + 2 by omega)]; exact c3 v hv
    · rw [hn v] at hAB
      rw [st_c _ _ _ (show b + 3 ≠ b + 1 by omega), st_c _ _ _ (show b + 3 ≠ b + 5 by omega), st_c _ _ _ (show b + 3 ≠ b + 4 by omega)]
      by_cases e : v = u
      · subst e
        rw [if_pos rfl, hQ] at hAB
        have h1 : A = [] ∧ q = sz ∧ B = [] := by
          cases A with
          | nil => simp at hAB; exact ⟨rfl, hAB.1.symm, hAB.2⟩
          | cons x A => simp at hAB
        obtain ⟨-, rfl, rfl⟩ := h1
        rw [st_cc]; rfl
      · rw [if_neg (Ne.symm e), List.append_nil] at hAB
        have hq : q < sz := (nod_lt (own := own) (u := v) (by rw [hAB]; simp)).1
        rw [st_ck _ _ (show q ≠ sz by omega), st_c _ _ _ (show b + 3 ≠ b + 2 by omega)]; exact c5 v hv A q B hAB
  · rw [List.concat_eq_append] at hQ
    obtain ⟨hp, hpo⟩ := nod_lt (own := own) (u := u) (sz := sz) (q := p) (by rw [hQ]; simp)
    have hr : hdI (nod own u sz).reverse = nI p := by rw [hQ, List.reverse_append]; rfl
    refine ⟨st (st (st (st (st M (b + 2) sz (nI l)) (b + 3) sz (-1)) (b + 3) p (nI sz)) (b + 5) u (nI sz)) (b + 1) 0 (nI (sz + 1)), ?_, ⟨st_cc _ _ _ _, l2 (by simp [st, va_up]), fun v hv => ?_, fun v hv => by rw [hn v]; exact l5 (by simp [st, va_up]) v hv, fun v hv A q B hAB => ?_, l6⟩, fun c a1 a2 a3 a4 a5 => by rw [st_c _ _ _ a1, st_c _ _ _ a5, st_c _ _ _ a3, st_c _ _ _ a3, st_c _ _ _ a2]⟩
    · rw [red, hr, if_neg (neg1_ne (by omega)), gd_nI (show p < 1220 by omega) (by decide), nI_clamp (by omega)]
    · rw [hn v, st_c _ _ _ (show b + 4 ≠ b + 1 by omega), st_c _ _ _ (show b + 4 ≠ b + 5 by omega), st_c _ _ _ (show b + 4 ≠ b + 3 by omega), st_c _ _ _ (show b + 4 ≠ b + 3 by omega), st_c _ _ _ (show b + 4 ≠ b + 2 by omega), c3 v hv]
      by_cases e : v = u
      · subst e
        rw [if_pos rfl, hQ]
        cases Q' <;> rfl
      · rw [if_neg (Ne.symm e), List.append_nil]
    · rw [hn v] at hAB
      rw [st_c _ _ _ (show b + 3 ≠ b + 1 by omega), st_c _ _ _ (show b + 3 ≠ b + 5 by omega)]
      by_cases e : v = u
      · subst e
        rw [if_pos rfl] at hAB
        rcases List.eq_nil_or_concat B with hB | ⟨B', x, hB⟩
        · subst hB
          obtain ⟨h1, h2⟩ := List.append_inj' hAB rfl
          have h3 : q = sz := by simpa using h2.symm
          subst h3
          rw [st_ck _ _ (show q ≠ p by omega), st_cc]; rfl
        · rw [List.concat_eq_append] at hB
          subst hB
          have hAB2 : nod own v sz ++ [sz] = (A ++ q :: B') ++ [x] := by rw [hAB]; simp
          obtain ⟨h1, h2⟩ := List.append_inj' hAB2 rfl
          have h3 : x = sz := by simpa using h2.symm
          subst h3
          cases B' with
          | nil =>
            rw [hQ] at h1
            obtain ⟨-, h4⟩ := List.append_inj' h1 rfl
            have h5 : q = p := by simpa using h4.symm
            subst h5
            rw [st_cc]; rfl
          | cons y B' =>
            have hpw := nod_pw (own := own) (u := v) x
            rw [h1, List.pairwise_append] at hpw
            have hlt := (List.pairwise_cons.mp hpw.2.1).1
            have hpm : p ∈ y :: B' := by
              rcases List.eq_nil_or_concat (y :: B') with h6 | ⟨B2, z, h6⟩
              · cases h6
              · rw [List.concat_eq_append] at h6
                have h7 : Q' ++ [p] = (A ++ q :: B2) ++ [z] := by rw [← hQ, h1, h6]; simp
                obtain ⟨-, h8⟩ := List.append_inj' h7 rfl
                have h9 : p = z := by simpa using h8
                rw [h6, h9]; simp
            have hqp := hlt p hpm
            have hq : q < x := (nod_lt (own := own) (u := v) (by rw [h1]; simp)).1
            rw [st_ck _ _ (show q ≠ p by omega), st_ck _ _ (show q ≠ x by omega), st_c _ _ _ (show b + 3 ≠ b + 2 by omega), c5 v hv A q (y :: B') h1]
            rfl
      · rw [if_neg (Ne.symm e), List.append_nil] at hAB
        obtain ⟨hq, hqo⟩ := nod_lt (own := own) (u := v) (sz := sz) (q := q) (by rw [hAB]; simp)
        have hqp : q ≠ p := fun e2 => e (by rw [← hqo, e2, hpo])
        rw [st_ck _ _ hqp, st_ck _ _ (show q ≠ sz by omega), st_c _ _ _ (show b + 3 ≠ b + 2 by omega)]; exact c5 v hv A q B hAB
/-- the chains as lists of letters -/
def CL (b sz : Nat) (L : Nat → List Nat) (M : Mem) : Prop := ∃ own lt, CH b sz own lt M ∧ ∀ v, v < 40 → (nod own v sz).map lt = L v
theorem add_cl {b sz u l : Nat} {L : Nat → List Nat} {M : Mem} (h : CL b sz L M) (hsz : sz < 1220) (hu : u < 2 ^ 30) : ∃ M' sz', fX0_add b (nI l) (nI u) M = some M' ∧ sz' ≤ sz + 1 ∧ CL b sz' (fun v => L v ++ (if u = v then [l] else [])) M' ∧ AdC b M M' := by
  obtain ⟨own, lt, hC, hL⟩ := h
  rcases Nat.lt_or_ge u 40 with h1 | h1
  · obtain ⟨M', e, hC', hA⟩ := add_ch (l := l) hC hsz h1
    refine ⟨M', sz + 1, e, Nat.le_refl _, ⟨_, _, hC', fun v hv => ?_⟩, hA⟩
    show List.map _ (nod _ v sz ++ (if (if sz = sz then u else own sz) = v then [sz] else [])) = L v ++ (if u = v then [l] else [])
    rw [nod_congr (own := own) (fun q hq => if_neg (by omega)), if_pos rfl, List.map_append, ← hL v hv]
    congr 1
    · apply List.map_congr_left
      intro q hq
      rw [if_neg (by have := (nod_lt hq).1; omega)]
    · by_cases e2 : u = v
      · rw [if_pos e2, if_pos e2]; simp
      · rw [if_neg e2, if_neg e2]; rfl
  · refine ⟨M, sz, ?_, by omega, ⟨own, lt, hC, fun v hv => ?_⟩, fun _ _ _ _ _ _ => rfl⟩
    · unfold fX0_add
      rw [if_neg (nI_pos (show u < 2 ^ 31 by omega)), if_pos (show (40 : Int32) ≤ nI u from nI_le h1 (by omega))]
    · show List.map lt (nod own v sz) = L v ++ (if u = v then [l] else [])
      rw [if_neg (show ¬ u = v by omega), List.append_nil]; exact hL v hv
