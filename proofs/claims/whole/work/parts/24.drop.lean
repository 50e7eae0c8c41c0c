/-! ===== an event goes ===== -/
def shf (i p : Nat) (f : Nat → Int32) : Nat → Int32 := fun e => if i ≤ e ∧ e < p then f (e + 1) else f e
theorem shf_0 (i : Nat) (f : Nat → Int32) : shf i i f = f := by
  funext e
  unfold shf
  rw [if_neg (by omega)]
theorem shf_up {i p : Nat} (f : Nat → Int32) (h : i ≤ p) : upd (shf i p f) p (f (p + 1)) = shf i (p + 1) f := by
  funext e
  unfold upd shf
  by_cases c : e = p
  · subst c; rw [if_pos rfl, if_pos (by omega)]
  · rw [if_neg c]
    by_cases c2 : i ≤ e ∧ e < p
    · rw [if_pos c2, if_pos (by omega)]
    · rw [if_neg c2, if_neg (by omega)]
theorem shf_at {i p : Nat} (f : Nat → Int32) : shf i p f (p + 1) = f (p + 1) := by unfold shf; rw [if_neg (by omega)]
theorem shf_sk {i p e : Nat} (f : Nat → Int32) (h : e < p) : shf i p f e = f (sk i e) := by
  unfold shf sk
  by_cases c : e < i
  · rw [if_neg (by omega), if_pos c]
  · rw [if_pos (by omega), if_neg c]
theorem p_remove {M : Mem} {n ne i : Nat} (h5 : M 5 0 = nI ne) (hne : ne ≤ 20) (hi : i < ne) (hok : EvOK n (M 6 i) (M 7 i) (M 8 i) (M 9 i)) (hb : ∀ e, e < ne → bool01 (M 10 e)) (hnam : iNam ne M) : ∃ M', fX5_remove (nI i) M = some M' ∧ M' 5 0 = nI (ne - 1) ∧ (∀ c, c < 5 ∨ 12 ≤ c → M' c = M c) ∧ M' 6 = shf i (ne - 1) (M 6) ∧ M' 7 = shf i (ne - 1) (M 7) ∧ M' 8 = shf i (ne - 1) (M 8) ∧ M' 9 = shf i (ne - 1) (M 9) ∧ M' 10 = shf i (ne - 1) (M 10) ∧ iNam (ne - 1) M' := by
  obtain ⟨M4, q1, q2, q3⟩ := p_cn (M := M) (n := n) (i := i) (-1) (by omega) hok
  have s5 : ∀ c, c ≠ 5 → st M4 5 0 (nI (ne - 1)) c = M4 c := fun c hc => st_c _ _ _ hc
  have hL := loop_one (f := un2 fun (v7 : Int32) (M8 : Mem) => (if (M8 5 0) ≤ v7 then (some (.inr M8)) else (gd (v7 + (1 : Int32)) 20 (gd v7 20 (nm (st M8 6 (Int32.toNatClampNeg v7) (M8 6 (Int32.toNatClampNeg (v7 + (1 : Int32))))) fun (M12 : Mem) => gd (v7 + (1 : Int32)) 20 (gd v7 20 (nm (st M12 7 (Int32.toNatClampNeg v7) (M12 7 (Int32.toNatClampNeg (v7 + (1 : Int32))))) fun (M15 : Mem) => gd (v7 + (1 : Int32)) 20 (gd v7 20 (nm (st M15 8 (Int32.toNatClampNeg v7) (M15 8 (Int32.toNatClampNeg (v7 + (1 : Int32))))) fun (M18 : Mem) => gd (v7 + (1 : Int32)) 20 (gd v7 20 (nm (st M18 9 (Int32.toNatClampNeg v7) (M18 9 (Int32.toNatClampNeg (v7 + (1 : Int32))))) fun (M21 : Mem) => gd (v7 + (1 : Int32)) 20 (gd v7 20 (nm (st M21 10 (Int32.toNatClampNeg v7) (vp_nar .boolean (M21 10 (Int32.toNatClampNeg (v7 + (1 : Int32)))))) fun (M24 : Mem) => nm (v7 + (1 : Int32)) fun (v25 : Int32) => some (.inl (v25, M24))))))))))))) : Option ((Int32 × Mem) ⊕ (Mem))))
    (P := fun p s => i ≤ p ∧ s.1 = nI p ∧ s.2 5 0 = nI (ne - 1) ∧ (∀ c, c < 5 ∨ 11 ≤ c → s.2 c = M4 c) ∧ s.2 6 = shf i p (M 6) ∧ s.2 7 = shf i p (M 7) ∧ s.2 8 = shf i p (M 8) ∧ s.2 9 = shf i p (M 9) ∧ s.2 10 = shf i p (M 10))
    (Q := fun M' => M' 5 0 = nI (ne - 1) ∧ (∀ c, c < 5 ∨ 11 ≤ c → M' c = M4 c) ∧ M' 6 = shf i (ne - 1) (M 6) ∧ M' 7 = shf i (ne - 1) (M 7) ∧ M' 8 = shf i (ne - 1) (M 8) ∧ M' 9 = shf i (ne - 1) (M 9) ∧ M' 10 = shf i (ne - 1) (M 10)) (ne - 1) (by
      rintro p ⟨v, M8⟩ hp ⟨hip, hv, h1, h2, h3, h4, h5, h6, h7⟩
      have hv' : v = nI p := hv
      subst hv'
      dsimp only at h1 h2 h3 h4 h5 h6 h7
      have hg1 : ∀ {β : Type} (k : Option β), gd (nI p) 20 k = k := fun k => gd_nI (by omega) (by decide)
      have hg2 : ∀ {β : Type} (k : Option β), gd (nI (p + 1)) 20 k = k := fun k => gd_nI (by omega) (by decide)
      refine ⟨(nI (p + 1), st (st (st (st (st M8 6 p (M8 6 (p + 1))) 7 p (M8 7 (p + 1))) 8 p (M8 8 (p + 1))) 9 p (M8 9 (p + 1))) 10 p (M8 10 (p + 1))), ?_, by omega, rfl, ?_, ?_, ?_, ?_, ?_, ?_, ?_⟩
      · have hb10 : vp_nar .boolean (M8 10 (p + 1)) = M8 10 (p + 1) := nar01 (by rw [h7, shf_at]; exact hb (p + 1) (by omega))
        simp only [un2, nm, h1, if_neg (nI_ge hp (show ne - 1 < 2 ^ 31 by omega)), nI_1, hg1, hg2, nI_clamp (show p < 2 ^ 31 by omega), nI_clamp (show p + 1 < 2 ^ 31 by omega), st_c _ _ _ (show 7 ≠ 6 by decide), st_c _ _ _ (show 8 ≠ 7 by decide), st_c _ _ _ (show 8 ≠ 6 by decide), st_c _ _ _ (show 9 ≠ 8 by decide), st_c _ _ _ (show 9 ≠ 7 by decide), st_c _ _ _ (show 9 ≠ 6 by decide), st_c _ _ _ (show 10 ≠ 9 by decide), st_c _ _ _ (show 10 ≠ 8 by decide), st_c _ _ _ (show 10 ≠ 7 by decide), st_c _ _ _ (show 10 ≠ 6 by decide), hb10]
      · simp only [st_c _ _ _ (show 5 ≠ 6 by decide), st_c _ _ _ (show 5 ≠ 7 by decide), st_c _ _ _ (show 5 ≠ 8 by decide), st_c _ _ _ (show 5 ≠ 9 by decide), st_c _ _ _ (show 5 ≠ 10 by decide), h1]
      · intro c hc
        show st (st (st (st (st M8 6 p _) 7 p _) 8 p _) 9 p _) 10 p _ c = _
        rw [st_c _ _ _ (by omega), st_c _ _ _ (by omega), st_c _ _ _ (by omega), st_c _ _ _ (by omega), st_c _ _ _ (by omega)]; exact h2 c hc
      · show _ = shf i (p + 1) (M 6)
        rw [← shf_up _ hip, ← h3, ← shf_at (i := i) (p := p) (M 6), ← h3]
        simp [st, va_up]
      · show _ = shf i (p + 1) (M 7)
        rw [← shf_up _ hip, ← h4, ← shf_at (i := i) (p := p) (M 7), ← h4]
        simp [st, va_up]
      · show _ = shf i (p + 1) (M 8)
        rw [← shf_up _ hip, ← h5, ← shf_at (i := i) (p := p) (M 8), ← h5]
        simp [st, va_up]
      · show _ = shf i (p + 1) (M 9)
        rw [← shf_up _ hip, ← h6, ← shf_at (i := i) (p := p) (M 9), ← h6]
        simp [st, va_up]
      · show _ = shf i (p + 1) (M 10)
        rw [← shf_up _ hip, ← h7, ← shf_at (i := i) (p := p) (M 10), ← h7]
        simp [st, va_up]) (by
      rintro ⟨v, M8⟩ ⟨hip, hv, h1, h2, h3⟩
      have hv' : v = nI (ne - 1) := hv
      subst hv'
      dsimp only at h1 h2 h3
      refine ⟨M8, ?_, h1, h2, h3⟩
      simp only [un2, h1, if_pos (nI_le (Nat.le_refl (ne - 1)) (show ne - 1 < 2 ^ 31 by omega))]) fu i (nI i, st M4 5 0 (nI (ne - 1))) (by unfold fu; omega) (by omega) ⟨Nat.le_refl i, rfl, st_cc M4 5 0 (nI (ne - 1)), fun c hc => s5 c (by omega), by rw [shf_0]; exact (s5 6 (by decide)).trans (q2 6 (by decide)), by rw [shf_0]; exact (s5 7 (by decide)).trans (q2 7 (by decide)), by rw [shf_0]; exact (s5 8 (by decide)).trans (q2 8 (by decide)), by rw [shf_0]; exact (s5 9 (by decide)).trans (q2 9 (by decide)), by rw [shf_0]; exact (s5 10 (by decide)).trans (q2 10 (by decide))⟩
  obtain ⟨M', hl, a1, a2, a3, a4, a5, a6, a7⟩ := hL
  have hs1 : nI ne - 1 = nI (ne - 1) := by
    have := nI_pred (ne - 1)
    rwa [show ne - 1 + 1 = ne by omega] at this
  refine ⟨M', ?_, a1, fun c hc => by rw [a2 c (by omega), q2 c (by omega)], a3, a4, a5, a6, a7, ?_⟩
  · unfold fX5_remove
    rw [p_5has _ h5, vin_in hi (by omega)]
    simp only [Option.bind_some, if_neg b1, q1, nm, q2 5 (by decide), h5, hs1]
    rw [bnd1]
    exact hl
  · intro k hk
    rw [a2 11 (by decide), q3 k hk, hnam k hk]
    have hg : ∀ e, e < ne - 1 → nmg M' k e = nmg M k (sk i e) := fun e he => by
      simp only [nmg, a3, a5, shf_sk _ he]
    have hs := cnt_skip (p := nmg M k) (i := i) (n := ne - 1) (by omega)
    rw [show ne - 1 + 1 = ne by omega] at hs
    rw [cnt_congr hg]
    by_cases c : nmg M k i
    · rw [if_pos c] at hs ⊢
      rw [← hs, pk_m1]
    · rw [if_neg c] at hs ⊢
      rw [← hs, Nat.add_zero]
theorem p_mremove {M : Mem} {ne i : Nat} (h5 : M 56 4 = nI ne) (hne : ne ≤ 20) (hi : i < ne) : ∃ M', fX7_remove (nI i) M = some M' ∧ M' 56 4 = nI (ne - 1) ∧ (∀ k, k ≠ 4 → M' 56 k = M 56 k) ∧ (∀ c, c ≠ 56 → c ≠ 60 → c ≠ 61 → c ≠ 62 → c ≠ 63 → M' c = M c) ∧ M' 60 = shf i (ne - 1) (M 60) ∧ M' 61 = shf i (ne - 1) (M 61) ∧ M' 62 = shf i (ne - 1) (M 62) ∧ M' 63 = shf i (ne - 1) (M 63) := by
  have hL := loop_one (f := un2 fun (v1 : Int32) (M2 : Mem) => (if (M2 56 4) ≤ (v1 + (1 : Int32)) then (some (.inr M2)) else (gd (v1 + (1 : Int32)) 20 (gd v1 20 (nm (st M2 60 (Int32.toNatClampNeg v1) (M2 60 (Int32.toNatClampNeg (v1 + (1 : Int32))))) fun (M6 : Mem) => gd (v1 + (1 : Int32)) 20 (gd v1 20 (nm (st M6 61 (Int32.toNatClampNeg v1) (M6 61 (Int32.toNatClampNeg (v1 + (1 : Int32))))) fun (M9 : Mem) => gd (v1 + (1 : Int32)) 20 (gd v1 20 (nm (st M9 62 (Int32.toNatClampNeg v1) (M9 62 (Int32.toNatClampNeg (v1 + (1 : Int32))))) fun (M12 : Mem) => gd (v1 + (1 : Int32)) 20 (gd v1 20 (nm (st M12 63 (Int32.toNatClampNeg v1) (M12 63 (Int32.toNatClampNeg (v1 + (1 : Int32))))) fun (M15 : Mem) => nm (v1 + (1 : Int32)) fun (v16 : Int32) => some (.inl (v16, M15))))))))))) : Option ((Int32 × Mem) ⊕ (Mem))))
    (P := fun p s => i ≤ p ∧ s.1 = nI p ∧ (∀ c, c ≠ 60 → c ≠ 61 → c ≠ 62 → c ≠ 63 → s.2 c = M c) ∧ s.2 60 = shf i p (M 60) ∧ s.2 61 = shf i p (M 61) ∧ s.2 62 = shf i p (M 62) ∧ s.2 63 = shf i p (M 63))
    (Q := fun M' => (∀ c, c ≠ 60 → c ≠ 61 → c ≠ 62 → c ≠ 63 → M' c = M c) ∧ M' 60 = shf i (ne - 1) (M 60) ∧ M' 61 = shf i (ne - 1) (M 61) ∧ M' 62 = shf i (ne - 1) (M 62) ∧ M' 63 = shf i (ne - 1) (M 63)) (ne - 1) (by
      rintro p ⟨v, M8⟩ hp ⟨hip, hv, h2, h3, h4, h5', h6⟩
      have hv' : v = nI p := hv
      subst hv'
      dsimp only at h2 h3 h4 h5' h6
      have hg1 : ∀ {β : Type} (k : Option β), gd (nI p) 20 k = k := fun k => gd_nI (by omega) (by decide)
      have hg2 : ∀ {β : Type} (k : Option β), gd (nI (p + 1)) 20 k = k := fun k => gd_nI (by omega) (by decide)
      have h56 : M8 56 4 = nI ne := by rw [h2 56 (by decide) (by decide) (by decide) (by decide)]; exact h5
      refine ⟨(nI (p + 1), st (st (st (st M8 60 p (M8 60 (p + 1))) 61 p (M8 61 (p + 1))) 62 p (M8 62 (p + 1))) 63 p (M8 63 (p + 1))), ?_, by omega, rfl, ?_, ?_, ?_, ?_, ?_⟩
      · simp only [un2, nm, h56, nI_1, if_neg (nI_ge (show p + 1 < ne by omega) (show ne < 2 ^ 31 by omega)), hg1, hg2, nI_clamp (show p < 2 ^ 31 by omega), nI_clamp (show p + 1 < 2 ^ 31 by omega), st_c _ _ _ (show 61 ≠ 60 by decide), st_c _ _ _ (show 62 ≠ 61 by decide), st_c _ _ _ (show 62 ≠ 60 by decide), st_c _ _ _ (show 63 ≠ 62 by decide), st_c _ _ _ (show 63 ≠ 61 by decide), st_c _ _ _ (show 63 ≠ 60 by decide)]
      · intro c c1 c2 c3 c4
        show st (st (st (st M8 60 p _) 61 p _) 62 p _) 63 p _ c = _
        rw [st_c _ _ _ c4, st_c _ _ _ c3, st_c _ _ _ c2, st_c _ _ _ c1]; exact h2 c c1 c2 c3 c4
      · show _ = shf i (p + 1) (M 60)
        rw [← shf_up _ hip, ← h3, ← shf_at (i := i) (p := p) (M 60), ← h3]
        simp [st, va_up]
      · show _ = shf i (p + 1) (M 61)
        rw [← shf_up _ hip, ← h4, ← shf_at (i := i) (p := p) (M 61), ← h4]
        simp [st, va_up]
      · show _ = shf i (p + 1) (M 62)
        rw [← shf_up _ hip, ← h5', ← shf_at (i := i) (p := p) (M 62), ← h5']
        simp [st, va_up]
      · show _ = shf i (p + 1) (M 63)
        rw [← shf_up _ hip, ← h6, ← shf_at (i := i) (p := p) (M 63), ← h6]
        simp [st, va_up]) (by
      rintro ⟨v, M8⟩ ⟨hip, hv, h2, h3⟩
      have hv' : v = nI (ne - 1) := hv
      subst hv'
      dsimp only at h2 h3
      have h56 : M8 56 4 = nI ne := by rw [h2 56 (by decide) (by decide) (by decide) (by decide)]; exact h5
      refine ⟨M8, ?_, h2, h3⟩
      simp only [un2, h56, nI_1, if_pos (nI_le (show ne ≤ ne - 1 + 1 by omega) (show ne - 1 + 1 < 2 ^ 31 by omega))]) fu i (nI i, M) (by unfold fu; omega) (by omega) ⟨Nat.le_refl i, rfl, fun c _ _ _ _ => rfl, by rw [shf_0], by rw [shf_0], by rw [shf_0], by rw [shf_0]⟩
  obtain ⟨M', hl, a2, a3, a4, a5, a6⟩ := hL
  have hs1 : nI ne - 1 = nI (ne - 1) := by
    have := nI_pred (ne - 1)
    rwa [show ne - 1 + 1 = ne by omega] at this
  have h56 : M' 56 = M 56 := a2 56 (by decide) (by decide) (by decide) (by decide)
  refine ⟨st M' 56 4 (nI (ne - 1)), ?_, st_cc _ _ _ _, fun k hk => by rw [st_ck _ _ hk, h56], fun c c0 c1 c2 c3 c4 => by rw [st_c _ _ _ c0]; exact a2 c c1 c2 c3 c4, (st_c _ _ _ (by decide)).trans a3, (st_c _ _ _ (by decide)).trans a4, (st_c _ _ _ (by decide)).trans a5, (st_c _ _ _ (by decide)).trans a6⟩
  unfold fX7_remove
  rw [hl]
  show nm (st M' 56 4 (M' 56 4 - 1)) _ = _
  rw [h56, h5, hs1]
  rfl
theorem shf_z {i p : Nat} {f : Nat → Int32} (h : ∀ e, e < 20 → f e = 0) (hp : p ≤ 19) : ∀ e, e < 20 → shf i p f e = 0 := by
  intro e he
  unfold shf
  by_cases c : i ≤ e ∧ e < p
  · rw [if_pos c]; exact h (e + 1) (by omega)
  · rw [if_neg c]; exact h e he
theorem s_drop {M : Mem} (h : Inv M) (x : Int32) : Both (fX6_drop x M) (fX7_drop x) := by
  obtain ⟨n, ne, T, nl, ⟨⟨hn2, hn6, e1, e2⟩, hbeh, hdel, hrum, ⟨v1, v2, v3, v4⟩, hnam⟩, hout, hlt, hsh⟩ := id h
  rcases vin_cases x (n := ne) (by omega) with h0 | ⟨i, hi, rfl, h1⟩
  · exact Both.same (r := -2) (by unfold fX6_drop; rw [p_5has _ v1, h0]; rfl) (by unfold fX7_drop; rw [v2, p_in _ (by omega), h0]; rfl) h
  · obtain ⟨M1, a1, a2, a3, a4, a5, a6, a7, a8, a9⟩ := p_remove v1 v3 hi (v4 i hi).2.2.2.2 (fun e he => Or.inl ((hout e (by omega)).1 he)) hnam
    obtain ⟨M2, b1', b2, b3, b4, b5, b6, b7, b8⟩ := p_mremove (M := M1) (ne := ne) (i := i) (by rw [a3 56 (by decide)]; exact v2) v3 hi
    have cc : ∀ c, c < 56 → M2 c = M1 c := fun c hc => b4 c (by omega) (by omega) (by omega) (by omega) (by omega)
    have c0 : ∀ c, c < 5 → M2 c = M c := fun c hc => by rw [cc c (by omega), a3 c (by omega)]
    have c1 : ∀ c, 64 ≤ c ∨ (57 ≤ c ∧ c ≤ 59) → M2 c = M c := fun c hc => by rw [b4 c (by omega) (by omega) (by omega) (by omega) (by omega), a3 c (by omega)]
    refine ⟨nI (ne - 1), M1, M2, ?_, ?_, n, ne - 1, T, nl, ⟨⟨hn2, hn6, by rw [c0 1 (by decide)]; exact e1, by rw [b3 0 (by decide), a3 56 (by decide)]; exact e2⟩, iBeh_congr hbeh (c0 2 (by decide)) (c1 57 (by decide)), iDel_congr hdel (c0 3 (by decide)) (c1 58 (by decide)), iRum_congr hrum (c0 4 (by decide)) (c1 59 (by decide)), ⟨by rw [cc 5 (by decide)]; exact a2, b2, by omega, fun e he => ?_⟩, iNam_congr a9 (cc 6 (by decide)) (cc 8 (by decide)) (cc 11 (by decide))⟩, fun e he => ?_, by rw [b3 10 (by decide), a3 56 (by decide)]; exact hlt, Shown_congr hsh (fun c hc => ?_)⟩
    · unfold fX6_drop
      rw [p_5has _ v1, h1]
      simp only [Option.bind_some, if_neg b1, a1, a2]
    · unfold fX7_drop
      rw [a3 56 (by decide), v2, p_in _ (by omega), h1]
      simp only [Option.bind_some, if_neg b1, b1', b2]
    · rw [cc 6 (by decide), cc 7 (by decide), cc 8 (by decide), cc 9 (by decide), a4, a5, a6, a7, b5, b6, b7, b8, a3 60 (by decide), a3 61 (by decide), a3 62 (by decide), a3 63 (by decide)]
      simp only [shf_sk _ he]
      exact v4 (sk i e) (by unfold sk; split <;> omega)
    · rw [cc 10 (by decide), a8, c1 64 (by decide)]
      exact ⟨fun h2 => by rw [shf_sk _ h2]; exact (hout _ (by unfold sk; split <;> omega)).1 (by unfold sk; split <;> omega), (hout e he).2⟩
    · rw [b4 c (by omega) (by omega) (by omega) (by omega) (by omega), a3 c (by omega)]
