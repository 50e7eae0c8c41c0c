/-- the class lets go what was left out -/
theorem p_rlo {n ne ne' : Nat} {A B : Mem} (h5 : A 5 0 = nI ne) (hne : ne ≤ 20) (hok : ∀ e, e < ne → EvOK n (A 6 e) (A 7 e) (A 8 e) (A 9 e)) (hnam : iNam ne A) (hb : ∀ e, e < ne → bool01 (A 10 e)) (hz : ∀ e, e < 20 → B 64 e = 0) (hne' : ne' ≤ ne) (hsub : Sub A B 0 0 ne ne') : ∃ M', fX5_removeLeftOut A = some M' ∧ M' 5 0 = nI ne' ∧ (∀ c, c < 5 ∨ 12 ≤ c → M' c = A c) ∧ (∀ e, e < ne' → evm M' B e e ∧ EvOK n (M' 6 e) (M' 7 e) (M' 8 e) (M' 9 e)) ∧ iNam ne' M' := by
  unfold fX5_removeLeftOut
  simp only [nm]
  rw [bnd1, h5, mone]
  refine loop_gen (P := fun m (s : Int32 × Mem) => s.1 = nI m + -1 ∧ ∃ p nc, s.2 5 0 = nI nc ∧ nc ≤ 20 ∧ m ≤ nc ∧ p ≤ ne' ∧ nc - m = ne' - p ∧ (∀ c, c < 5 ∨ 12 ≤ c → s.2 c = A c) ∧ (∀ c, 6 ≤ c → c ≤ 10 → ∀ e, e < m → s.2 c e = A c e) ∧ Sub A B 0 0 m p ∧ (∀ d, d < ne' - p → evm s.2 B (m + d) (p + d)) ∧ (∀ e, e < nc → EvOK n (s.2 6 e) (s.2 7 e) (s.2 8 e) (s.2 9 e)) ∧ iNam nc s.2 ∧ ∀ e, e < nc → bool01 (s.2 10 e)) (Q := fun (M' : Mem) => M' 5 0 = nI ne' ∧ (∀ c, c < 5 ∨ 12 ≤ c → M' c = A c) ∧ (∀ e, e < ne' → evm M' B e e ∧ EvOK n (M' 6 e) (M' 7 e) (M' 8 e) (M' 9 e)) ∧ iNam ne' M') ?_ ?_ fu ne _ (by unfold fu; omega) ⟨rfl, ne', ne, h5, hne, Nat.le_refl _, Nat.le_refl _, by omega, fun _ _ => rfl, fun _ _ _ _ _ => rfl, hsub, fun d hd => by omega, hok, hnam, hb⟩
  · rintro m ⟨v, M2⟩ ⟨hv, p, nc, g1, g2, g3, g4, g5, g6, g7, g8, g9, g10, g11, g12⟩
    have hv' : v = nI (m + 1) + -1 := hv
    rw [nI_m1] at hv'
    subst hv'
    dsimp only at g1 g6 g7 g9 g10 g11 g12
    have hm20 : m < 20 := by omega
    have hfl : M2 10 m = A 10 m := g7 10 (by decide) (by decide) m (by omega)
    refine Or.inl ?_
    simp only [un2]
    rw [if_neg (nI_pos (show m < 2 ^ 31 by omega)), gd_nI hm20 (by decide), nI_clamp (show m < 2 ^ 31 by omega)]
    rcases g8.cases (Nat.zero_le m) with ⟨k1, k2⟩ | ⟨x, rfl, k1, k2⟩
    · obtain ⟨M3, a1, a2, a3, a4, a5, a6, a7, a8, a9⟩ := p_remove (i := m) g1 g2 (by omega) (g10 m (by omega)) g12 g11
      have sh : ∀ c, 6 ≤ c → c ≤ 10 → M3 c = shf m (nc - 1) (M2 c) := fun c c1 c2 => by
        rcases (show c = 6 ∨ c = 7 ∨ c = 8 ∨ c = 9 ∨ c = 10 by omega) with rfl | rfl | rfl | rfl | rfl
        · exact a4
        · exact a5
        · exact a6
        · exact a7
        · exact a8
      refine ⟨(nI m + -1, M3), ?_, rfl, p, nc - 1, a2, by omega, by omega, g4, by omega, fun c hc => (a3 c hc).trans (g6 c hc), fun c c1 c2 e he => ?_, k2, fun d hd => ?_, fun e he => ?_, a9, fun e he => ?_⟩
      · skip
        rw [if_neg (show ¬ M2 10 m = 0 by rw [hfl]; exact k1), a1]
        rfl
      · dsimp only
        rw [sh c c1 c2, shf_lt he]; exact g7 c c1 c2 e (by omega)
      · have := g9 d hd
        dsimp only
        unfold evm at *
        rw [sh 6 (by decide) (by decide), sh 7 (by decide) (by decide), sh 8 (by decide) (by decide), sh 9 (by decide) (by decide), sh 10 (by decide) (by decide), shf_in (by omega) (by omega), shf_in (by omega) (by omega), shf_in (by omega) (by omega), shf_in (by omega) (by omega), shf_in (by omega) (by omega), show m + d + 1 = m + 1 + d by omega]
        exact this
      · dsimp only
        rw [sh 6 (by decide) (by decide), sh 7 (by decide) (by decide), sh 8 (by decide) (by decide), sh 9 (by decide) (by decide)]
        simp only [shf_sk _ he]
        exact g10 _ (by unfold sk; split <;> omega)
      · dsimp only
        rw [sh 10 (by decide) (by decide), shf_sk _ he]
        exact g12 _ (by unfold sk; split <;> omega)
    · have hx0 : A 10 m = 0 := by rw [k1.2.2.2.2]; exact hz x (by have := k2.le; omega)
      refine ⟨(nI m + -1, M2), ?_, rfl, x, nc, g1, g2, by omega, by omega, by omega, g6, fun c c1 c2 e he => g7 c c1 c2 e (by omega), k2, fun d hd => ?_, g10, g11, g12⟩
      · skip
        rw [if_pos (show M2 10 m = 0 by rw [hfl]; exact hx0)]
      · cases d with
        | zero =>
          unfold evm at *
          dsimp only
          rw [Nat.add_zero, Nat.add_zero, g7 6 (by decide) (by decide) m (by omega), g7 7 (by decide) (by decide) m (by omega), g7 8 (by decide) (by decide) m (by omega), g7 9 (by decide) (by decide) m (by omega), g7 10 (by decide) (by decide) m (by omega)]
          exact k1
        | succ d =>
          have := g9 d (by omega)
          dsimp only
          rw [show m + (d + 1) = m + 1 + d by omega, show x + (d + 1) = x + 1 + d by omega]
          exact this
  · rintro ⟨v, M2⟩ ⟨hv, p, nc, g1, g2, g3, g4, g5, g6, g7, g8, g9, g10, g11, g12⟩
    have hv' : v = nI 0 + -1 := hv
    subst hv'
    dsimp only at g1 g6 g7 g9 g10 g11 g12
    have hp := g8.le
    have hp0 : p = 0 := by omega
    subst hp0
    have hnc : nc = ne' := by omega
    subst hnc
    refine ⟨M2, ?_, g1, g6, fun e he => ⟨?_, g10 e he⟩, g11⟩
    · simp only [un2]
      rw [if_pos (show nI 0 + -1 < 0 by decide)]
    · have := g9 e (by omega)
      rw [Nat.zero_add] at this
      exact this
