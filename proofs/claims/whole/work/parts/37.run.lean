/-! ===== a play begins, and runs ===== -/
theorem p_fill {q n : Nat} {v : Int32} {M : Mem} (hn : n < 2000) : ∃ M', fJ7_fill_53178 q n v M = some M' ∧ (∀ c, c ≠ q → M' c = M c) ∧ ∀ j, M' q j = if j < n then v else M q j := by
  unfold fJ7_fill_53178
  simp only [nm]
  rw [bnd1]
  refine loop_one (P := fun p (s : Int32 × Mem) => s.1 = nI p ∧ (∀ c, c ≠ q → s.2 c = M c) ∧ ∀ j, s.2 q j = if j < p then v else M q j) (Q := fun (M' : Mem) => (∀ c, c ≠ q → M' c = M c) ∧ ∀ j, M' q j = if j < n then v else M q j) n ?_ ?_ fu 0 _ (by unfold fu; omega) (by omega) ⟨rfl, fun _ _ => rfl, fun j => by rw [if_neg (by omega)]⟩
  · rintro p ⟨w, M2⟩ hp ⟨hv, h2, h3⟩
    have hv' : w = nI p := hv
    subst hv'
    dsimp only at h2 h3
    refine ⟨(nI (p + 1), st M2 q p v), ?_, rfl, fun c hc => (st_c _ _ _ hc).trans (h2 c hc), fun j => ?_⟩
    · simp only [un2, if_neg (show ¬ Int32.ofNat n ≤ nI p from nI_ge hp (show n < 2 ^ 31 by omega)), gd_nI hp (show n < 2 ^ 31 by omega), nI_clamp (show p < 2 ^ 31 by omega), nI_1]
    · dsimp only
      by_cases c : j = p
      · subst c; rw [st_cc, if_pos (by omega)]
      · rw [st_ck _ _ c, h3 j]
        by_cases c2 : j < p
        · rw [if_pos c2, if_pos (by omega)]
        · rw [if_neg c2, if_neg (by omega)]
  · rintro ⟨w, M2⟩ ⟨hv, h2, h3⟩
    have hv' : w = nI n := hv
    subst hv'
    dsimp only at h2 h3
    refine ⟨M2, ?_, h2, h3⟩
    simp only [un2, if_pos (show Int32.ofNat n ≤ nI n from nI_le (Nat.le_refl n) (show n < 2 ^ 31 by omega))]
theorem begin_nodes {b n : Nat} {M : Mem} (hb : b = 12 ∨ b = 34) (hn6 : n ≤ 6) (e1 : M 1 0 = nI n) : ∃ M', fX3_begin b M = some M' ∧ (∀ c, c < b + 6 ∨ b + 12 ≤ c → M' c = M c) ∧ M' (b + 6) 6 = 0 ∧ (∀ a, a < n → M' (b + 7) a = 0 ∧ M' (b + 8) a = M 4 a ∧ M' (b + 9) a = 1) ∧ ∀ j, j < 36 → M' (b + 11) j = 0 := by
  obtain ⟨M1, f1, f2, f3⟩ := p_fill (q := b + 11) (n := 36) (v := 0) (M := M) (by decide)
  unfold fX3_begin
  rw [f1]
  simp only [Option.bind_some]
  obtain ⟨M2, l1, l2, l3, l4⟩ := loop_one (f := un2 fun (v3 : Int32) (M4 : Mem) => (if (M4 1 0) ≤ v3 then (some (.inr M4)) else (gd v3 6 (nm (st M4 (b + 7) (Int32.toNatClampNeg v3) (0 : Int32)) fun (M7 : Mem) => gd v3 6 (gd v3 6 (nm (st M7 (b + 8) (Int32.toNatClampNeg v3) (M7 4 (Int32.toNatClampNeg v3))) fun (M10 : Mem) => gd v3 6 (nm (st M10 (b + 9) (Int32.toNatClampNeg v3) (vp_nar .boolean (1 : Int32))) fun (M12 : Mem) => nm (v3 + (1 : Int32)) fun (v13 : Int32) => some (.inl (v13, M12))))))) : Option ((Int32 × Mem) ⊕ (Mem))))
    (P := fun p (s : Int32 × Mem) => s.1 = nI p ∧ (∀ c, c ≠ b + 7 → c ≠ b + 8 → c ≠ b + 9 → c ≠ b + 10 → s.2 c = M1 c) ∧ (∀ a, a < p → s.2 (b + 7) a = 0 ∧ s.2 (b + 8) a = M 4 a ∧ s.2 (b + 9) a = 1))
    (Q := fun (M' : Mem) => (∀ c, c ≠ b + 7 → c ≠ b + 8 → c ≠ b + 9 → c ≠ b + 10 → M' c = M1 c) ∧ (∀ a, a < n → M' (b + 7) a = 0 ∧ M' (b + 8) a = M 4 a ∧ M' (b + 9) a = 1) ∧ True) n (by
      rintro p ⟨w, M2⟩ hp ⟨hv, h2, h3⟩
      have hv' : w = nI p := hv
      subst hv'
      dsimp only at h2 h3
      have m4 : M2 4 = M 4 := by rw [h2 4 (by omega) (by omega) (by omega) (by omega), f2 4 (by omega)]
      have m1 : M2 1 = M 1 := by rw [h2 1 (by omega) (by omega) (by omega) (by omega), f2 1 (by omega)]
      obtain ⟨Z, hZ⟩ : ∃ Z, Z = st (st (st M2 (b + 7) p 0) (b + 8) p (M 4 p)) (b + 9) p 1 := ⟨_, rfl⟩
      refine ⟨(nI (p + 1), Z), ?_, rfl, fun c c1 c2 c3 c4 => ?_, fun a ha => ?_⟩
      · simp only [un2, nm, m1, e1, if_neg (nI_ge hp (show n < 2 ^ 31 by omega)), gd_nI (show p < 6 by omega) (show 6 < 2 ^ 31 by decide), nI_clamp (show p < 2 ^ 31 by omega), nI_1, nar0, nar1, st_c _ _ _ (show 4 ≠ b + 7 by omega), m4, ← hZ]
      · show Z c = _
        rw [hZ, st_c _ _ _ c3, st_c _ _ _ c2, st_c _ _ _ c1]; exact h2 c c1 c2 c3 c4
      · show Z (b + 7) a = 0 ∧ Z (b + 8) a = M 4 a ∧ Z (b + 9) a = 1
        rw [hZ, st_c _ _ _ (show b + 7 ≠ b + 9 by omega), st_c _ _ _ (show b + 7 ≠ b + 8 by omega), st_c _ _ _ (show b + 8 ≠ b + 9 by omega)]
        by_cases c : a = p
        · subst c; rw [st_cc, st_cc, st_cc]; exact ⟨rfl, rfl, rfl⟩
        · rw [st_ck _ _ c, st_ck _ _ c, st_ck _ _ c, st_c _ _ _ (show b + 8 ≠ b + 7 by omega), st_c _ _ _ (show b + 9 ≠ b + 8 by omega), st_c _ _ _ (show b + 9 ≠ b + 7 by omega)]
          exact h3 a (by omega)) (by
      rintro ⟨w, M2⟩ ⟨hv, h2, h3⟩
      have hv' : w = nI n := hv
      subst hv'
      dsimp only at h2 h3
      have m1 : M2 1 = M 1 := by rw [h2 1 (by omega) (by omega) (by omega) (by omega), f2 1 (by omega)]
      refine ⟨M2, ?_, h2, h3, trivial⟩
      simp only [un2, m1, e1, if_pos (nI_le (Nat.le_refl n) (show n < 2 ^ 31 by omega))]) fu 0 (0, M1) (by unfold fu; omega) (by omega) ⟨rfl, fun _ _ _ _ _ => rfl, fun a ha => by omega⟩
  rw [l1]
  refine ⟨st M2 (b + 6) 6 0, rfl, fun c hc => ?_, st_cc _ _ _ _, fun a ha => ?_, fun j hj => ?_⟩
  · rw [st_c _ _ _ (by omega), l2 c (by omega) (by omega) (by omega) (by omega), f2 c (by omega)]
  · rw [st_c _ _ _ (show b + 7 ≠ b + 6 by omega), st_c _ _ _ (show b + 8 ≠ b + 6 by omega), st_c _ _ _ (show b + 9 ≠ b + 6 by omega)]; exact l3 a ha
  · rw [st_c _ _ _ (show b + 11 ≠ b + 6 by omega), l2 _ (by omega) (by omega) (by omega) (by omega), f3, if_pos hj]
theorem clear1 (b : Nat) (A : Mem) : fX1_clear b A = some (st (st A (b + 12) 0 0) (b + 12) 1 0) := rfl
theorem comp2 {F1 F2 : Mem → Option Mem} {A B C : Mem} (h1 : F1 A = some B) (h2 : F2 B = some C) : (nm A fun (M1 : Mem) => (F1 M1).bind (fun (M2 : Mem) => (F2 M2).bind (fun (M4 : Mem) => some M4))) = some C := by
  simp only [nm]
  rw [h1]; simp only [Option.bind_some]; rw [h2]; rfl
theorem clear0 {b : Nat} {B C1 C2 : Mem} (h1 : fJ7_fill_53178 (b + 4) 40 (-1) (st B (b + 1) 0 0) = some C1) (h2 : fJ7_fill_53178 (b + 5) 40 (-1) C1 = some C2) : fX0_clear b B = some C2 := by
  unfold fX0_clear
  exact comp2 (F1 := fJ7_fill_53178 (b + 4) 40 (-1)) (F2 := fJ7_fill_53178 (b + 5) 40 (-1)) (A := st B (b + 1) 0 0) h1 h2
theorem begin_comp (F1 F2 F3 : Mem → Option Mem) {b : Nat} {v x2 : Int32} {M B C D : Mem} (h1 : F1 (st (st (st (st (st M b 8 v) b 12 x2) b 9 (-1)) b 10 0) b 11 0) = some B) (h2 : F2 B = some C) (h3 : F3 C = some D) : (nm v fun (v1 : Int32) => nm (st M b 8 v1) fun (M2 : Mem) => nm (st M2 b 12 x2) fun (M3 : Mem) => nm (st M3 b 9 (-1 : Int32)) fun (M4 : Mem) => nm (st M4 b 10 (0 : Int32)) fun (M5 : Mem) => nm (st M5 b 11 (0 : Int32)) fun (M6 : Mem) => (F1 M6).bind (fun (M7 : Mem) => (F2 M7).bind (fun (M9 : Mem) => (F3 M9).bind (fun (M11 : Mem) => some M11)))) = some D := by
  simp only [nm]
  rw [h1]; simp only [Option.bind_some]
  rw [h2]; simp only [Option.bind_some]
  rw [h3]; rfl
theorem begin_c {b n T : Nat} {x : Int32} {M : Mem} (hb : b = 12 ∨ b = 34) (hn6 : n ≤ 6) (hT : T ≤ 40) (e1 : M 1 0 = nI n) : ∃ M', fX4_begin b (nI T) x M = some M' ∧ (∀ c, c < b ∨ b + 22 ≤ c → M' c = M c) ∧ M' b 2 = M b 2 ∧ M' b 8 = nI T ∧ M' b 9 = -1 ∧ M' b 10 = 0 ∧ M' b 11 = 0 ∧ M' b 12 = x ∧ M' (b + 1) 0 = 0 ∧ (∀ u, u < 40 → M' (b + 4) u = -1 ∧ M' (b + 5) u = -1) ∧ M' (b + 6) 6 = 0 ∧ (∀ a, a < n → M' (b + 7) a = 0 ∧ M' (b + 8) a = M 4 a ∧ M' (b + 9) a = 1) ∧ (∀ j, j < 36 → M' (b + 11) j = 0) ∧ M' (b + 12) 0 = 0 ∧ M' (b + 12) 1 = 0 := by
  obtain ⟨A, hA⟩ : ∃ A, A = st (st (st (st (st M b 8 (nI T)) b 12 x) b 9 (-1)) b 10 0) b 11 0 := ⟨_, rfl⟩
  obtain ⟨B, hB⟩ : ∃ B, B = st (st A (b + 12) 0 0) (b + 12) 1 0 := ⟨_, rfl⟩
  obtain ⟨C1, g1, g2, g3⟩ := p_fill (q := b + 4) (n := 40) (v := -1) (M := st B (b + 1) 0 0) (by decide)
  obtain ⟨C2, h1, h2, h3⟩ := p_fill (q := b + 5) (n := 40) (v := -1) (M := C1) (by decide)
  have cc : ∀ c, c ≠ b → c ≠ b + 1 → c ≠ b + 4 → c ≠ b + 5 → c ≠ b + 12 → C2 c = M c := fun c c1 c2 c3 c4 c5 => by
    rw [h2 c c4, g2 c c3, st_c _ _ _ c2, hB, st_c _ _ _ c5, st_c _ _ _ c5, hA, st_c _ _ _ c1, st_c _ _ _ c1, st_c _ _ _ c1, st_c _ _ _ c1, st_c _ _ _ c1]
  have cb : C2 b = A b := by rw [h2 b (by omega), g2 b (by omega), st_c _ _ _ (show b ≠ b + 1 by omega), hB, st_c _ _ _ (show b ≠ b + 12 by omega), st_c _ _ _ (show b ≠ b + 12 by omega)]
  have c12 : C2 (b + 12) = B (b + 12) := by rw [h2 _ (by omega), g2 _ (by omega), st_c _ _ _ (show b + 12 ≠ b + 1 by omega)]
  obtain ⟨M', m1, m2, m3, m4, m5⟩ := begin_nodes (M := C2) hb hn6 (by rw [cc 1 (by omega) (by omega) (by omega) (by omega) (by omega)]; exact e1)
  have mb : M' b = A b := by rw [m2 b (by omega), cb]
  refine ⟨M', ?_, fun c hc => by rw [m2 c (by omega), cc c (by omega) (by omega) (by omega) (by omega) (by omega)], ?_, ?_, ?_, ?_, ?_, ?_, ?_, fun u hu => ⟨?_, ?_⟩, m3, fun a ha => ?_, m5, ?_, ?_⟩
  · unfold fX4_begin
    rw [if_neg (show ¬ (40 : Int32) < nI T from nI_nlt hT (by decide))]
    have hB1 : fX1_clear b A = some B := by rw [hB]; exact clear1 b A
    rw [hA] at hB1
    exact begin_comp (fX1_clear b) (fX0_clear b) (fX3_begin b) hB1 (clear0 g1 h1) m1
  · rw [mb, hA]; simp [st, va_up, upd]
  · rw [mb, hA]; simp [st, va_up, upd]
  · rw [mb, hA]; simp [st, va_up, upd]
  · rw [mb, hA]; simp [st, va_up, upd]
  · rw [mb, hA]; simp [st, va_up, upd]
  · rw [mb, hA]; simp [st, va_up, upd]
  · rw [m2 _ (by omega), h2 _ (by omega), g2 _ (by omega), st_cc]
  · rw [m2 _ (by omega), h2 _ (by omega), g3, if_pos hu]
  · rw [m2 _ (by omega), h3, if_pos hu]
  · obtain ⟨n1, n2, n3⟩ := m4 a ha
    exact ⟨n1, by rw [n2, cc 4 (by omega) (by omega) (by omega) (by omega) (by omega)], n3⟩
  · rw [m2 _ (by omega), c12, hB]; simp [st, va_up, upd]
  · rw [m2 _ (by omega), c12, hB]; simp [st, va_up, upd]
abbrev mL7 (M13 : Mem) : Option Mem := loop fu (un2 fun (v14 : Int32) (M15 : Mem) => (if (7 : Int32) ≤ v14 then (some (.inr M15)) else (gd v14 7 (nm (st M15 82 (Int32.toNatClampNeg v14) (0 : Int32)) fun (M18 : Mem) => gd v14 7 (gd v14 7 (nm (st M18 83 (Int32.toNatClampNeg v14) (M18 59 (Int32.toNatClampNeg v14))) fun (M21 : Mem) => gd v14 7 (nm (st M21 85 (Int32.toNatClampNeg v14) (vp_nar .boolean (0 : Int32))) fun (M23 : Mem) => nm (v14 + (1 : Int32)) fun (v24 : Int32) => some (.inl (v24, M23))))))) : Option ((Int32 × Mem) ⊕ (Mem)))) ((0 : Int32), M13)
abbrev mL49 (M25 : Mem) : Option Mem := loop fu (un2 fun (v26 : Int32) (M27 : Mem) => (if (49 : Int32) ≤ v26 then (some (.inr M27)) else (gd v26 49 (nm (st M27 84 (Int32.toNatClampNeg v26) (0 : Int32)) fun (M30 : Mem) => nm (v26 + (1 : Int32)) fun (v31 : Int32) => some (.inl (v31, M30)))) : Option ((Int32 × Mem) ⊕ (Mem)))) ((0 : Int32), M25)
abbrev mLT (x1 x2 : Int32) (F : Nat) (s : Int32 × Mem) : Option Mem := loop F (un2 fun (v33 : Int32) (M34 : Mem) => (if x2 ≤ v33 then (some (.inr M34)) else mTurn x1 v33 M34 : Option ((Int32 × Mem) ⊕ (Mem)))) s
abbrev mLK (x1 : Int32) (M87 : Mem) : Option Mem := loop fu (un2 fun (v88 : Int32) (M89 : Mem) => (if (7 : Int32) ≤ v88 then (some (.inr M89)) else (gd v88 7 (gd (((7 : Int32) * x1) + v88) 14 (nm (st M89 73 (Int32.toNatClampNeg (((7 : Int32) * x1) + v88)) (M89 83 (Int32.toNatClampNeg v88))) fun (M93 : Mem) => nm (v88 + (1 : Int32)) fun (v94 : Int32) => some (.inl (v94, M93))))) : Option ((Int32 × Mem) ⊕ (Mem)))) ((0 : Int32), M87)
theorem run7_eq (x1 x2 : Int32) (M : Mem) : fX7_run x1 x2 M = gd x1 2 (nm (st M 65 (Int32.toNatClampNeg x1) x2) fun (M2 : Mem) => gd x1 2 (nm (st M2 66 (Int32.toNatClampNeg x1) (0 : Int32)) fun (M4 : Mem) => gd x1 2 (nm (st M4 67 (Int32.toNatClampNeg x1) (0 : Int32)) fun (M6 : Mem) => gd x1 2 (nm (st M6 68 (Int32.toNatClampNeg x1) (0 : Int32)) fun (M8 : Mem) => gd x1 2 (nm (st M8 69 (Int32.toNatClampNeg x1) (0 : Int32)) fun (M10 : Mem) => gd x1 2 (nm (st M10 70 (Int32.toNatClampNeg x1) (-1 : Int32)) fun (M12 : Mem) => nm (st M12 56 33 (0 : Int32)) fun (M13 : Mem) => (mL7 M13).bind (un1 fun (M25 : Mem) => (mL49 M25).bind (un1 fun (M32 : Mem) => (mLT x1 x2 fu ((0 : Int32), M32)).bind (un1 fun (M87 : Mem) => (mLK x1 M87).bind (un1 fun (M95 : Mem) => some M95)))))))))) := rfl
