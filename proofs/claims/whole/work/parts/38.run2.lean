theorem p_mL7 (N : Mem) : ∃ N', mL7 N = some N' ∧ (∀ c, c ≠ 82 → c ≠ 83 → c ≠ 85 → N' c = N c) ∧ ∀ a, a < 7 → N' 82 a = 0 ∧ N' 83 a = N 59 a ∧ N' 85 a = 0 := by
  refine loop_one (P := fun p (s : Int32 × Mem) => s.1 = nI p ∧ (∀ c, c ≠ 82 → c ≠ 83 → c ≠ 85 → s.2 c = N c) ∧ ∀ a, a < p → s.2 82 a = 0 ∧ s.2 83 a = N 59 a ∧ s.2 85 a = 0) (Q := fun (N' : Mem) => (∀ c, c ≠ 82 → c ≠ 83 → c ≠ 85 → N' c = N c) ∧ ∀ a, a < 7 → N' 82 a = 0 ∧ N' 83 a = N 59 a ∧ N' 85 a = 0) 7 ?_ ?_ fu 0 _ (by unfold fu; omega) (by omega) ⟨rfl, fun _ _ _ _ => rfl, fun a ha => by omega⟩
  · rintro p ⟨w, N2⟩ hp ⟨hv, h2, h3⟩
    have hv' : w = nI p := hv
    subst hv'
    dsimp only at h2 h3
    obtain ⟨Z, hZ⟩ : ∃ Z, Z = st (st (st N2 82 p 0) 83 p (N2 59 p)) 85 p 0 := ⟨_, rfl⟩
    refine ⟨(nI (p + 1), Z), ?_, rfl, fun c c1 c2 c3 => ?_, fun a ha => ?_⟩
    · simp only [un2, nm, if_neg (show ¬ (7 : Int32) ≤ nI p from nI_ge hp (by decide)), gd_nI hp (show 7 < 2 ^ 31 by decide), nI_clamp (show p < 2 ^ 31 by omega), nI_1, nar0, st_c _ _ _ (show 59 ≠ 82 by decide), ← hZ]
    · show Z c = _
      rw [hZ, st_c _ _ _ c3, st_c _ _ _ c2, st_c _ _ _ c1]; exact h2 c c1 c2 c3
    · show Z 82 a = 0 ∧ Z 83 a = N 59 a ∧ Z 85 a = 0
      rw [hZ, st_c _ _ _ (show 82 ≠ 85 by decide), st_c _ _ _ (show 82 ≠ 83 by decide), st_c _ _ _ (show 83 ≠ 85 by decide)]
      by_cases c : a = p
      · subst c; rw [st_cc, st_cc, st_cc, h2 59 (by decide) (by decide) (by decide)]; exact ⟨rfl, rfl, rfl⟩
      · rw [st_ck _ _ c, st_ck _ _ c, st_ck _ _ c, st_c _ _ _ (show 83 ≠ 82 by decide), st_c _ _ _ (show 85 ≠ 83 by decide), st_c _ _ _ (show 85 ≠ 82 by decide)]
        exact h3 a (by omega)
  · rintro ⟨w, N2⟩ ⟨hv, h2, h3⟩
    have hv' : w = nI 7 := hv
    subst hv'
    dsimp only at h2 h3
    exact ⟨N2, by simp only [un2]; rfl, h2, h3⟩
theorem p_mL49 (N : Mem) : ∃ N', mL49 N = some N' ∧ (∀ c, c ≠ 84 → N' c = N c) ∧ ∀ a, a < 49 → N' 84 a = 0 := by
  refine loop_one (P := fun p (s : Int32 × Mem) => s.1 = nI p ∧ (∀ c, c ≠ 84 → s.2 c = N c) ∧ ∀ a, a < p → s.2 84 a = 0) (Q := fun (N' : Mem) => (∀ c, c ≠ 84 → N' c = N c) ∧ ∀ a, a < 49 → N' 84 a = 0) 49 ?_ ?_ fu 0 _ (by unfold fu; omega) (by omega) ⟨rfl, fun _ _ => rfl, fun a ha => by omega⟩
  · rintro p ⟨w, N2⟩ hp ⟨hv, h2, h3⟩
    have hv' : w = nI p := hv
    subst hv'
    dsimp only at h2 h3
    refine ⟨(nI (p + 1), st N2 84 p 0), ?_, rfl, fun c c1 => (st_c _ _ _ c1).trans (h2 c c1), fun a ha => ?_⟩
    · simp only [un2, nm, if_neg (show ¬ (49 : Int32) ≤ nI p from nI_ge hp (by decide)), gd_nI hp (show 49 < 2 ^ 31 by decide), nI_clamp (show p < 2 ^ 31 by omega), nI_1]
    · dsimp only
      by_cases c : a = p
      · subst c; rw [st_cc]
      · rw [st_ck _ _ c]; exact h3 a (by omega)
  · rintro ⟨w, N2⟩ ⟨hv, h2, h3⟩
    have hv' : w = nI 49 := hv
    subst hv'
    dsimp only at h2 h3
    exact ⟨N2, by simp only [un2]; rfl, h2, h3⟩
theorem p_mLK {k : Nat} (hk : k < 2) (N : Mem) : ∃ N', mLK (nI k) N = some N' ∧ (∀ c, c ≠ 73 → N' c = N c) ∧ (∀ i, (i < 7 * k ∨ 7 * k + 7 ≤ i) → N' 73 i = N 73 i) ∧ ∀ a, a < 7 → N' 73 (7 * k + a) = N 83 a := by
  refine loop_one (P := fun p (s : Int32 × Mem) => s.1 = nI p ∧ (∀ c, c ≠ 73 → s.2 c = N c) ∧ (∀ i, (i < 7 * k ∨ 7 * k + 7 ≤ i) → s.2 73 i = N 73 i) ∧ ∀ a, a < p → s.2 73 (7 * k + a) = N 83 a) (Q := fun (N' : Mem) => (∀ c, c ≠ 73 → N' c = N c) ∧ (∀ i, (i < 7 * k ∨ 7 * k + 7 ≤ i) → N' 73 i = N 73 i) ∧ ∀ a, a < 7 → N' 73 (7 * k + a) = N 83 a) 7 ?_ ?_ fu 0 _ (by unfold fu; omega) (by omega) ⟨rfl, fun _ _ => rfl, fun _ _ => rfl, fun a ha => by omega⟩
  · rintro p ⟨w, N2⟩ hp ⟨hv, h2, h4, h3⟩
    have hv' : w = nI p := hv
    subst hv'
    dsimp only at h2 h3 h4
    refine ⟨(nI (p + 1), st N2 73 (7 * k + p) (N2 83 p)), ?_, rfl, fun c c1 => (st_c _ _ _ c1).trans (h2 c c1), fun i hi => ?_, fun a ha => ?_⟩
    · simp only [un2, nm, mul7, if_neg (show ¬ (7 : Int32) ≤ nI p from nI_ge hp (by decide)), gd_nI hp (show 7 < 2 ^ 31 by decide), gd_nI (show 7 * k + p < 14 by omega) (show 14 < 2 ^ 31 by decide), nI_clamp (show p < 2 ^ 31 by omega), nI_clamp (show 7 * k + p < 2 ^ 31 by omega), nI_1]
    · dsimp only
      rw [st_ck _ _ (show i ≠ 7 * k + p by omega)]; exact h4 i hi
    · dsimp only
      by_cases c : a = p
      · subst c; rw [st_cc, h2 83 (by decide)]
      · rw [st_ck _ _ (by omega)]; exact h3 a (by omega)
  · rintro ⟨w, N2⟩ ⟨hv, h2, h4, h3⟩
    have hv' : w = nI 7 := hv
    subst hv'
    dsimp only at h2 h3 h4
    exact ⟨N2, by simp only [un2]; rfl, h2, h4, h3⟩
def N0 (k : Nat) (x2 : Int32) (M : Mem) : Mem := st (st (st (st (st (st (st M 65 k x2) 66 k 0) 67 k 0) 68 k 0) 69 k 0) 70 k (-1)) 56 33 0
theorem run_comp {k : Nat} (hk : k < 2) (F7 F49 FT FK : Mem → Option Mem) {x2 : Int32} {M B C D E : Mem} (h1 : F7 (N0 k x2 M) = some B) (h2 : F49 B = some C) (h3 : FT C = some D) (h4 : FK D = some E) : (gd (nI k) 2 (nm (st M 65 (Int32.toNatClampNeg (nI k)) x2) fun (M2 : Mem) => gd (nI k) 2 (nm (st M2 66 (Int32.toNatClampNeg (nI k)) (0 : Int32)) fun (M4 : Mem) => gd (nI k) 2 (nm (st M4 67 (Int32.toNatClampNeg (nI k)) (0 : Int32)) fun (M6 : Mem) => gd (nI k) 2 (nm (st M6 68 (Int32.toNatClampNeg (nI k)) (0 : Int32)) fun (M8 : Mem) => gd (nI k) 2 (nm (st M8 69 (Int32.toNatClampNeg (nI k)) (0 : Int32)) fun (M10 : Mem) => gd (nI k) 2 (nm (st M10 70 (Int32.toNatClampNeg (nI k)) (-1 : Int32)) fun (M12 : Mem) => nm (st M12 56 33 (0 : Int32)) fun (M13 : Mem) => (F7 M13).bind (un1 fun (M25 : Mem) => (F49 M25).bind (un1 fun (M32 : Mem) => (FT M32).bind (un1 fun (M87 : Mem) => (FK M87).bind (un1 fun (M95 : Mem) => some M95))))))))))) = some E := by
  unfold N0 at h1
  simp only [nm, gd_nI hk (show 2 < 2 ^ 31 by decide), nI_clamp (show k < 2 ^ 31 by omega)]
  rw [h1]; simp only [Option.bind_some, un1]
  rw [h2]; simp only [Option.bind_some, un1]
  rw [h3]; simp only [Option.bind_some, un1]
  rw [h4]; rfl
theorem run7_c {k : Nat} (hk : k < 2) {x2 : Int32} {M B C D E : Mem} (h1 : mL7 (N0 k x2 M) = some B) (h2 : mL49 B = some C) (h3 : mLT (nI k) x2 fu (0, C) = some D) (h4 : mLK (nI k) D = some E) : fX7_run (nI k) x2 M = some E := by
  rw [run7_eq]
  exact run_comp hk (fun M => mL7 M) (fun M => mL49 M) (fun M32 => mLT (nI k) x2 fu (0, M32)) (fun M => mLK (nI k) M) h1 h2 h3 h4
theorem begin_sim {b k n ne T : Nat} {x : Int32} {M N : Mem} (hb : b = 12 ∨ b = 34) (hk : k < 2) (hT : T ≤ 40) (hN : iN n M N) (hB : iBeh n M N) (hD : iDel n M N) (hR : iRum n M N) (hE : ∃ ne', EvS n ne ne' M N) (hx : x = N 56 10) : ∃ M' B C, fX4_begin b (nI T) x M = some M' ∧ mL7 (N0 k (nI T) N) = some B ∧ mL49 B = some C ∧ TR b k n ne T 0 M' C ∧ (∀ c, c < b ∨ b + 22 ≤ c → M' c = M c) ∧ M' b 2 = M b 2 ∧ (∀ c, c ≠ 56 → ¬ (65 ≤ c ∧ c ≤ 70) → ¬ (82 ≤ c ∧ c ≤ 85) → C c = N c) ∧ (∀ i, i ≠ 33 → C 56 i = N 56 i) ∧ (∀ c, 65 ≤ c → c ≤ 70 → ∀ i, i ≠ k → C c i = N c i) ∧ C 65 k = nI T := by
  obtain ⟨M', a1, a2, a3, a4, a5, a6, a7, a8, a9, a10, a11, a12, a13, a14, a15⟩ := begin_c (T := T) (x := x) hb hN.2.1 hT hN.2.2.1
  obtain ⟨B, b1', b2, b3⟩ := p_mL7 (N0 k (nI T) N)
  obtain ⟨C, c1, c2, c3⟩ := p_mL49 B
  have n0 : ∀ c, c ≠ 56 → ¬ (65 ≤ c ∧ c ≤ 70) → N0 k (nI T) N c = N c := fun c h1 h2 => by
    unfold N0
    rw [st_c _ _ _ h1, st_c _ _ _ (by omega), st_c _ _ _ (by omega), st_c _ _ _ (by omega), st_c _ _ _ (by omega), st_c _ _ _ (by omega), st_c _ _ _ (by omega)]
  have cN : ∀ c, c ≠ 56 → ¬ (65 ≤ c ∧ c ≤ 70) → ¬ (82 ≤ c ∧ c ≤ 85) → C c = N c := fun c h1 h2 h3 => by
    rw [c2 c (by omega), b2 c (by omega) (by omega) (by omega), n0 c h1 h2]
  have c0 : ∀ c, c ≠ 82 → c ≠ 83 → c ≠ 84 → c ≠ 85 → C c = N0 k (nI T) N c := fun c h1 h2 h3 h4 => by rw [c2 c h3, b2 c h1 h2 h4]
  have c56 : ∀ i, i ≠ 33 → C 56 i = N 56 i := fun i hi => by
    rw [c0 56 (by decide) (by decide) (by decide) (by decide)]
    unfold N0
    rw [st_ck _ _ hi, st_c _ _ _ (by decide), st_c _ _ _ (by decide), st_c _ _ _ (by decide), st_c _ _ _ (by decide), st_c _ _ _ (by decide), st_c _ _ _ (by decide)]
  have cv : C 65 k = nI T ∧ C 66 k = 0 ∧ C 67 k = 0 ∧ C 68 k = 0 ∧ C 69 k = 0 ∧ C 70 k = -1 ∧ C 56 33 = 0 := by
    rw [c0 65 (by decide) (by decide) (by decide) (by decide), c0 66 (by decide) (by decide) (by decide) (by decide), c0 67 (by decide) (by decide) (by decide) (by decide), c0 68 (by decide) (by decide) (by decide) (by decide), c0 69 (by decide) (by decide) (by decide) (by decide), c0 70 (by decide) (by decide) (by decide) (by decide), c0 56 (by decide) (by decide) (by decide) (by decide)]
    unfold N0
    simp [st, va_up, upd]
  obtain ⟨v65, v66, v67, v68, v69, v70, v33⟩ := cv
  have ck : ∀ c, 65 ≤ c → c ≤ 70 → ∀ i, i ≠ k → C c i = N c i := fun c h1 h2 i hi => by
    rw [c0 c (by omega) (by omega) (by omega) (by omega)]
    unfold N0
    rcases (show c = 65 ∨ c = 66 ∨ c = 67 ∨ c = 68 ∨ c = 69 ∨ c = 70 by omega) with rfl | rfl | rfl | rfl | rfl | rfl <;> simp [st, va_up, upd, hi]
  have h12 : ∀ c, c < 12 → M' c = M c := fun c hc => a2 c (by omega)
  refine ⟨M', B, C, a1, b1', c1, ⟨⟨iN_congr hN (h12 1 (by decide)) (c56 0 (by decide)), iBeh_congr hB (h12 2 (by decide)) (cN 57 (by decide) (by decide) (by decide)), iDel_congr hD (h12 3 (by decide)) (cN 58 (by decide) (by decide) (by decide)), iRum_congr hR (h12 4 (by decide)) (cN 59 (by decide) (by decide) (by decide)), ?_, by rw [a8, c56 10 (by decide), hx]⟩, ⟨0, by omega, ⟨⟨fun a ha => ?_, fun a ha => ?_, fun a ha => ?_, fun a c ha hc => ?_, ?_⟩, fun j hj => by omega, fun j hj => by omega, a14, v66, by rw [a15, v67], by rw [a6, v68], by rw [a7, v69]⟩, by omega, 0, fun _ => none, fun _ _ => 0, ⟨⟨fun _ => 0, fun _ => 0, ⟨a9, fun q hq => by omega, fun u hu => (a10 u hu).1, fun u hu => (a10 u hu).2, fun u hu A q B h => ?_, fun q hq => by omega⟩, fun v hv => rfl⟩, fun j hj => by omega, fun j i hj => by omega⟩, by omega⟩, a4, by rw [a5, v70], by rw [a5]; exact Or.inl rfl, fun u a hu => by omega, fun u hu => by omega⟩, a2, a3, cN, c56, ck, v65⟩
  · obtain ⟨ne', hE⟩ := hE
    exact ⟨ne', EvS_congr hE h12 (fun c h1 h2 => cN c (by omega) (by omega) (by omega)) (c56 4 (by decide))⟩
  · have hn := hN.2.1
    rw [(a12 a ha).1, c2 82 (by decide), (b3 a (by omega)).1]
  · have hn := hN.2.1
    rw [(a12 a ha).2.1, c2 83 (by decide), (b3 a (by omega)).2.1, n0 59 (by decide) (by decide)]; exact hR a ha
  · have hn := hN.2.1
    rw [(a12 a ha).2.2, c2 85 (by decide), (b3 a (by omega)).2.2]; exact Or.inl ⟨rfl, rfl⟩
  · have hn := hN.2.1
    rw [a13 _ (by omega), c3 _ (by omega)]
  · rw [a11, v33]
  · have h2 : ([] : List Nat) = A ++ q :: B := h
    simp at h2
