/-! ===== a turn's fourth phase: letters are sent ===== -/
theorem SdC.tr {b : Nat} {M M1 M2 : Mem} (h1 : SdC b M M1) (h2 : SdC b M1 M2) : SdC b M M2 := fun c a1 a2 => (h2 c a1 a2).trans (h1 c a1 a2)
theorem SdM.tr {k : Nat} {N N1 N2 : Mem} (h1 : SdM k N N1) (h2 : SdM k N1 N2) : SdM k N N2 := ⟨fun c a1 a2 a3 => (h2.1 c a1 a2 a3).trans (h1.1 c a1 a2 a3), fun i hi => ⟨(h2.2.1 i hi).1.trans (h1.2.1 i hi).1, (h2.2.1 i hi).2.trans (h1.2.1 i hi).2⟩, fun c a1 a2 i hi => (h2.2.2.1 c a1 a2 i hi).trans (h1.2.2.1 c a1 a2 i hi), fun i hi => (h2.2.2.2 i hi).trans (h1.2.2.2 i hi)⟩
theorem EvS_congr {n ne ne' : Nat} {M N M' N' : Mem} (h : EvS n ne ne' M N) (hm : ∀ c, c < 12 → M' c = M c) (hn : ∀ c, 60 ≤ c → c ≤ 64 → N' c = N c) (h4 : N' 56 4 = N 56 4) : EvS n ne ne' M' N' := by
  obtain ⟨g1, g2, g3, g4, g5, g6, g7⟩ := h
  refine ⟨by rw [hm 5 (by decide)]; exact g1, g2, fun e he => ?_, by rw [h4]; exact g4, g5, g6.cg (fun c h1 h2 => hm c (by omega)) hn, iNam_congr g7 (hm 6 (by decide)) (hm 8 (by decide)) (hm 11 (by decide))⟩
  rw [hm 6 (by decide), hm 7 (by decide), hm 8 (by decide), hm 9 (by decide)]
  exact g3 e he
theorem Cfg2_congr {b n ne : Nat} {M N M' N' : Mem} (h : Cfg2 b n ne M N) (hm : ∀ c, c < 12 → M' c = M c) (hb' : M' b 12 = M b 12) (hn : ∀ c, 57 ≤ c → c ≤ 64 → N' c = N c) (h0 : N' 56 0 = N 56 0) (h4 : N' 56 4 = N 56 4) (h10 : N' 56 10 = N 56 10) : Cfg2 b n ne M' N' := by
  obtain ⟨a1, a2, a3, ⟨ne', a4⟩, a9⟩ := h
  exact ⟨iN_congr a1 (hm 1 (by decide)) h0, iBeh_congr a2 (hm 2 (by decide)) (hn 57 (by decide) (by decide)), iDel_congr a3 (hm 3 (by decide)) (hn 58 (by decide) (by decide)), ⟨ne', EvS_congr a4 hm (fun c h1 h2 => hn c (by omega) h2) h4⟩, by rw [hb', h10]; exact a9⟩
abbrev mFrom (x1 v33 v42 : Int32) (M43 : Mem) : Option Mem := loop fu (un2 fun (v56 : Int32) (M57 : Mem) => (if (M57 56 0) ≤ v56 then (some (.inr M57)) else (nm (fun (M59 : Mem) => nm (v56 + (1 : Int32)) fun (v60 : Int32) => some (.inl (v60, M59))) fun j208 => if v56 = v42 then (j208 M57) else ((fX7_send x1 v33 v42 v56 M57).bind (fun (M62 : Mem) => j208 M62))) : Option ((Int32 × Mem) ⊕ (Mem)))) ((0 : Int32), M43)
theorem p_said {n a : Nat} {M N : Mem} {h : Int32} (ha : a < 6) (h1 : M 2 a = N 57 a) (h2 : h = N 82 a) : fX2_heightSaid (nI a) h M = some (hsv N a) := by
  unfold fX2_heightSaid hsv
  rw [gd_nI ha (by decide), nI_clamp (by omega), h1, h2]
  simp only [nm]
  by_cases c1 : N 57 a = 1
  · rw [if_pos c1, if_neg (show ¬ N 57 a = 3 by rw [c1]; decide), if_pos c1]
  · rw [if_neg c1]
    by_cases c3 : N 57 a = 3
    · rw [if_pos c3, if_pos c3]
    · rw [if_neg c3, if_neg c3, if_neg c1, Int32.add_zero]
theorem from_sim {b k n ne nl a t : Nat} {M N : Mem} (hb : b = 12 ∨ b = 34) (hk : k < 2) (ht : t < 40) (ha : a < n) (hnl : nl ≤ 30 * t + 5 * a) (hcfg : Cfg2 b n ne M N) (h : SR b k n ne nl M N) : ∃ M' N', fX4_sendFrom b (nI a) (nI t) M = some M' ∧ mFrom (nI k) (nI t) (nI a) N = some N' ∧ SR b k n ne (nl + (n - 1)) M' N' ∧ SdC b M M' ∧ SdM k N N' := by
  obtain ⟨⟨hn2, hn6, e1, e2⟩, hbeh, -⟩ := id hcfg
  obtain ⟨s1, -⟩ := id h.1.1
  unfold fX4_sendFrom
  rw [gd_nI (show a < 6 by omega) (by decide), nI_clamp (show a < 2 ^ 31 by omega), p_said (n := n) (show a < 6 by omega) (hbeh a ha) (s1 a ha)]
  simp only [Option.bind_some]
  rw [bnd1]
  refine loop_two (P := fun i (s t' : Int32 × Mem) => s.1 = nI i ∧ t'.1 = nI i ∧ SR b k n ne (nl + (if i ≤ a then i else i - 1)) s.2 t'.2 ∧ SdC b M s.2 ∧ SdM k N t'.2) (Q := fun M' N' => SR b k n ne (nl + (n - 1)) M' N' ∧ SdC b M M' ∧ SdM k N N') n ?_ ?_ fu 0 _ _ (by unfold fu; omega) (by omega) ⟨rfl, rfl, by rw [if_pos (Nat.zero_le a)]; exact h, fun _ _ _ => rfl, fun _ _ _ _ => rfl, fun _ _ => ⟨rfl, rfl⟩, fun _ _ _ _ _ => rfl, fun _ _ => rfl⟩
  · rintro i ⟨v, M2⟩ ⟨w, N2⟩ hi ⟨hv, hw, hS, hC, hM⟩
    have hv' : v = nI i := hv
    have hw' : w = nI i := hw
    subst hv'; subst hw'
    dsimp only at hS hC hM
    have c1 : M2 1 0 = nI n := by rw [hC 1 (by omega) (by omega)]; exact e1
    have d56 : N2 56 = N 56 := hM.1 56 (by decide) (by decide) (by decide)
    simp only [un2, nm, c1, d56, e2, if_neg (nI_ge hi (show n < 2 ^ 31 by omega)), nI_1]
    by_cases c : i = a
    · subst c
      simp only [if_pos rfl]
      refine ⟨_, _, rfl, rfl, rfl, rfl, ?_, hC, hM⟩
      rw [if_pos (Nat.le_refl i)] at hS
      rw [if_neg (show ¬ i + 1 ≤ i by omega)]
      exact hS
    · have cn : ¬ nI i = nI a := fun e => c ((nI_eq (by omega) (by omega)).mp e)
      simp only [if_neg cn]
      have hcfg2 : Cfg2 b n ne M2 N2 := Cfg2_congr hcfg (fun c' hc' => hC c' (by omega) (by omega)) (by rw [hC b (by omega) (by omega)]) (fun c' h1 h2 => hM.1 c' (by omega) (by omega) (by omega)) (by rw [d56]) (by rw [d56]) (by rw [d56])
      obtain ⟨M3, M4, N4, q1, q2, q3, q4, q5, q6, q7⟩ := send1 (a := a) (c := i) (t := t) hb hk ht ha hi (show nl + (if i ≤ a then i else i - 1) < 1200 by split <;> omega) hcfg2 hS
      have hh : hsv N2 a = hsv N a := by unfold hsv; rw [hM.1 57 (by decide) (by decide) (by decide), hM.1 82 (by decide) (by decide) (by decide)]
      have hp : fX6_pair (nI a) (nI i) = some (nI (6 * a + i)) := by unfold fX6_pair; rw [mul6]
      rw [hh] at q1
      simp only [gd_nI (show a < 6 by omega) (show 6 < 2 ^ 31 by decide), nI_clamp (show a < 2 ^ 31 by omega), q1, Option.bind_some, hp, gd_nI (show 6 * a + i < 36 by omega) (show 36 < 2 ^ 31 by decide), nI_clamp (show 6 * a + i < 2 ^ 31 by omega), q2, q3, q4, un2]
      refine ⟨(nI (i + 1), M4), (nI (i + 1), N4), rfl, rfl, rfl, rfl, ?_, hC.tr q6, hM.tr q7⟩
      have : nl + (if i + 1 ≤ a then i + 1 else i + 1 - 1) = nl + (if i ≤ a then i else i - 1) + 1 := by
        by_cases c2 : i ≤ a
        · rw [if_pos c2, if_pos (by omega)]; omega
        · rw [if_neg c2, if_neg (by omega)]; omega
      rw [this]
      exact q5
  · rintro ⟨v, M2⟩ ⟨w, N2⟩ ⟨hv, hw, hS, hC, hM⟩
    have hv' : v = nI n := hv
    have hw' : w = nI n := hw
    subst hv'; subst hw'
    dsimp only at hS hC hM
    have c1 : M2 1 0 = nI n := by rw [hC 1 (by omega) (by omega)]; exact e1
    have d56 : N2 56 = N 56 := hM.1 56 (by decide) (by decide) (by decide)
    simp only [un2, c1, d56, e2, if_pos (nI_le (Nat.le_refl n) (show n < 2 ^ 31 by omega))]
    rw [if_neg (show ¬ n ≤ a by omega)] at hS
    exact ⟨_, _, rfl, rfl, hS, hC, hM⟩
/-- what the reference's fourth phase leaves -/
def LtM (k t n : Nat) (N N' : Mem) : Prop := (∀ c, c ≠ 66 → c ≠ 67 → c ≠ 71 → ¬ (74 ≤ c ∧ c ≤ 81) → N' c = N c) ∧ (∀ i, i ≠ k → N' 66 i = N 66 i ∧ N' 67 i = N 67 i) ∧ (∀ c, 74 ≤ c → c ≤ 80 → ∀ i, (i < 1200 * k ∨ 1200 * k + 1200 ≤ i) → N' c i = N c i) ∧ (∀ i, (i < 7200 * k ∨ 7200 * k + 7200 ≤ i) → N' 81 i = N 81 i) ∧ ∀ i, (i < 420 * k + 7 * t ∨ 420 * k + 7 * t + n ≤ i) → N' 71 i = N 71 i
abbrev mLet (x1 v33 : Int32) (M40 : Mem) : Option Mem := loop fu (un2 fun (v42 : Int32) (M43 : Mem) => (if (M43 56 0) ≤ v42 then (some (.inr M43)) else (gd v42 7 (nm (fun (M46 : Mem) => gd v42 7 (gd ((((420 : Int32) * x1) + ((7 : Int32) * v33)) + v42) 840 (nm (st M46 71 (Int32.toNatClampNeg ((((420 : Int32) * x1) + ((7 : Int32) * v33)) + v42)) (M46 82 (Int32.toNatClampNeg v42))) fun (M49 : Mem) => nm (v42 + (1 : Int32)) fun (v50 : Int32) => some (.inl (v50, M49))))) fun j214 => if (M43 85 (Int32.toNatClampNeg v42)) = 0 then (gd v42 7 (if (M43 57 (Int32.toNatClampNeg v42)) = (2 : Int32) then (j214 M43) else (gd v42 7 (nm (fun (u55 : Unit) => (mFrom x1 v33 v42 M43).bind (un1 fun (M64 : Mem) => j214 M64)) fun j179 => if (M43 86 (Int32.toNatClampNeg v42)) = 0 then (if (v33 - v33 / (4 : Int32) * (4 : Int32)) = 0 then (j179 ()) else (j214 M43)) else (j179 ()))))) else (j214 M43))) : Option ((Int32 × Mem) ⊕ (Mem)))) ((0 : Int32), M40)
theorem SR_71 {b k n ne nl : Nat} {M N : Mem} (x : Nat) (v : Int32) (h : SR b k n ne nl M N) : SR b k n ne nl M (st N 71 x v) := by
  unfold SR PR NS iLet CRL at *
  simp only [st_c _ _ _ (show 82 ≠ 71 by decide), st_c _ _ _ (show 83 ≠ 71 by decide), st_c _ _ _ (show 84 ≠ 71 by decide), st_c _ _ _ (show 85 ≠ 71 by decide), st_c _ _ _ (show 56 ≠ 71 by decide), st_c _ _ _ (show 66 ≠ 71 by decide), st_c _ _ _ (show 67 ≠ 71 by decide), st_c _ _ _ (show 68 ≠ 71 by decide), st_c _ _ _ (show 69 ≠ 71 by decide), st_c _ _ _ (show 74 ≠ 71 by decide), st_c _ _ _ (show 75 ≠ 71 by decide), st_c _ _ _ (show 76 ≠ 71 by decide), st_c _ _ _ (show 77 ≠ 71 by decide), st_c _ _ _ (show 78 ≠ 71 by decide), st_c _ _ _ (show 79 ≠ 71 by decide), st_c _ _ _ (show 80 ≠ 71 by decide), st_c _ _ _ (show 81 ≠ 71 by decide)]
  exact h
theorem letters_sim {b k n ne nl t : Nat} {M N : Mem} (hb : b = 12 ∨ b = 34) (hk : k < 2) (ht : t < 40) (hnl : nl ≤ 30 * t) (hcfg : Cfg2 b n ne M N) (hG : GW b n M N) (h : SR b k n ne nl M N) : ∃ M' N', fX4_sendLetters b (nI t) M = some M' ∧ mLet (nI k) (nI t) N = some N' ∧ (∃ nl', nl' ≤ 30 * (t + 1) ∧ SR b k n ne nl' M' N') ∧ SdC b M M' ∧ LtM k t n N N' ∧ ∀ a, a < n → N' 71 (420 * k + 7 * t + a) = N 82 a := by
  obtain ⟨⟨hn2, hn6, e1, e2⟩, hbeh, -⟩ := id hcfg
  obtain ⟨rm, hrm⟩ : ∃ rm : Int32, (if (nI t - nI t / (4 : Int32) * (4 : Int32)) = 0 then (1 : Int32) else 0) = rm := ⟨_, rfl⟩
  have hcls : fX4_sendLetters b (nI t) M = loop fu (un2 fun (v2 : Int32) (M3 : Mem) => (if (M3 1 0) ≤ v2 then (some (.inr M3)) else (gd v2 6 (nm (fun (v6 : Int32) => nm (fun (M7 : Mem) => nm (v2 + (1 : Int32)) fun (v8 : Int32) => some (.inl (v8, M7))) fun j84 => if v6 = 0 then (j84 M3) else (nm (fun (u10 : Unit) => (fX4_sendFrom b v2 (nI t) M3).bind (fun (M11 : Mem) => j84 M11)) fun j78 => if rm = 0 then (gd v2 6 (if (M3 (b + 10) (Int32.toNatClampNeg v2)) = 0 then (j84 M3) else (j78 ()))) else (j78 ()))) fun j55 => nm (fun (u16 : Unit) => j55 (0 : Int32)) fun j54 => if (M3 (b + 9) (Int32.toNatClampNeg v2)) = 0 then (j54 ()) else (gd v2 6 (if (M3 2 (Int32.toNatClampNeg v2)) = (2 : Int32) then (j54 ()) else (j55 (1 : Int32)))))) : Option ((Int32 × Mem) ⊕ (Mem)))) ((0 : Int32), M) := by
    unfold fX4_sendLetters
    by_cases c : (nI t - nI t / (4 : Int32) * (4 : Int32)) = 0
    · rw [if_pos c] at hrm; subst hrm; exact (if_pos c).trans (bnd1 _)
    · rw [if_neg c] at hrm; subst hrm; exact (if_neg c).trans (bnd1 _)
  rw [hcls]
  refine loop_two (P := fun i (s t' : Int32 × Mem) => s.1 = nI i ∧ t'.1 = nI i ∧ (∃ nl', nl' ≤ 30 * t + 5 * i ∧ SR b k n ne nl' s.2 t'.2) ∧ SdC b M s.2 ∧ LtM k t n N t'.2 ∧ ∀ a, a < i → t'.2 71 (420 * k + 7 * t + a) = N 82 a) (Q := fun M' N' => (∃ nl', nl' ≤ 30 * (t + 1) ∧ SR b k n ne nl' M' N') ∧ SdC b M M' ∧ LtM k t n N N' ∧ ∀ a, a < n → N' 71 (420 * k + 7 * t + a) = N 82 a) n ?_ ?_ fu 0 _ _ (by unfold fu; omega) (by omega) ⟨rfl, rfl, ⟨nl, by omega, h⟩, fun _ _ _ => rfl, ⟨fun _ _ _ _ _ => rfl, fun _ _ => ⟨rfl, rfl⟩, fun _ _ _ _ _ => rfl, fun _ _ => rfl, fun _ _ => rfl⟩, fun a ha => by omega⟩
  · rintro i ⟨v, M2⟩ ⟨w, N2⟩ hi ⟨hv, hw, hS', hC, hM, h71⟩
    have hv' : v = nI i := hv
    have hw' : w = nI i := hw
    subst hv'; subst hw'
    dsimp only at hS' hC hM h71
    obtain ⟨nl', hnl', hS⟩ := hS'
    have c1 : M2 1 0 = nI n := by rw [hC 1 (by omega) (by omega)]; exact e1
    have d56 : N2 56 = N 56 := hM.1 56 (by decide) (by decide) (by decide) (by decide)
    have hg6 : ∀ {β : Type} (q : Option β), gd (nI i) 6 q = q := fun q => gd_nI (by omega) (by decide)
    have hg7 : ∀ {β : Type} (q : Option β), gd (nI i) 7 q = q := fun q => gd_nI (by omega) (by decide)
    have hix : (((420 : Int32) * nI k) + ((7 : Int32) * nI t)) + nI i = nI (420 * k + 7 * t + i) := by
      rw [show (420 : Int32) = nI 420 from rfl, show (7 : Int32) = nI 7 from rfl, pk_mul, pk_mul, nI_add, nI_add]
    have hgx : ∀ {β : Type} (q : Option β), gd (nI (420 * k + 7 * t + i)) 840 q = q := fun q => gd_nI (by omega) (by decide)
    have hgr : M2 (b + 10) i = N2 86 i ∧ bool01 (M2 (b + 10) i) := by
      rw [hC (b + 10) (by omega) (by omega), hM.1 86 (by decide) (by decide) (by decide) (by decide)]; exact hG i hi
    have hbe : M2 2 i = N2 57 i := by rw [hC 2 (by omega) (by omega), hM.1 57 (by decide) (by decide) (by decide) (by decide)]; exact hbeh i hi
    have hup := hS.1.1.2.2.1 i hi
    have hcfg2 : Cfg2 b n ne M2 N2 := Cfg2_congr hcfg (fun c' hc' => hC c' (by omega) (by omega)) (by rw [hC b (by omega) (by omega)]) (fun c' h1 h2 => hM.1 c' (by omega) (by omega) (by omega) (by omega)) (by rw [d56]) (by rw [d56]) (by rw [d56])
    -- storing the height at the end
    have fin : ∀ (M3 N3 : Mem) (nl3 : Nat), nl3 ≤ 30 * t + 5 * (i + 1) → SR b k n ne nl3 M3 N3 → SdC b M M3 → LtM k t n N N3 → (∀ a, a < i → N3 71 (420 * k + 7 * t + a) = N 82 a) → ∃ s' t', (some (.inl (nI (i + 1), M3)) : Option ((Int32 × Mem) ⊕ Mem)) = some (.inl s') ∧ (some (.inl (nI (i + 1), st N3 71 (420 * k + 7 * t + i) (N3 82 i))) : Option ((Int32 × Mem) ⊕ Mem)) = some (.inl t') ∧ s'.1 = nI (i + 1) ∧ t'.1 = nI (i + 1) ∧ (∃ nl', nl' ≤ 30 * t + 5 * (i + 1) ∧ SR b k n ne nl' s'.2 t'.2) ∧ SdC b M s'.2 ∧ LtM k t n N t'.2 ∧ ∀ a, a < i + 1 → t'.2 71 (420 * k + 7 * t + a) = N 82 a := by
      intro M3 N3 nl3 g1 g2 g3 g4 g5
      refine ⟨_, _, rfl, rfl, rfl, rfl, ⟨nl3, g1, SR_71 _ _ g2⟩, g3, ⟨fun c a1 a2 a3 a4 => (st_c _ _ _ a3).trans (g4.1 c a1 a2 a3 a4), fun j hj => ?_, fun c a1 a2 j hj => ?_, fun j hj => ?_, fun j hj => ?_⟩, fun a ha => ?_⟩
      · dsimp only; rw [st_c _ _ _ (show 66 ≠ 71 by decide), st_c _ _ _ (show 67 ≠ 71 by decide)]; exact g4.2.1 j hj
      · dsimp only; rw [st_c _ _ _ (show c ≠ 71 by omega)]; exact g4.2.2.1 c a1 a2 j hj
      · dsimp only; rw [st_c _ _ _ (show 81 ≠ 71 by decide)]; exact g4.2.2.2.1 j hj
      · dsimp only; rw [st_ck _ _ (show j ≠ 420 * k + 7 * t + i by omega)]; exact g4.2.2.2.2 j hj
      · dsimp only
        by_cases e : a = i
        · subst e; rw [st_cc, g4.1 82 (by decide) (by decide) (by decide) (by decide)]
        · rw [st_ck _ _ (by omega)]; exact g5 a (by omega)
    have skip := fin M2 N2 nl' (by omega) hS hC hM h71
    obtain ⟨M3, N3, f1, f2, f3, f4, f5⟩ := from_sim hb hk ht hi hnl' hcfg2 hS
    have send := fin M3 N3 (nl' + (n - 1)) (by omega) f3 (hC.tr f4) ⟨fun c a1 a2 a3 a4 => (f5.1 c a1 a2 a4).trans (hM.1 c a1 a2 a3 a4), fun j hj => ⟨(f5.2.1 j hj).1.trans (hM.2.1 j hj).1, (f5.2.1 j hj).2.trans (hM.2.1 j hj).2⟩, fun c a1 a2 j hj => (f5.2.2.1 c a1 a2 j hj).trans (hM.2.2.1 c a1 a2 j hj), fun j hj => (f5.2.2.2 j hj).trans (hM.2.2.2.1 j hj), fun j hj => by rw [f5.1 71 (by decide) (by decide) (by decide)]; exact hM.2.2.2.2 j hj⟩ (fun a ha => by rw [f5.1 71 (by decide) (by decide) (by decide)]; exact h71 a ha)
    have f2' : mFrom (nI k) (nI t) (nI i) N2 = some N3 := f2
    simp only [un2, nm, c1, d56, e2, if_neg (nI_ge hi (show n < 2 ^ 31 by omega)), hg6, hg7, nI_clamp (show i < 2 ^ 31 by omega), nI_1, hix, hgx, nI_clamp (show 420 * k + 7 * t + i < 2 ^ 31 by omega), f1, Option.bind_some, hbe, ← hgr.1]
    rcases hup with ⟨u1, u2⟩ | ⟨u1, u2⟩
    · simp only [u1, u2, if_neg b1, if_pos rfl]
      by_cases cb : N2 57 i = 2
      · simp only [if_pos cb, if_pos rfl]; exact skip
      · simp only [if_neg cb, if_neg b1]
        by_cases cg : M2 (b + 10) i = 0
        · simp only [if_pos cg]
          by_cases cr : (nI t - nI t / (4 : Int32) * (4 : Int32)) = 0
          · rw [if_pos cr] at hrm
            subst hrm
            simp only [if_neg b1, if_pos cr, ↓reduceIte, f2', Option.bind_some, un1]
            exact send
          · rw [if_neg cr] at hrm
            subst hrm
            simp only [if_pos rfl, if_neg cr]
            exact skip
        · simp only [if_neg cg, ite_self, ↓reduceIte, f2', Option.bind_some, un1]
          exact send
    · simp only [u1, u2, if_neg b1, if_pos rfl]
      exact skip
  · rintro ⟨v, M2⟩ ⟨w, N2⟩ ⟨hv, hw, hS, hC, hM, h71⟩
    have hv' : v = nI n := hv
    have hw' : w = nI n := hw
    subst hv'; subst hw'
    dsimp only at hS hC hM h71
    have c1 : M2 1 0 = nI n := by rw [hC 1 (by omega) (by omega)]; exact e1
    have d56 : N2 56 = N 56 := hM.1 56 (by decide) (by decide) (by decide) (by decide)
    simp only [un2, c1, d56, e2, if_pos (nI_le (Nat.le_refl n) (show n < 2 ^ 31 by omega))]
    obtain ⟨nl', hn', hS'⟩ := hS
    exact ⟨_, _, rfl, rfl, ⟨nl', by omega, hS'⟩, hC, hM, h71⟩
