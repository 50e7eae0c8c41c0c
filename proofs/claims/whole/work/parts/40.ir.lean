/-! ===== between two calls, over two memories ===== -/
def ShR (n T nl : Nat) (M N : Mem) : Prop := T ≤ 40 ∧ M 12 8 = nI T ∧ N 65 0 = nI T ∧ Rec 12 0 n T nl M N ∧ (0 < T → M 12 9 = N 70 0 ∧ ∀ a, a < n → M 20 a = N 73 a ∧ nat256 (M 20 a)) ∧ M 12 2 = 0 ∧ M 34 2 = 1
def IR (n ne T nl : Nat) (M N : Mem) : Prop := Cfg n ne M N ∧ (∀ e, e < 20 → (e < ne → M 10 e = 0) ∧ N 64 e = 0) ∧ N 56 10 = 0 ∧ ShR n T nl M N
theorem IR_self {n ne T nl : Nat} {M : Mem} : IR n ne T nl M M ↔ InvA n ne T nl M := Iff.rfl
def KM (N N' : Mem) : Prop := (∀ c, 65 ≤ c → c ≤ 70 → N' c 0 = N c 0) ∧ (∀ i, i < 420 → N' 71 i = N 71 i) ∧ (∀ i, i < 60 → N' 72 i = N 72 i) ∧ (∀ i, i < 7 → N' 73 i = N 73 i) ∧ ∀ c, 74 ≤ c → c ≤ 80 → ∀ i, i < 1200 → N' c i = N c i
theorem KM.rf {N : Mem} : KM N N := ⟨fun _ _ _ => rfl, fun _ _ => rfl, fun _ _ => rfl, fun _ _ => rfl, fun _ _ _ _ _ => rfl⟩
theorem KM.tr {N N1 N2 : Mem} (h : KM N N1) (g : KM N1 N2) : KM N N2 := ⟨fun c h1 h2 => (g.1 c h1 h2).trans (h.1 c h1 h2), fun i hi => (g.2.1 i hi).trans (h.2.1 i hi), fun i hi => (g.2.2.1 i hi).trans (h.2.2.1 i hi), fun i hi => (g.2.2.2.1 i hi).trans (h.2.2.2.1 i hi), fun c h1 h2 i hi => (g.2.2.2.2 c h1 h2 i hi).trans (h.2.2.2.2 c h1 h2 i hi)⟩
theorem KM.of {N N' : Mem} (h : ∀ c, 65 ≤ c → c ≤ 80 → N' c = N c) : KM N N' := ⟨fun c h1 h2 => by rw [h c h1 (by omega)], fun i hi => by rw [h 71 (by decide) (by decide)], fun i hi => by rw [h 72 (by decide) (by decide)], fun i hi => by rw [h 73 (by decide) (by decide)], fun c h1 h2 i hi => by rw [h c (by omega) h2]⟩
theorem RnX.km {T : Nat} {N N' : Mem} (h : RnX 1 T N N') : KM N N' := ⟨fun c h1 h2 => h.2.2.1 c h1 h2 0 (by decide), fun i hi => h.2.2.2.2.1 i (by omega), fun i hi => h.2.2.2.2.2.1 i (by omega), fun i hi => h.2.2.2.2.2.2.1 i (by omega), fun c h1 h2 i hi => h.2.2.2.2.2.2.2 c h1 h2 i (by omega)⟩
theorem ShR_keep {n T nl : Nat} {M N M' N' : Mem} (hn : n ≤ 6) (h : ShR n T nl M N) (hm : ∀ c, 12 ≤ c → c < 34 → M' c = M c) (h34 : M' 34 2 = M 34 2) (hk : KM N N') : ShR n T nl M' N' := by
  obtain ⟨hT, h1, h2, ⟨r1, r2, r3, r4, r5, r6, r7, r8, r9⟩, h4, h5, h6⟩ := h
  obtain ⟨k1, k2, k3, k4, k5⟩ := hk
  have m12 := hm 12 (by decide) (by decide)
  have e24 : M' (12 + 12) = M (12 + 12) := hm _ (by decide) (by decide)
  refine ⟨hT, by rw [m12]; exact h1, by rw [k1 65 (by decide) (by decide)]; exact h2, ⟨r1, by rw [e24]; exact r2, by rw [k1 66 (by decide) (by decide)]; exact r3, fun j hj => ?_, by rw [e24, k1 67 (by decide) (by decide)]; exact r5, by rw [m12, k1 68 (by decide) (by decide)]; exact r6, by rw [m12, k1 69 (by decide) (by decide)]; exact r7, fun u a hu ha => ?_, fun u hu => ?_⟩, fun h0 => ⟨by rw [m12, k1 70 (by decide) (by decide)]; exact (h4 h0).1, fun a ha => by rw [hm 20 (by decide) (by decide), k4 a (by omega)]; exact (h4 h0).2 a ha⟩, by rw [m12]; exact h5, by rw [h34]; exact h6⟩
  · rw [hm (12 + 13) (by decide) (by decide), hm (12 + 14) (by decide) (by decide), hm (12 + 15) (by decide) (by decide), hm (12 + 16) (by decide) (by decide), hm (12 + 17) (by decide) (by decide), hm (12 + 18) (by decide) (by decide), hm (12 + 19) (by decide) (by decide), k5 74 (by decide) (by decide) _ (by omega), k5 75 (by decide) (by decide) _ (by omega), k5 76 (by decide) (by decide) _ (by omega), k5 77 (by decide) (by decide) _ (by omega), k5 78 (by decide) (by decide) _ (by omega), k5 79 (by decide) (by decide) _ (by omega), k5 80 (by decide) (by decide) _ (by omega)]
    exact r4 j hj
  · rw [hm (12 + 20) (by decide) (by decide), k2 _ (by omega)]; exact r8 u a hu ha
  · rw [hm (12 + 21) (by decide) (by decide), k3 _ (by omega)]; exact r9 u hu
theorem Cfg_congr {n ne : Nat} {M N M' N' : Mem} (h : Cfg n ne M N) (hm : ∀ c, c < 12 → c ≠ 10 → M' c = M c) (hn : ∀ c, 57 ≤ c → c ≤ 63 → N' c = N c) (h0 : N' 56 0 = N 56 0) (h4 : N' 56 4 = N 56 4) : Cfg n ne M' N' := by
  obtain ⟨a1, a2, a3, a4, a5, a6⟩ := h
  exact ⟨iN_congr a1 (hm 1 (by decide) (by decide)) h0, iBeh_congr a2 (hm 2 (by decide) (by decide)) (hn 57 (by decide) (by decide)), iDel_congr a3 (hm 3 (by decide) (by decide)) (hn 58 (by decide) (by decide)), iRum_congr a4 (hm 4 (by decide) (by decide)) (hn 59 (by decide) (by decide)), iEv_congr a5 (hm 5 (by decide) (by decide)) h4 (hm 6 (by decide) (by decide)) (hm 7 (by decide) (by decide)) (hm 8 (by decide) (by decide)) (hm 9 (by decide) (by decide)) (hn 60 (by decide) (by decide)) (hn 61 (by decide) (by decide)) (hn 62 (by decide) (by decide)) (hn 63 (by decide) (by decide)), iNam_congr a6 (hm 6 (by decide) (by decide)) (hm 8 (by decide) (by decide)) (hm 11 (by decide) (by decide))⟩
theorem IR_congr {n ne T nl : Nat} {M N M' N' : Mem} (h : IR n ne T nl M N) (hm : ∀ c, c < 56 → M' c = M c) (hn : ∀ c, 56 ≤ c → N' c = N c) : IR n ne T nl M' N' := by
  obtain ⟨h1, h2, h3, h4⟩ := h
  refine ⟨Cfg_congr h1 (fun c hc _ => hm c (by omega)) (fun c c1 c2 => hn c (by omega)) (by rw [hn 56 (by decide)]) (by rw [hn 56 (by decide)]), fun e he => by rw [hm 10 (by decide), hn 64 (by decide)]; exact h2 e he, by rw [hn 56 (by decide)]; exact h3, ShR_keep h1.1.2.1 h4 (fun c c1 c2 => hm c (by omega)) (by rw [hm 34 (by decide)]) (KM.of fun c c1 c2 => hn c (by omega))⟩
theorem both_mk {f g : Mem → Option (Int32 × Mem)} {M : Mem} (h : Inv M) (hs : ∀ n ne T nl N, IR n ne T nl M N → ∃ r M' N', f M = some (r, M') ∧ g N = some (r, N') ∧ (∀ c, 56 ≤ c → M' c = M c) ∧ (∀ c, c < 56 → N' c = N c) ∧ ∃ n ne T nl, IR n ne T nl M' N') : Both (f M) g := by
  obtain ⟨n, ne, T, nl, h⟩ := h
  obtain ⟨r, M1, -, a1, -, a3, -, -⟩ := hs n ne T nl M (IR_self.mpr h)
  obtain ⟨r2, M1', M2, b1', b2, b3, b4, n2, ne2, T2, nl2, b5⟩ := hs n ne T nl M1 (IR_congr (IR_self.mpr h) (fun _ _ => rfl) a3)
  rw [a1] at b1'
  obtain ⟨rfl, rfl⟩ := Prod.mk.inj (Option.some.inj b1')
  exact ⟨r, M1, M2, a1, b2, n2, ne2, T2, nl2, IR_self.mp (IR_congr b5 b4 (fun _ _ => rfl))⟩
theorem EvS_of {n ne : Nat} {M N : Mem} (h : iEv n ne M N) (hnam : iNam ne M) (hf : ∀ e, e < ne → M 10 e = N 64 e) : EvS n ne ne M N := by
  obtain ⟨v1, v2, v3, v4⟩ := h
  exact ⟨v1, v3, fun e he => (v4 e he).2.2.2.2, v2, Nat.le_refl _, Sub.pre ne (fun e he => ⟨(v4 e he).1, (v4 e he).2.1, (v4 e he).2.2.1, (v4 e he).2.2.2.1, hf e he⟩), hnam⟩
/-- the greatest height -/
abbrev mGr (M4 : Mem) : Option Int32 := loop fu (un2 fun (v6 : Int32) (v7 : Int32) => (if (M4 56 0) ≤ v7 then (some (.inr v6)) else (gd v7 7 (nm (fun (v10 : Int32) => nm (v7 + (1 : Int32)) fun (v11 : Int32) => some (.inl (v10, v11))) fun j51 => if (M4 82 (Int32.toNatClampNeg v7)) ≤ v6 then (j51 v6) else (gd v7 7 (j51 (M4 82 (Int32.toNatClampNeg v7)))))) : Option ((Int32 × Int32) ⊕ (Int32)))) ((0 : Int32), (0 : Int32))
theorem great_sim {n : Nat} {M N : Mem} (hN : iN n M N) (h : ∀ a, a < n → M (12 + 7) a = N 82 a) : ∃ r, fX3_greatestHeight 12 M = some r ∧ mGr N = some r := by
  obtain ⟨hn2, hn6, e1, e2⟩ := hN
  unfold fX3_greatestHeight
  rw [bnd1]
  refine two_eq (loop_two (P := fun i s t => s = t ∧ s.2 = nI i) (Q := fun b c => b = c) n ?_ ?_ fu 0 _ _ (by unfold fu; omega) (by omega) ⟨rfl, rfl⟩)
  · rintro i ⟨v, w⟩ t hi ⟨rfl, hw⟩
    have hw' : w = nI i := hw
    subst hw'
    have hh : M (12 + 7) i = N 82 i := h i hi
    simp only [un2, nm, e1, e2, if_neg (nI_ge hi (show n < 2 ^ 31 by omega)), gd_nI (show i < 6 by omega) (show 6 < 2 ^ 31 by decide), gd_nI (show i < 7 by omega) (show 7 < 2 ^ 31 by decide), nI_clamp (show i < 2 ^ 31 by omega), nI_1]
    have h19 : M 19 i = N 82 i := hh
    have hlt : (v < N 82 i) ↔ ¬ (N 82 i ≤ v) := by rw [Int32.lt_iff_toInt_lt, Int32.le_iff_toInt_le]; omega
    by_cases c : N 82 i ≤ v
    · refine ⟨(v, nI (i + 1)), _, ?_, ?_, rfl, rfl⟩
      · first | rw [hh] | rw [h19]
        rw [if_neg (fun g => hlt.mp g c)]
      · rw [if_pos c]
    · refine ⟨(N 82 i, nI (i + 1)), _, ?_, ?_, rfl, rfl⟩
      · first | rw [hh] | rw [h19]
        rw [if_pos (hlt.mpr c)]
      · rw [if_neg c]
  · rintro ⟨v, w⟩ t ⟨rfl, hw⟩
    have hw' : w = nI n := hw
    subst hw'
    refine ⟨v, v, ?_, ?_, rfl⟩
    · simp only [un2]; rw [e1, if_pos (nI_le (Nat.le_refl _) (by omega))]
    · simp only [un2]; rw [e2, if_pos (nI_le (Nat.le_refl _) (by omega))]
theorem play7_eq (x1 : Int32) (M : Mem) : fX7_play x1 M = (fX7_in x1 (1 : Int32) (40 : Int32)).bind (fun (r1 : Int32) => if r1 = 0 then (some ((-3 : Int32), M)) else ((fX7_run (0 : Int32) x1 M).bind (fun (M4 : Mem) => (mGr M4).bind (un1 fun (v14 : Int32) => some (v14, M4))))) := rfl
theorem s_play {M : Mem} (h : Inv M) (x : Int32) : Both (fX6_play x M) (fX7_play x) := by
  refine both_mk (f := fX6_play x) h ?_
  intro n ne T0 nl0 N hI
  have one : (1 : Int32).toInt = 1 := rfl
  have zero : (0 : Int32).toInt = 0 := rfl
  have forty : (40 : Int32).toInt = 40 := rfl
  by_cases c1 : x < 1
  · refine ⟨-3, M, N, ?_, ?_, fun _ _ => rfl, fun _ _ => rfl, n, ne, T0, nl0, hI⟩
    · unfold fX6_play; rw [if_pos c1]
    · rw [play7_eq]; unfold fX7_in; rw [if_pos c1]; rfl
  · by_cases c2 : x ≤ 40
    · rcases pk_ix x (show 41 < 2 ^ 31 by decide) with h1 | h1 | ⟨T, hT, rfl⟩
      · rw [Int32.lt_iff_toInt_lt] at h1 c1; omega
      · have : (nI 41).toInt = 41 := rfl
        rw [Int32.le_iff_toInt_le] at h1 c2; omega
      · have hT1 : 1 ≤ T := by
          rcases Nat.eq_zero_or_pos T with h0 | h0
          · subst h0; exact absurd (by decide) c1
          · exact h0
        obtain ⟨hcfg, hout, hx, hsh⟩ := id hI
        obtain ⟨a1, a2, a3, a4, a5, a6⟩ := id hcfg
        obtain ⟨-, -, -, -, -, hs12, hs34⟩ := id hsh
        have hne := a5.2.2.1
        obtain ⟨r, M', N', q1, q2, -, q4, q5, q6, q7⟩ := full_run (b := 12) (k := 0) (T := T) (x := 0) (ne := ne) (Or.inl rfl) (by decide) (by omega) a1 a2 a3 a4 ⟨ne, EvS_of a5 a6 (fun e he => by rw [(hout e (by omega)).1 he, (hout e (by omega)).2])⟩ hx.symm
        obtain ⟨nl, p1, p2, p3, p4, p5, p6⟩ := q7 hs12
        have m12 : ∀ c, c < 12 → M' c = M c := fun c hc => q4 c (by omega)
        have hcfg' : Cfg n ne M' N' := Cfg_congr hcfg (fun c hc _ => m12 c hc) (fun c c1 c2 => q6.1 c (by omega) (by omega)) (q6.2.1 0 (by decide)) (q6.2.1 4 (by decide))
        obtain ⟨g, g1, g2⟩ := great_sim hcfg'.1 p6
        refine ⟨g, M', N', ?_, ?_, fun c hc => q4 c (by omega), fun c hc => q6.1 c (by omega) (by omega), n, ne, T, nl, hcfg', fun e he => ?_, ?_, by omega, p1, p2, p3, fun _ => ⟨p4, fun a ha => ?_⟩, by rw [q5]; exact hs12, by rw [q4 34 (by decide)]; exact hs34⟩
        · unfold fX6_play
          rw [if_neg c1, if_pos c2, q1]
          simp only [Option.bind_some, un2]
          rw [g1]; rfl
        · rw [play7_eq]
          unfold fX7_in
          rw [if_neg c1, if_neg (show ¬ (40 : Int32) < nI T by rw [Int32.lt_iff_toInt_lt]; rw [Int32.le_iff_toInt_le] at c2; omega)]
          simp only [Option.bind_some, if_neg b1]
          have q2' : fX7_run 0 (nI T) N = some N' := q2
          rw [q2']
          simp only [Option.bind_some]
          rw [g2]; rfl
        · rw [m12 10 (by decide), q6.1 64 (by decide) (by decide)]; exact hout e he
        · rw [q6.2.1 10 (by decide)]; exact hx
        · have := p5 a ha
          simp only [Nat.mul_zero, Nat.zero_add] at this
          exact this
    · refine ⟨-3, M, N, ?_, ?_, fun _ _ => rfl, fun _ _ => rfl, n, ne, T0, nl0, hI⟩
      · unfold fX6_play; rw [if_neg c1, if_neg c2]
      · rw [play7_eq]; unfold fX7_in; rw [if_neg c1, if_pos (show (40 : Int32) < x by rw [Int32.lt_iff_toInt_lt]; rw [Int32.le_iff_toInt_le] at c2; omega)]; rfl
