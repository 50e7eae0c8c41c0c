/-! ===== trials ===== -/
theorem loop_two_gen {σ τ β γ : Type} {f : σ → Option (σ ⊕ β)} {g : τ → Option (τ ⊕ γ)} (P : Nat → σ → τ → Prop) (Q : β → γ → Prop) (hs : ∀ i s t, P (i + 1) s t → (∃ s' t', f s = some (.inl s') ∧ g t = some (.inl t') ∧ P i s' t') ∨ ∃ b c, f s = some (.inr b) ∧ g t = some (.inr c) ∧ Q b c) (h0 : ∀ s t, P 0 s t → ∃ b c, f s = some (.inr b) ∧ g t = some (.inr c) ∧ Q b c) : ∀ (F m : Nat) (s : σ) (t : τ), m < F → P m s t → ∃ b c, loop F f s = some b ∧ loop F g t = some c ∧ Q b c := by
  intro F
  induction F with
  | zero => intro m s t h; omega
  | succ F ih =>
    intro m s t hF hP
    cases m with
    | zero =>
      obtain ⟨b, c, e1, e2, hQ⟩ := h0 s t hP
      exact ⟨b, c, loop_out e1, loop_out e2, hQ⟩
    | succ m =>
      rcases hs m s t hP with ⟨s', t', e1, e2, hP'⟩ | ⟨b, c, e1, e2, hQ⟩
      · obtain ⟨b, c, g1, g2, hQ⟩ := ih m s' t' (by omega) hP'
        exact ⟨b, c, by rw [loop_in e1]; exact g1, by rw [loop_in e2]; exact g2, hQ⟩
      · exact ⟨b, c, loop_out e1, loop_out e2, hQ⟩
def CQ (M M' : Mem) : Prop := (∀ c, c < 34 ∨ 56 ≤ c → c ≠ 10 → M' c = M c) ∧ M' 34 2 = M 34 2
def NQ (N N' : Mem) : Prop := (∀ c, c < 65 → c ≠ 56 → c ≠ 64 → N' c = N c) ∧ (∀ i, i ≠ 33 → i ≠ 10 → N' 56 i = N 56 i) ∧ KM N N'
theorem CQ.rf {M : Mem} : CQ M M := ⟨fun _ _ _ => rfl, rfl⟩
theorem NQ.rf {N : Mem} : NQ N N := ⟨fun _ _ _ _ => rfl, fun _ _ _ => rfl, KM.rf⟩
theorem CQ.tr {M M1 M2 : Mem} (h : CQ M M1) (g : CQ M1 M2) : CQ M M2 := ⟨fun c h1 h2 => (g.1 c h1 h2).trans (h.1 c h1 h2), g.2.trans h.2⟩
theorem NQ.tr {M M1 M2 : Mem} (h : NQ M M1) (g : NQ M1 M2) : NQ M M2 := ⟨fun c h1 h2 h3 => (g.1 c h1 h2 h3).trans (h.1 c h1 h2 h3), fun i h1 h2 => (g.2.1 i h1 h2).trans (h.2.1 i h1 h2), h.2.2.tr g.2.2⟩
theorem CQ_st {M : Mem} (i : Nat) (v : Int32) : CQ M (st M 10 i v) := ⟨fun c _ h => st_c _ _ _ h, by rw [st_c _ _ _ (show 34 ≠ 10 by decide)]⟩
theorem NQ_st {N : Mem} (i : Nat) (v : Int32) : NQ N (st N 64 i v) := ⟨fun c _ _ h => st_c _ _ _ h, fun i _ _ => by rw [st_c _ _ _ (show 56 ≠ 64 by decide)], KM.of fun c h1 h2 => st_c _ _ _ (by omega)⟩
theorem NQ_sl {N : Mem} (v : Int32) : NQ N (st N 56 10 v) := ⟨fun c _ h _ => st_c _ _ _ h, fun i _ h => st_ck _ _ h, KM.of fun c h1 h2 => st_c _ _ _ (by omega)⟩
theorem CN_cfg {n ne : Nat} {M N M' N' : Mem} (h : Cfg n ne M N) (hC : CQ M M') (hQ : NQ N N') : Cfg n ne M' N' := Cfg_congr h (fun c h1 h2 => hC.1 c (by omega) h2) (fun c h1 h2 => hQ.1 c (by omega) (by omega) (by omega)) (hQ.2.1 0 (by decide) (by decide)) (hQ.2.1 4 (by decide) (by decide))
theorem IR_end {n ne T nl : Nat} {M N M' N' : Mem} (h : IR n ne T nl M N) (hC : CQ M M') (hQ : NQ N N') (hf : ∀ e, e < ne → M' 10 e = 0) (hg : ∀ e, e < 20 → N' 64 e = 0) (hx : N' 56 10 = 0) : IR n ne T nl M' N' := ⟨CN_cfg h.1 hC hQ, fun e he => ⟨hf e, hg e he⟩, hx, ShR_keep h.1.1.2.1 h.2.2.2 (fun c h1 h2 => hC.1 c (by omega) (by omega)) hC.2 hQ.2.2⟩
theorem trial {n ne T : Nat} {x : Int32} {M N : Mem} (hT : T ≤ 40) (a1 : iN n M N) (a2 : iBeh n M N) (a3 : iDel n M N) (a4 : iRum n M N) (hE : ∃ ne', EvS n ne ne' M N) (hx : x = N 56 10) (h65 : N 65 0 = nI T) : ∃ r M' N', fX4_run 34 (nI T) x M = some (r, M') ∧ fX7_isFailing N = some (r, N') ∧ CQ M M' ∧ NQ N N' ∧ M' 10 = M 10 ∧ N' 64 = N 64 ∧ N' 56 10 = N 56 10 ∧ bool01 r := by
  obtain ⟨r, M', N', q1, q2, q3, q4, q5, q6, -⟩ := full_run (b := 34) (k := 1) (Or.inr rfl) (by decide) hT a1 a2 a3 a4 hE hx
  refine ⟨r, M', N', q1, ?_, ⟨fun c h1 _ => q4 c (by omega), q5⟩, ⟨fun c h1 h2 _ => q6.1 c h1 h2, fun i h1 _ => q6.2.1 i h1, q6.km⟩, q4 10 (by decide), q6.1 64 (by decide) (by decide), q6.2.1 10 (by decide), ?_⟩
  · unfold fX7_isFailing
    rw [gd_0 (by decide) (by decide), cl_0, h65]
    have q2' : fX7_run 1 (nI T) N = some N' := q2
    rw [q2']
    simp only [Option.bind_some]
    rw [show (1 : Int32) = nI 1 from rfl, gd_nI (by decide) (by decide), nI_clamp (by decide), q3]
    by_cases c : N' 70 1 < 0
    · rw [if_pos c, if_pos c]
    · rw [if_neg c, if_neg c]; rfl
  · rw [q3]
    by_cases c : N' 70 1 < 0
    · rw [if_pos c]; exact Or.inl rfl
    · rw [if_neg c]; exact Or.inr rfl
theorem trial' {n ne T nl : Nat} {x : Int32} {M0 N0 M N : Mem} (hI : IR n ne T nl M0 N0) (hC : CQ M0 M) (hQ : NQ N0 N) (hf : ∀ e, e < ne → M 10 e = N 64 e) (hx : x = N 56 10) : ∃ r M' N', fX4_run 34 (nI T) x M = some (r, M') ∧ fX7_isFailing N = some (r, N') ∧ CQ M0 M' ∧ NQ N0 N' ∧ M' 10 = M 10 ∧ N' 64 = N 64 ∧ N' 56 10 = N 56 10 ∧ bool01 r := by
  obtain ⟨a1, a2, a3, a4, a5, a6⟩ := CN_cfg hI.1 hC hQ
  obtain ⟨r, M', N', q1, q2, q3, q4, q5, q6, q7, q8⟩ := trial hI.2.2.2.1 a1 a2 a3 a4 ⟨ne, EvS_of a5 a6 hf⟩ hx (by rw [hQ.2.2.1 65 (by decide) (by decide)]; exact hI.2.2.2.2.2.1)
  exact ⟨r, M', N', q1, q2, hC.tr q3, hQ.tr q4, q5, q6, q7, q8⟩
theorem CQ.hi {M M' : Mem} (h : CQ M M') : ∀ c, 56 ≤ c → M' c = M c := fun c hc => h.1 c (Or.inr hc) (by omega)
theorem NQ.lo {N N' : Mem} (h : NQ N N') : ∀ c, c < 56 → N' c = N c := fun c hc => h.1 c (by omega) (by omega) (by omega)
abbrev cMin (v1 : Int32) (s : Int32 × Int32 × Mem) : Option (Int32 × Mem) := loop fu (un3 fun (v6 : Int32) (v7 : Int32) (M8 : Mem) => (if (M8 5 0) ≤ v7 then (some (.inr (v6, M8))) else (if v6 = 0 then (some (.inr (v6, M8))) else (gd v7 20 (nm (st M8 10 (Int32.toNatClampNeg v7) (vp_nar .boolean (1 : Int32))) fun (M12 : Mem) => (fX4_run 34 v1 (0 : Int32) M12).bind (un2 fun (r13 : Int32) (M14 : Mem) => nm (fun (v16 : Int32) => gd v7 20 (nm (st M14 10 (Int32.toNatClampNeg v7) (vp_nar .boolean (0 : Int32))) fun (M18 : Mem) => nm (v7 + (1 : Int32)) fun (v19 : Int32) => some (.inl (v16, v19, M18)))) fun j69 => if r13 = 0 then (j69 (1 : Int32)) else (j69 (0 : Int32)))))) : Option ((Int32 × Int32 × Mem) ⊕ (Int32 × Mem)))) s
abbrev mMin (s : Int32 × Int32 × Mem) : Option (Int32 × Mem) := loop fu (un3 fun (v6 : Int32) (v7 : Int32) (M8 : Mem) => (if (M8 56 4) ≤ v7 then (some (.inr (v6, M8))) else (if v6 = 0 then (some (.inr (v6, M8))) else (gd v7 20 (nm (st M8 64 (Int32.toNatClampNeg v7) (vp_nar .boolean (1 : Int32))) fun (M12 : Mem) => (fX7_isFailing M12).bind (un2 fun (r13 : Int32) (M14 : Mem) => nm (fun (v16 : Int32) => gd v7 20 (nm (st M14 64 (Int32.toNatClampNeg v7) (vp_nar .boolean (0 : Int32))) fun (M18 : Mem) => nm (v7 + (1 : Int32)) fun (v19 : Int32) => some (.inl (v16, v19, M18)))) fun j50 => if r13 = 0 then (j50 (1 : Int32)) else (j50 (0 : Int32)))))) : Option ((Int32 × Int32 × Mem) ⊕ (Int32 × Mem)))) s
theorem min6_eq (M : Mem) : fX6_minimal M = if M 12 8 = 0 then (some ((-4 : Int32), M)) else ((fX4_run 34 (M 12 8) (0 : Int32) M).bind (un2 fun (r3 : Int32) (M4 : Mem) => (cMin (M 12 8) (r3, (0 : Int32), M4)).bind (un2 fun (v21 : Int32) (M22 : Mem) => if v21 = 0 then (some ((0 : Int32), M22)) else (some ((1 : Int32), M22))))) := rfl
theorem min7_eq (M : Mem) : fX7_minimal M = gd (0 : Int32) 2 (if (M 65 (Int32.toNatClampNeg (0 : Int32))) = 0 then (some ((-4 : Int32), M)) else ((fX7_isFailing M).bind (un2 fun (r3 : Int32) (M4 : Mem) => (mMin (r3, (0 : Int32), M4)).bind (un2 fun (v21 : Int32) (M22 : Mem) => if v21 = 0 then (some ((0 : Int32), M22)) else (some ((1 : Int32), M22)))))) := rfl
theorem s_minimal {M : Mem} (h : Inv M) : Both (fX6_minimal M) fX7_minimal := by
  refine both_mk (f := fX6_minimal) h ?_
  intro n ne T nl N hI
  obtain ⟨hcfg, hout, hx, hT, t1, t2, -⟩ := id hI
  have hne : ne ≤ 20 := hcfg.2.2.2.2.1.2.2.1
  by_cases c : nI T = 0
  · refine ⟨-4, M, N, ?_, ?_, fun _ _ => rfl, fun _ _ => rfl, n, ne, T, nl, hI⟩
    · rw [min6_eq, t1, if_pos c]
    · rw [min7_eq, gd_0 (by decide) (by decide), cl_0, t2, if_pos c]
  · obtain ⟨r, M1, N1, q1, q2, q3, q4, q5, q6, q7, q8⟩ := trial' hI CQ.rf NQ.rf (fun e he => by rw [(hout e (by omega)).1 he, (hout e (by omega)).2]) hx.symm
    have key : ∃ b d, cMin (nI T) (r, (0 : Int32), M1) = some b ∧ mMin (r, (0 : Int32), N1) = some d ∧ b.1 = d.1 ∧ CQ M b.2 ∧ NQ N d.2 ∧ (∀ e, e < ne → b.2 10 e = 0) ∧ (∀ e, e < 20 → d.2 64 e = 0) ∧ d.2 56 10 = 0 := by
      refine loop_two_gen (P := fun m (s t : Int32 × Int32 × Mem) => m ≤ ne ∧ s.1 = t.1 ∧ s.2.1 = nI (ne - m) ∧ t.2.1 = nI (ne - m) ∧ CQ M s.2.2 ∧ NQ N t.2.2 ∧ (∀ e, e < ne → s.2.2 10 e = 0) ∧ (∀ e, e < 20 → t.2.2 64 e = 0) ∧ t.2.2 56 10 = 0) (Q := fun (b d : Int32 × Mem) => b.1 = d.1 ∧ CQ M b.2 ∧ NQ N d.2 ∧ (∀ e, e < ne → b.2 10 e = 0) ∧ (∀ e, e < 20 → d.2 64 e = 0) ∧ d.2 56 10 = 0) ?_ ?_ fu ne _ _ (by unfold fu; omega) ⟨Nat.le_refl _, rfl, by rw [Nat.sub_self]; rfl, by rw [Nat.sub_self]; rfl, q3, q4, fun e he => (congrFun q5 e).trans ((hout e (by omega)).1 he), fun e he => (congrFun q6 e).trans (hout e he).2, q7.trans hx⟩
      · rintro m ⟨v, w, M2⟩ ⟨v', w', N2⟩ ⟨p1, p2, p3, p4, p5, p6, p7, p8, p9⟩
        dsimp only at p2 p3 p4 p5 p6 p7 p8 p9
        subst p2; subst p3; subst p4
        obtain ⟨i, hi⟩ : ∃ i, ne - (m + 1) = i := ⟨_, rfl⟩
        rw [hi]
        have hin : i < ne := by omega
        have m5 : M2 5 0 = nI ne := by rw [p5.1 5 (by decide) (by decide)]; exact hcfg.2.2.2.2.1.1
        have n4 : N2 56 4 = nI ne := by rw [p6.2.1 4 (by decide) (by decide)]; exact hcfg.2.2.2.2.1.2.1
        by_cases c0 : v = 0
        · refine Or.inr ⟨(v, M2), (v, N2), ?_, ?_, rfl, p5, p6, p7, p8, p9⟩
          · simp only [un3]; rw [m5, if_neg (nI_ge hin (by omega)), if_pos c0]
          · simp only [un3]; rw [n4, if_neg (nI_ge hin (by omega)), if_pos c0]
        · refine Or.inl ?_
          obtain ⟨r2, M3, N3, e1, e2, e3, e4, e5, e6, e7, e8⟩ := trial' (M := st M2 10 i 1) (N := st N2 64 i 1) hI (p5.tr (CQ_st i 1)) (p6.tr (NQ_st i 1)) (fun e he => by
            by_cases c : e = i
            · subst c; rw [st_cc, st_cc]
            · rw [st_ck _ _ c, st_ck _ _ c, p7 e he, p8 e (by omega)]) (show 0 = _ by rw [st_c _ _ _ (show 56 ≠ 64 by decide)]; exact p9.symm)
          have hg : ∀ {β : Type} (q : Option β), gd (nI i) 20 q = q := fun q => gd_nI (by omega) (by decide)
          refine ⟨((if r2 = 0 then 1 else 0), nI (i + 1), st M3 10 i 0), ((if r2 = 0 then 1 else 0), nI (i + 1), st N3 64 i 0), ?_, ?_, by omega, rfl, ?_, ?_, e3.tr (CQ_st i 0), e4.tr (NQ_st i 0), fun e he => ?_, fun e he => ?_, ?_⟩
          · simp only [un3]
            rw [m5, if_neg (nI_ge hin (by omega)), if_neg c0]
            simp only [hg, nm, nI_clamp (show i < 2 ^ 31 by omega), nar1, nar0]
            rw [e1]
            simp only [Option.bind_some, un2, nI_1]
            by_cases cr : r2 = 0
            · rw [if_pos cr, if_pos cr]
            · rw [if_neg cr, if_neg cr]
          · simp only [un3]
            rw [n4, if_neg (nI_ge hin (by omega)), if_neg c0]
            simp only [hg, nm, nI_clamp (show i < 2 ^ 31 by omega), nar1, nar0]
            rw [e2]
            simp only [Option.bind_some, un2, nI_1]
            by_cases cr : r2 = 0
            · rw [if_pos cr, if_pos cr]
            · rw [if_neg cr, if_neg cr]
          · show nI (i + 1) = nI (ne - m); rw [show i + 1 = ne - m by omega]
          · show nI (i + 1) = nI (ne - m); rw [show i + 1 = ne - m by omega]
          · dsimp only
            by_cases c : e = i
            · subst c; rw [st_cc]
            · rw [st_ck _ _ c, e5, st_ck _ _ c]; exact p7 e he
          · dsimp only
            by_cases c : e = i
            · subst c; rw [st_cc]
            · rw [st_ck _ _ c, e6, st_ck _ _ c]; exact p8 e he
          · dsimp only
            rw [st_c _ _ _ (show 56 ≠ 64 by decide), e7, st_c _ _ _ (show 56 ≠ 64 by decide)]; exact p9
      · rintro ⟨v, w, M2⟩ ⟨v', w', N2⟩ ⟨p1, p2, p3, p4, p5, p6, p7, p8, p9⟩
        dsimp only at p2 p3 p4 p5 p6 p7 p8 p9
        subst p2; subst p3; subst p4
        have m5 : M2 5 0 = nI ne := by rw [p5.1 5 (by decide) (by decide)]; exact hcfg.2.2.2.2.1.1
        have n4 : N2 56 4 = nI ne := by rw [p6.2.1 4 (by decide) (by decide)]; exact hcfg.2.2.2.2.1.2.1
        refine ⟨(v, M2), (v, N2), ?_, ?_, rfl, p5, p6, p7, p8, p9⟩
        · simp only [un3]; rw [m5, if_pos (nI_le (by omega) (by omega))]
        · simp only [un3]; rw [n4, if_pos (nI_le (by omega) (by omega))]
    obtain ⟨⟨v, M2⟩, ⟨v', N2⟩, k1, k2, k3, k4, k5, k6, k7, k8⟩ := key
    dsimp only at k3 k4 k5 k6 k7 k8
    subst k3
    refine ⟨(if v = 0 then 0 else 1), M2, N2, ?_, ?_, k4.hi, k5.lo, n, ne, T, nl, IR_end hI k4 k5 k6 k7 k8⟩
    · rw [min6_eq, t1, if_neg c, q1]
      simp only [Option.bind_some, un2]
      have k1' : cMin (nI T) (r, 0, M1) = some (v, M2) := k1
      rw [k1']
      simp only [Option.bind_some, un2]
      by_cases cv : v = 0
      · rw [if_pos cv, if_pos cv]
      · rw [if_neg cv, if_neg cv]
    · rw [min7_eq, gd_0 (by decide) (by decide), cl_0, t2, if_neg c, q2]
      simp only [Option.bind_some, un2]
      have k2' : mMin (r, 0, N1) = some (v, N2) := k2
      rw [k2']
      simp only [Option.bind_some, un2]
      by_cases cv : v = 0
      · rw [if_pos cv, if_pos cv]
      · rw [if_neg cv, if_neg cv]
