abbrev cSh (v1 : Int32) (s : Int32 × Mem) : Option Mem := loop fu (un2 fun (v8 : Int32) (M9 : Mem) => (if v8 < 0 then (some (.inr M9)) else (gd v8 20 (nm (st M9 10 (Int32.toNatClampNeg v8) (vp_nar .boolean (1 : Int32))) fun (M12 : Mem) => (fX4_run 34 v1 (0 : Int32) M12).bind (un2 fun (r13 : Int32) (M14 : Mem) => gd v8 20 (nm (st M14 10 (Int32.toNatClampNeg v8) (vp_nar .boolean r13)) fun (M17 : Mem) => nm (v8 + (-1 : Int32)) fun (v18 : Int32) => some (.inl (v18, M17)))))) : Option ((Int32 × Mem) ⊕ (Mem)))) s
abbrev mSh (s : Int32 × Mem) : Option Mem := loop fu (un2 fun (v8 : Int32) (M9 : Mem) => (if v8 < 0 then (some (.inr M9)) else (gd v8 20 (nm (st M9 64 (Int32.toNatClampNeg v8) (vp_nar .boolean (1 : Int32))) fun (M12 : Mem) => (fX7_isFailing M12).bind (un2 fun (r13 : Int32) (M14 : Mem) => gd v8 20 (nm (st M14 64 (Int32.toNatClampNeg v8) (vp_nar .boolean (0 : Int32))) fun (M17 : Mem) => nm (fun (M18 : Mem) => nm (v8 + (-1 : Int32)) fun (v19 : Int32) => some (.inl (v19, M18))) fun j58 => if r13 = 0 then (j58 M17) else ((fX7_remove v8 M17).bind (fun (M21 : Mem) => j58 M21)))))) : Option ((Int32 × Mem) ⊕ (Mem)))) s
theorem shrink6_eq (M : Mem) : fX6_shrink M = if M 12 8 = 0 then (some ((-4 : Int32), M)) else ((fX4_run 34 (M 12 8) (0 : Int32) M).bind (un2 fun (r3 : Int32) (M4 : Mem) => if r3 = 0 then (some ((-4 : Int32), M4)) else ((cSh (M 12 8) (((M4 5 0) - (1 : Int32)), M4)).bind (un1 fun (M19 : Mem) => (fX5_removeLeftOut M19).bind (fun (M20 : Mem) => (fX4_run 12 (M 12 8) (0 : Int32) M20).bind (un2 fun (r22 : Int32) (M23 : Mem) => some ((M23 5 0), M23))))))) := rfl
theorem shrink7_eq (M : Mem) : fX7_shrink M = gd (0 : Int32) 2 (if (M 65 (Int32.toNatClampNeg (0 : Int32))) = 0 then (some ((-4 : Int32), M)) else ((fX7_isFailing M).bind (un2 fun (r3 : Int32) (M4 : Mem) => if r3 = 0 then (some ((-4 : Int32), M4)) else ((mSh (((M4 56 4) - (1 : Int32)), M4)).bind (un1 fun (M23 : Mem) => gd (0 : Int32) 2 ((fX7_run (0 : Int32) (M23 65 (Int32.toNatClampNeg (0 : Int32))) M23).bind (fun (M25 : Mem) => some ((M25 56 4), M25)))))))) := rfl
theorem sh_loop {n ne T nl : Nat} {M N M1 N1 : Mem} (hI : IR n ne T nl M N) (h : SK n ne ne M N M1 N1) : ∃ M' N', cSh (nI T) (nI ne + -1, M1) = some M' ∧ mSh (nI ne + -1, N1) = some N' ∧ SK n ne 0 M N M' N' := by
  have hne : ne ≤ 20 := hI.1.2.2.2.2.1.2.2.1
  refine loop_two_gen (P := fun m (s t : Int32 × Mem) => s.1 = nI m + -1 ∧ t.1 = nI m + -1 ∧ SK n ne m M N s.2 t.2) (Q := fun M' N' => SK n ne 0 M N M' N') ?_ ?_ fu ne _ _ (by unfold fu; omega) ⟨rfl, rfl, h⟩
  · rintro m ⟨v, M2⟩ ⟨w, N2⟩ ⟨hv, hw, hS⟩
    have hv' : v = nI (m + 1) + -1 := hv
    have hw' : w = nI (m + 1) + -1 := hw
    rw [nI_m1] at hv' hw'
    subst hv'; subst hw'
    dsimp only at hS
    have hm := hS.2.2.1
    obtain ⟨r, M3, N3, N4, q1, q2, q3, q4, q5⟩ := sk_step hI hS
    refine Or.inl ⟨(nI m + -1, st M3 10 m r), (nI m + -1, N4), ?_, ?_, rfl, rfl, q5⟩
    · simp only [un2]
      rw [if_neg (nI_pos (show m < 2 ^ 31 by omega)), gd_nI (show m < 20 by omega) (by decide), nI_clamp (show m < 2 ^ 31 by omega)]
      simp only [nm, nar1]
      rw [q1]
      simp only [Option.bind_some, un2]
      rw [gd_nI (show m < 20 by omega) (by decide), nar01 q3]
    · simp only [un2]
      rw [if_neg (nI_pos (show m < 2 ^ 31 by omega)), gd_nI (show m < 20 by omega) (by decide), nI_clamp (show m < 2 ^ 31 by omega)]
      simp only [nm, nar1]
      rw [q2]
      simp only [Option.bind_some, un2]
      rw [gd_nI (show m < 20 by omega) (by decide), nar0]
      rcases q4 with ⟨c, rfl⟩ | ⟨c, q4⟩
      · rw [if_pos c]
      · rw [if_neg c, q4]; rfl
  · rintro ⟨v, M2⟩ ⟨w, N2⟩ ⟨hv, hw, hS⟩
    have hv' : v = nI 0 + -1 := hv
    have hw' : w = nI 0 + -1 := hw
    subst hv'; subst hw'
    refine ⟨M2, N2, ?_, ?_, hS⟩ <;> · simp only [un2]; rw [if_pos (show nI 0 + -1 < 0 by decide)]
theorem s_shrink {M : Mem} (h : Inv M) : Both (fX6_shrink M) fX7_shrink := by
  refine both_mk (f := fX6_shrink) h ?_
  intro n ne T nl N hI
  obtain ⟨⟨a1, a2, a3, a4, a5, a6⟩, hout, hx, hT, t1, t2, -, -, hs12, hs34⟩ := id hI
  obtain ⟨v1, v2, v3, v4⟩ := id a5
  by_cases c : nI T = 0
  · refine ⟨-4, M, N, ?_, ?_, fun _ _ => rfl, fun _ _ => rfl, n, ne, T, nl, hI⟩
    · rw [shrink6_eq, t1, if_pos c]
    · rw [shrink7_eq, gd_0 (by decide) (by decide), cl_0, t2, if_pos c]
  · obtain ⟨r, M1, N1, q1, q2, q3, q4, q5, q6, q7, q8⟩ := trial' hI CQ.rf NQ.rf (fun e he => by rw [(hout e (by omega)).1 he, (hout e (by omega)).2]) hx.symm
    by_cases cr : r = 0
    · refine ⟨-4, M1, N1, ?_, ?_, q3.hi, q4.lo, n, ne, T, nl, IR_end hI q3 q4 (fun e he => by rw [q5]; exact (hout e (by omega)).1 he) (fun e he => by rw [q6]; exact (hout e he).2) (by rw [q7]; exact hx)⟩
      · rw [shrink6_eq, t1, if_neg c, q1]
        simp only [Option.bind_some, un2]
        rw [if_pos cr]
      · rw [shrink7_eq, gd_0 (by decide) (by decide), cl_0, t2, if_neg c, q2]
        simp only [Option.bind_some, un2]
        rw [if_pos cr]
    · have m5 : M1 5 0 = nI ne := by rw [q3.1 5 (by decide) (by decide)]; exact v1
      have n4 : N1 56 4 = nI ne := by rw [q4.2.1 4 (by decide) (by decide)]; exact v2
      have hSK : SK n ne ne M N M1 N1 := by
        refine ⟨q3, ⟨fun c c1 c2 => q4.1 c (by omega) c2 (by omega), fun i i1 i2 => ?_, q4.2.2⟩, Nat.le_refl _, fun e he => ?_, fun e he => by rw [q6]; exact (hout e he).2, fun e he => by rw [q5]; exact Or.inl ((hout e (by omega)).1 he), ne, n4, Nat.le_refl _, Sub.nil⟩
        · by_cases c10 : i = 10
          · subst c10; exact q7
          · exact q4.2.1 i i1 c10
        · obtain ⟨w1, w2, w3, w4, -⟩ := v4 e he
          unfold evm
          rw [q3.1 6 (by decide) (by decide), q3.1 7 (by decide) (by decide), q3.1 8 (by decide) (by decide), q3.1 9 (by decide) (by decide), q5, q4.1 60 (by decide) (by decide) (by decide), q4.1 61 (by decide) (by decide) (by decide), q4.1 62 (by decide) (by decide) (by decide), q4.1 63 (by decide) (by decide) (by decide), q6, (hout e (by omega)).1 he, (hout e (by omega)).2]
          exact ⟨w1, w2, w3, w4, rfl⟩
      obtain ⟨A, B, l1, l2, l3⟩ := sh_loop hI hSK
      obtain ⟨hC, hK, -, -, hz, hb, ne', h4, hle, hsub⟩ := l3
      have hA : ∀ c, c < 12 → c ≠ 10 → A c = M c := fun c c1 c2 => hC.1 c (by omega) c2
      obtain ⟨R, r1, r2, r3, r4, r5⟩ := p_rlo (n := n) (by rw [hA 5 (by decide) (by decide)]; exact v1) v3 (fun e he => by rw [hA 6 (by decide) (by decide), hA 7 (by decide) (by decide), hA 8 (by decide) (by decide), hA 9 (by decide) (by decide)]; exact (v4 e he).2.2.2.2) (iNam_congr a6 (hA 6 (by decide) (by decide)) (hA 8 (by decide) (by decide)) (hA 11 (by decide) (by decide))) hb hz hle hsub
      have hR : ∀ c, c < 5 ∨ 12 ≤ c ∧ c < 34 ∨ 56 ≤ c → R c = M c := fun c hc => by rw [r3 c (by omega), hC.1 c (by omega) (by omega)]
      have hcfg : Cfg n ne' R B := ⟨iN_congr a1 (hR 1 (by decide)) (hK.2.1 0 (by decide) (by decide)), iBeh_congr a2 (hR 2 (by decide)) (hK.1 57 (by decide) (by decide)), iDel_congr a3 (hR 3 (by decide)) (hK.1 58 (by decide) (by decide)), iRum_congr a4 (hR 4 (by decide)) (hK.1 59 (by decide) (by decide)), ⟨r2, h4, by omega, fun e he => ⟨(r4 e he).1.1, (r4 e he).1.2.1, (r4 e he).1.2.2.1, (r4 e he).1.2.2.2.1, (r4 e he).2⟩⟩, r5⟩
      have hxB : B 56 10 = 0 := by rw [hK.2.1 10 (by decide) (by decide)]; exact hx
      have h65 : B 65 0 = nI T := by rw [hK.2.2.1 65 (by decide) (by decide)]; exact t2
      obtain ⟨b1', b2, b3, b4, b5, b6⟩ := id hcfg
      obtain ⟨g, M', N', f1, f2, -, f4, f5, f6, f7⟩ := full_run (b := 12) (k := 0) (T := T) (x := 0) (ne := ne') (Or.inl rfl) (by decide) hT b1' b2 b3 b4 ⟨ne', EvS_of b5 b6 (fun e he => (r4 e he).1.2.2.2.2)⟩ hxB.symm
      have hR12 : R 12 2 = 0 := by rw [hR 12 (by decide)]; exact hs12
      obtain ⟨nl', p1, p2, p3, p4, p5, p6⟩ := f7 hR12
      have m12 : ∀ c, c < 12 → M' c = R c := fun c hc => f4 c (by omega)
      have hcfg' : Cfg n ne' M' N' := Cfg_congr hcfg (fun c hc _ => m12 c hc) (fun c c1 c2 => f6.1 c (by omega) (by omega)) (f6.2.1 0 (by decide)) (f6.2.1 4 (by decide))
      refine ⟨nI ne', M', N', ?_, ?_, fun c hc => by rw [f4 c (by omega)]; exact hR c (by omega), fun c hc => by rw [f6.1 c (by omega) (by omega)]; exact hK.1 c (by omega) (by omega), n, ne', T, nl', hcfg', fun e he => ⟨fun he2 => ?_, ?_⟩, ?_, hT, p1, p2, p3, fun _ => ⟨p4, fun a ha => ?_⟩, by rw [f5]; exact hR12, ?_⟩
      · rw [shrink6_eq, t1, if_neg c, q1]
        simp only [Option.bind_some, un2]
        rw [if_neg cr, m5, mone]
        have l1' : cSh (nI T) (nI ne + -1, M1) = some A := l1
        rw [l1']
        simp only [Option.bind_some, un1]
        rw [r1]
        simp only [Option.bind_some]
        rw [f1]
        simp only [Option.bind_some, un2]
        rw [m12 5 (by decide), r2]
      · rw [shrink7_eq, gd_0 (by decide) (by decide), cl_0, t2, if_neg c, q2]
        simp only [Option.bind_some, un2]
        rw [if_neg cr, n4, mone]
        have l2' : mSh (nI ne + -1, N1) = some B := l2
        rw [l2']
        simp only [Option.bind_some, un1]
        rw [gd_0 (by decide) (by decide), h65]
        have f2' : fX7_run 0 (nI T) B = some N' := f2
        rw [f2']
        simp only [Option.bind_some]
        rw [f6.2.1 4 (by decide), h4]
      · rw [m12 10 (by decide), (r4 e he2).1.2.2.2.2]; exact hz e he
      · rw [f6.1 64 (by decide) (by decide)]; exact hz e he
      · rw [f6.2.1 10 (by decide)]; exact hxB
      · have := p5 a ha
        simp only [Nat.mul_zero, Nat.zero_add] at this
        exact this
      · rw [f4 34 (by decide), r3 34 (by decide), hC.2]; exact hs34
