/-! ===== a turn ===== -/
def CF (b n ne : Nat) (M N : Mem) : Prop := iN n M N ∧ iBeh n M N ∧ iDel n M N ∧ iRum n M N ∧ (∃ ne', EvS n ne ne' M N) ∧ M b 12 = N 56 10
theorem CF_congr {b n ne : Nat} {M N M' N' : Mem} (h : CF b n ne M N) (hm : ∀ c, c < 12 → M' c = M c) (hb' : M' b 12 = M b 12) (hn : ∀ c, 57 ≤ c → c ≤ 64 → N' c = N c) (h0 : N' 56 0 = N 56 0) (h4 : N' 56 4 = N 56 4) (h10 : N' 56 10 = N 56 10) : CF b n ne M' N' := by
  obtain ⟨a1, a2, a3, a4, ⟨ne', a5⟩, a8⟩ := h
  exact ⟨iN_congr a1 (hm 1 (by decide)) h0, iBeh_congr a2 (hm 2 (by decide)) (hn 57 (by decide) (by decide)), iDel_congr a3 (hm 3 (by decide)) (hn 58 (by decide) (by decide)), iRum_congr a4 (hm 4 (by decide)) (hn 59 (by decide) (by decide)), ⟨ne', EvS_congr a5 hm (fun c h1 h2 => hn c (by omega) h2) h4⟩, by rw [hb', h10]; exact a8⟩
theorem CF.cfg2 {b n ne : Nat} {M N : Mem} (h : CF b n ne M N) : Cfg2 b n ne M N := by
  obtain ⟨a1, a2, a3, a4, a5, a8⟩ := h
  exact ⟨a1, a2, a3, a5, a8⟩
theorem SR_ns {b k n ne nl : Nat} {M N M' N' : Mem} (h : SR b k n ne nl M N) (hns : NS b n M' N') (e1 : ∀ c, b + 1 ≤ c → c ≤ b + 5 → M' c = M c) (e2 : ∀ c, b + 12 ≤ c → c ≤ b + 19 → M' c = M c) (e3 : M' b 10 = M b 10) (e4 : M' b 11 = M b 11) (e5 : ∀ c, c < 12 → M' c = M c) (f1 : ∀ c, 66 ≤ c → c ≤ 69 → N' c k = N c k) (f2 : ∀ c, 74 ≤ c → c ≤ 81 → N' c = N c) : SR b k n ne nl M' N' := by
  obtain ⟨⟨-, p2, p3, p4, p5, p6, p7, p8⟩, hnl, sz, cm, dd, ⟨g1, g2, g3⟩, hsz⟩ := h
  refine ⟨⟨hns, ?_, ?_, ?_, ?_, ?_, ?_, ?_⟩, hnl, sz, cm, dd, ⟨CL_congr g1 (e1 _ (by omega) (by omega)) (e1 _ (by omega) (by omega)) (e1 _ (by omega) (by omega)) (e1 _ (by omega) (by omega)) (e1 _ (by omega) (by omega)), ?_, ?_⟩, ?_⟩
  · unfold iLet at *
    rw [e2 _ (by omega) (by omega), e2 _ (by omega) (by omega), e2 _ (by omega) (by omega), e2 _ (by omega) (by omega), e2 _ (by omega) (by omega), e2 _ (by omega) (by omega), e2 _ (by omega) (by omega), f2 74 (by decide) (by decide), f2 75 (by decide) (by decide), f2 76 (by decide) (by decide), f2 77 (by decide) (by decide), f2 78 (by decide) (by decide), f2 79 (by decide) (by decide), f2 80 (by decide) (by decide)]
    exact p2
  · rw [e2 _ (by omega) (by omega), e2 _ (by omega) (by omega)]; exact p3
  · rw [e2 _ (by omega) (by omega)]; exact p4
  · rw [f1 66 (by decide) (by decide)]; exact p5
  · rw [e2 _ (by omega) (by omega), f1 67 (by decide) (by decide)]; exact p6
  · rw [e3, f1 68 (by decide) (by decide)]; exact p7
  · rw [e4, f1 69 (by decide) (by decide)]; exact p8
  · rw [f2 79 (by decide) (by decide)]; exact g2
  · rw [f2 81 (by decide) (by decide)]; exact g3
  · rw [e5l_congr (e5 6 (by decide)) (e5 8 (by decide)) (e5 10 (by decide))]; exact hsz
def TR (b k n ne T t : Nat) (M N : Mem) : Prop := CF b n ne M N ∧ (∃ nl, nl ≤ 30 * t ∧ SR b k n ne nl M N) ∧ M b 8 = nI T ∧ M b 9 = N 70 k ∧ failv (M b 9) ∧ (∀ u a, u < t → a < n → M (b + 20) (6 * u + a) = N 71 (420 * k + (7 * u + a))) ∧ ∀ u, u < t → M (b + 21) u = N 72 (60 * k + u)
def RnC (b : Nat) (M M' : Mem) : Prop := (∀ c, c < b ∨ b + 22 ≤ c → M' c = M c) ∧ M' b 2 = M b 2 ∧ M' b 8 = M b 8 ∧ M' b 12 = M b 12
def RnM (k : Nat) (N N' : Mem) : Prop := (∀ c, c < 65 → c ≠ 56 → N' c = N c) ∧ (∀ i, i ≠ 33 → N' 56 i = N 56 i) ∧ (∀ c, 65 ≤ c → c ≤ 70 → ∀ i, i ≠ k → N' c i = N c i) ∧ N' 65 = N 65 ∧ (∀ i, (i < 420 * k ∨ 420 * k + 420 ≤ i) → N' 71 i = N 71 i) ∧ (∀ i, (i < 60 * k ∨ 60 * k + 60 ≤ i) → N' 72 i = N 72 i) ∧ N' 73 = N 73 ∧ ∀ c, 74 ≤ c → c ≤ 80 → ∀ i, (i < 1200 * k ∨ 1200 * k + 1200 ≤ i) → N' c i = N c i
theorem RnC.tr {b : Nat} {M M1 M2 : Mem} (h1 : RnC b M M1) (h2 : RnC b M1 M2) : RnC b M M2 := ⟨fun c hc => (h2.1 c hc).trans (h1.1 c hc), h2.2.1.trans h1.2.1, h2.2.2.1.trans h1.2.2.1, h2.2.2.2.trans h1.2.2.2⟩
theorem RnM.tr {k : Nat} {N N1 N2 : Mem} (h1 : RnM k N N1) (h2 : RnM k N1 N2) : RnM k N N2 := by
  obtain ⟨a1, a2, a3, a4, a5, a6, a7, a8⟩ := h1
  obtain ⟨b1', b2, b3, b4, b5, b6, b7, b8⟩ := h2
  exact ⟨fun c hc h => (b1' c hc h).trans (a1 c hc h), fun i hi => (b2 i hi).trans (a2 i hi), fun c hc h i hi => (b3 c hc h i hi).trans (a3 c hc h i hi), b4.trans a4, fun i hi => (b5 i hi).trans (a5 i hi), fun i hi => (b6 i hi).trans (a6 i hi), b7.trans a7, fun c hc h i hi => (b8 c hc h i hi).trans (a8 c hc h i hi)⟩
theorem RnM.rf {k : Nat} {N : Mem} : RnM k N N := ⟨fun _ _ _ => rfl, fun _ _ => rfl, fun _ _ _ _ _ => rfl, rfl, fun _ _ => rfl, fun _ _ => rfl, rfl, fun _ _ _ _ _ => rfl⟩
theorem RnC.rf {b : Nat} {M : Mem} : RnC b M M := ⟨fun _ _ => rfl, rfl, rfl, rfl⟩
abbrev cTurn (b : Nat) (v3 : Int32) (M4 : Mem) : Option Mem := (fX4_meetEvents b v3 M4).bind (fun (M6 : Mem) => (fX4_takeInComings b v3 M6).bind (fun (M8 : Mem) => (fX3_grow b M8).bind (fun (M10 : Mem) => (fX4_sendLetters b v3 M10).bind (fun (M12 : Mem) => fX4_keepRecord b v3 M12))))
abbrev mTurn (x1 v33 : Int32) (M34 : Mem) : Option ((Int32 × Mem) ⊕ (Mem)) := (fX7_happen v33 M34).bind (fun (M36 : Mem) => (fX7_takeIn x1 v33 M36).bind (fun (M38 : Mem) => (fX7_grow M38).bind (fun (M40 : Mem) => (mLet x1 v33 M40).bind (un1 fun (M69 : Mem) => mEnd x1 v33 M69))))
theorem turn_sim {b k n ne T t : Nat} {M N : Mem} (hb : b = 12 ∨ b = 34) (hk : k < 2) (ht : t < 40) (h : TR b k n ne T t M N) : ∃ M' N', cTurn b (nI t) M = some M' ∧ mTurn (nI k) (nI t) N = some (.inl (nI (t + 1), N')) ∧ TR b k n ne T (t + 1) M' N' ∧ RnC b M M' ∧ RnM k N N' ∧ (¬ M b 9 = -1 → M' b 9 = M b 9) := by
  obtain ⟨hcf, ⟨nl, hnl, hS⟩, hT, hf1, hf2, hh, hhd⟩ := h
  obtain ⟨hN, hB, hD, hR, ⟨ne', hE⟩, hA⟩ := id hcf
  have hn6 := hN.2.1
  have hne20 := hE.2.1
  -- 1
  obtain ⟨M1, N1, a1, a2, a3, a4, a5⟩ := meet_sim hb ht hN hE hS.1.1
  have S1 : SR b k n ne nl M1 N1 := SR_ns hS a3 (fun c h1 h2 => a4 c (by omega) (by omega) (by omega)) (fun c h1 h2 => a4 c (by omega) (by omega) (by omega)) (by rw [a4 b (by omega) (by omega) (by omega)]) (by rw [a4 b (by omega) (by omega) (by omega)]) (fun c hc => a4 c (by omega) (by omega) (by omega)) (fun c h1 h2 => by rw [a5.1 c (by omega) (by omega) (by omega)]) (fun c h1 h2 => a5.1 c (by omega) (by omega) (by omega))
  have C1 : CF b n ne M1 N1 := CF_congr hcf (fun c hc => a4 c (by omega) (by omega) (by omega)) (by rw [a4 b (by omega) (by omega) (by omega)]) (fun c h1 h2 => a5.1 c (by omega) (by omega) (by omega)) (a5.2 0 (by decide)) (a5.2 4 (by decide)) (a5.2 10 (by decide))
  -- 2
  obtain ⟨P1, hnl1, sz, cm, dd, hcrl, hsz⟩ := id S1
  obtain ⟨own, lt, hcr⟩ := hcrl.cr
  have hsz2 : sz ≤ 1220 := by have := cnt_le (p := e5l M1 nl) ne; omega
  obtain ⟨M2, N2, b1', b2, b3, b4, b5⟩ := take_sim hn6 hk hnl1 hsz2 ht P1 hcr
  have S2 : SR b k n ne nl M2 N2 := ⟨b3, hnl1, sz, cm, dd, ⟨CL_congr hcrl.1 (b4.1 _ (by omega) (by omega) (by omega) (by omega)) (b4.1 _ (by omega) (by omega) (by omega) (by omega)) (b4.1 _ (by omega) (by omega) (by omega) (by omega)) (b4.1 _ (by omega) (by omega) (by omega) (by omega)) (b4.1 _ (by omega) (by omega) (by omega) (by omega)), by rw [b5.1 79 (by decide) (by decide) (by decide) (by decide) (by decide)]; exact hcrl.2.1, by rw [b5.1 81 (by decide) (by decide) (by decide) (by decide) (by decide)]; exact hcrl.2.2⟩, by rw [e5l_congr (b4.1 6 (by omega) (by omega) (by omega) (by omega)) (b4.1 8 (by omega) (by omega) (by omega) (by omega)) (b4.1 10 (by omega) (by omega) (by omega) (by omega))]; exact hsz⟩
  have C2 : CF b n ne M2 N2 := CF_congr C1 (fun c hc => b4.1 c (by omega) (by omega) (by omega) (by omega)) (b4.2 12 (by decide) (by decide)) (fun c h1 h2 => b5.1 c (by omega) (by omega) (by omega) (by omega) (by omega)) (by rw [b5.1 56 (by decide) (by decide) (by decide) (by decide) (by decide)]) (by rw [b5.1 56 (by decide) (by decide) (by decide) (by decide) (by decide)]) (by rw [b5.1 56 (by decide) (by decide) (by decide) (by decide) (by decide)])
  -- 3
  obtain ⟨M3, N3, c1, c2, c3, c4, c5, c6⟩ := grow_sim hb C2.1 S2.1.1
  have S3 : SR b k n ne nl M3 N3 := SR_ns S2 c3 (fun c h1 h2 => c5 c (by omega) (by omega)) (fun c h1 h2 => c5 c (by omega) (by omega)) (by rw [c5 b (by omega) (by omega)]) (by rw [c5 b (by omega) (by omega)]) (fun c hc => c5 c (by omega) (by omega)) (fun c h1 h2 => by rw [c6 c (by omega) (by omega)]) (fun c h1 h2 => c6 c (by omega) (by omega))
  have C3 : CF b n ne M3 N3 := CF_congr C2 (fun c hc => c5 c (by omega) (by omega)) (by rw [c5 b (by omega) (by omega)]) (fun c h1 h2 => c6 c (by omega) (by omega)) (by rw [c6 56 (by decide) (by decide)]) (by rw [c6 56 (by decide) (by decide)]) (by rw [c6 56 (by decide) (by decide)])
  -- 4
  obtain ⟨M4, N4, d1, d2, ⟨nl4, d3, S4⟩, d5, d6, d7⟩ := letters_sim hb hk ht hnl C3.cfg2 c4 S3
  have C4 : CF b n ne M4 N4 := CF_congr C3 (fun c hc => d5 c (by omega) (by omega)) (by rw [d5 b (by omega) (by omega)]) (fun c h1 h2 => d6.1 c (by omega) (by omega) (by omega) (by omega)) (by rw [d6.1 56 (by decide) (by decide) (by decide) (by decide)]) (by rw [d6.1 56 (by decide) (by decide) (by decide) (by decide)]) (by rw [d6.1 56 (by decide) (by decide) (by decide) (by decide)])
  have m4b : ∀ i, i ≠ 10 → i ≠ 11 → M4 b i = M b i := fun i i1 i2 => by rw [d5 b (by omega) (by omega), c5 b (by omega) (by omega), b4.2 i i1 i2, a4 b (by omega) (by omega) (by omega)]
  have n4 : ∀ c, c = 65 ∨ c = 70 ∨ c = 72 ∨ c = 73 → N4 c = N c := fun c hc => by rw [d6.1 c (by omega) (by omega) (by omega) (by omega), c6 c (by omega) (by omega), b5.1 c (by omega) (by omega) (by omega) (by omega) (by omega), a5.1 c (by omega) (by omega) (by omega)]
  have n71 : N3 71 = N 71 := by rw [c6 71 (by decide) (by decide), b5.1 71 (by decide) (by decide) (by decide) (by decide) (by decide), a5.1 71 (by decide) (by decide) (by decide)]
  -- 5
  obtain ⟨M5, N5, r1, r2, r3, r4, r5, r6, r7, r8, r9, r10, r10', r11, r12, r13⟩ := rec_sim hb hk ht C4.1 C4.2.1 S4.1.1 (by rw [m4b 9 (by decide) (by decide), n4 70 (by decide)]; exact hf1) (by rw [m4b 9 (by decide) (by decide)]; exact hf2)
  have S5 : SR b k n ne nl4 M5 N5 := SR_ns S4 (NS_congr S4.1.1 (r3 _ (by omega) (by omega) (by omega)) (r3 _ (by omega) (by omega) (by omega)) (r3 _ (by omega) (by omega) (by omega)) (r3 _ (by omega) (by omega) (by omega)) (r3 _ (by omega) (by omega) (by omega)) (r11 82 (by decide) (by decide)) (r11 83 (by decide) (by decide)) (r11 85 (by decide) (by decide)) (r11 84 (by decide) (by decide)) (by rw [r11 56 (by decide) (by decide)])) (fun c h1 h2 => r3 c (by omega) (by omega) (by omega)) (fun c h1 h2 => r3 c (by omega) (by omega) (by omega)) (r4 10 (by decide)) (r4 11 (by decide)) (fun c hc => r3 c (by omega) (by omega) (by omega)) (fun c h1 h2 => by rw [r11 c (by omega) (by omega)]) (fun c h1 h2 => r11 c (by omega) (by omega))
  have C5 : CF b n ne M5 N5 := CF_congr C4 (fun c hc => r3 c (by omega) (by omega) (by omega)) (r4 12 (by decide)) (fun c h1 h2 => r11 c (by omega) (by omega)) (by rw [r11 56 (by decide) (by decide)]) (by rw [r11 56 (by decide) (by decide)]) (by rw [r11 56 (by decide) (by decide)])
  have m20 : M4 (b + 20) = M (b + 20) := by rw [d5 _ (by omega) (by omega), c5 _ (by omega) (by omega), b4.1 _ (by omega) (by omega) (by omega) (by omega), a4 _ (by omega) (by omega) (by omega)]
  have m21 : M4 (b + 21) = M (b + 21) := by rw [d5 _ (by omega) (by omega), c5 _ (by omega) (by omega), b4.1 _ (by omega) (by omega) (by omega) (by omega), a4 _ (by omega) (by omega) (by omega)]
  refine ⟨M5, N5, ?_, ?_, ⟨C5, ⟨nl4, d3, S5⟩, by rw [r4 8 (by decide), m4b 8 (by decide) (by decide)]; exact hT, r9, r10, fun u a hu ha => ?_, fun u hu => ?_⟩, ⟨fun c hc => ?_, by rw [r4 2 (by decide), m4b 2 (by decide) (by decide)], by rw [r4 8 (by decide), m4b 8 (by decide) (by decide)], by rw [r4 12 (by decide), m4b 12 (by decide) (by decide)]⟩, ⟨fun c h1 h2 => ?_, fun i hi => ?_, fun c h1 h2 i hi => ?_, ?_, fun i hi => ?_, fun i hi => ?_, ?_, fun c h1 h2 i hi => ?_⟩, fun hh => ?_⟩
  · show (fX4_meetEvents b (nI t) M).bind _ = _
    rw [a1]; simp only [Option.bind_some]
    rw [b1']; simp only [Option.bind_some]
    rw [c1]; simp only [Option.bind_some]
    rw [d1]; simp only [Option.bind_some]
    exact r1
  · show (fX7_happen (nI t) N).bind _ = _
    rw [a2]; simp only [Option.bind_some]
    rw [b2]; simp only [Option.bind_some]
    rw [c2]; simp only [Option.bind_some]
    have d2' : mLet (nI k) (nI t) N3 = some N4 := d2
    rw [d2']; simp only [Option.bind_some, un1]
    exact r2
  · rcases Nat.lt_or_ge u t with h1 | h1
    · rw [r5 _ (by omega), m20, r11 71 (by decide) (by decide), d6.2.2.2.2 _ (by omega), n71]; exact hh u a h1 ha
    · have hut : u = t := by omega
      subst hut
      rw [r6 a ha, r11 71 (by decide) (by decide), show 420 * k + (7 * u + a) = 420 * k + 7 * u + a by omega, d7 a ha, d5 _ (by omega) (by omega)]
      exact c3.1 a ha
  · rcases Nat.lt_or_ge u t with h1 | h1
    · rw [r7 u (by omega), m21, r13 _ (by omega), n4 72 (by decide)]; exact hhd u h1
    · have hut : u = t := by omega
      subst hut
      exact r8
  · rw [r3 c (by omega) (by omega) (by omega), d5 c (by omega) (by omega), c5 c (by omega) (by omega), b4.1 c (by omega) (by omega) (by omega) (by omega), a4 c (by omega) (by omega) (by omega)]
  · rw [r11 c (by omega) (by omega), d6.1 c (by omega) (by omega) (by omega) (by omega), c6 c (by omega) (by omega), b5.1 c (by omega) (by omega) (by omega) (by omega) (by omega), a5.1 c (by omega) (by omega) (by omega)]
  · rw [r11 56 (by decide) (by decide), d6.1 56 (by decide) (by decide) (by decide) (by decide), c6 56 (by decide) (by decide), b5.1 56 (by decide) (by decide) (by decide) (by decide) (by decide)]; exact a5.2 i hi
  · rcases (show c = 65 ∨ c = 66 ∨ c = 67 ∨ c = 68 ∨ c = 69 ∨ c = 70 by omega) with rfl | rfl | rfl | rfl | rfl | rfl
    · rw [r11 65 (by decide) (by decide), n4 65 (by decide)]
    · rw [r11 66 (by decide) (by decide), (d6.2.1 i hi).1, c6 66 (by decide) (by decide), b5.1 66 (by decide) (by decide) (by decide) (by decide) (by decide), a5.1 66 (by decide) (by decide) (by decide)]
    · rw [r11 67 (by decide) (by decide), (d6.2.1 i hi).2, c6 67 (by decide) (by decide), b5.1 67 (by decide) (by decide) (by decide) (by decide) (by decide), a5.1 67 (by decide) (by decide) (by decide)]
    · rw [r11 68 (by decide) (by decide), d6.1 68 (by decide) (by decide) (by decide) (by decide), c6 68 (by decide) (by decide), (b5.2.1 i hi).1, a5.1 68 (by decide) (by decide) (by decide)]
    · rw [r11 69 (by decide) (by decide), d6.1 69 (by decide) (by decide) (by decide) (by decide), c6 69 (by decide) (by decide), (b5.2.1 i hi).2, a5.1 69 (by decide) (by decide) (by decide)]
    · rw [r12 i hi, n4 70 (by decide)]
  · rw [r11 65 (by decide) (by decide), n4 65 (by decide)]
  · rw [r11 71 (by decide) (by decide), d6.2.2.2.2 i (by omega), n71]
  · rw [r13 i (by omega), n4 72 (by decide)]
  · rw [r11 73 (by decide) (by decide), n4 73 (by decide)]
  · rw [r11 c (by omega) (by omega), d6.2.2.1 c h1 h2 i hi, c6 c (by omega) (by omega)]
    by_cases e : c = 80
    · subst e; rw [b5.2.2 i hi, a5.1 80 (by decide) (by decide) (by decide)]
    · rw [b5.1 c (by omega) (by omega) e (by omega) (by omega), a5.1 c (by omega) (by omega) (by omega)]
  · rw [r10' (by rw [m4b 9 (by decide) (by decide)]; exact hh), m4b 9 (by decide) (by decide)]
