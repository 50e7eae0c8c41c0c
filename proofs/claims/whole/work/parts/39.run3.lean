/-! ===== the turns, one behind the other ===== -/
abbrev cK (b : Nat) (v3 : Int32) (M14 : Mem) : Option ((Int32 × Mem) ⊕ (Mem)) := nm (fun (u16 : Unit) => nm (v3 + (1 : Int32)) fun (v17 : Int32) => some (.inl (v17, M14))) fun j61 => if (M14 b 2) = 0 then (j61 ()) else (if (M14 b 9) = (-1 : Int32) then (j61 ()) else (some (.inr M14)))
abbrev cLT (b : Nat) (F : Nat) (s : Int32 × Mem) : Option Mem := loop F (un2 fun (v3 : Int32) (M4 : Mem) => (if (M4 b 8) ≤ v3 then (some (.inr M4)) else ((fX4_meetEvents b v3 M4).bind (fun (M6 : Mem) => (fX4_takeInComings b v3 M6).bind (fun (M8 : Mem) => (fX3_grow b M8).bind (fun (M10 : Mem) => (fX4_sendLetters b v3 M10).bind (fun (M12 : Mem) => (fX4_keepRecord b v3 M12).bind (fun (M14 : Mem) => cK b v3 M14)))))) : Option ((Int32 × Mem) ⊕ (Mem)))) s
theorem run4_eq (b : Nat) (x1 x2 : Int32) (M : Mem) : fX4_run b x1 x2 M = (fX4_begin b x1 x2 M).bind (fun (M1 : Mem) => (cLT b fu ((0 : Int32), M1)).bind (un1 fun (M20 : Mem) => if (M20 b 9) = (-1 : Int32) then (some ((0 : Int32), M20)) else (some ((1 : Int32), M20)))) := rfl
theorem bind5 {β : Type} (F1 F2 F3 F4 F5 : Mem → Option Mem) (K : Mem → Option β) (M : Mem) : ((F1 M).bind (fun (M6 : Mem) => (F2 M6).bind (fun (M8 : Mem) => (F3 M8).bind (fun (M10 : Mem) => (F4 M10).bind (fun (M12 : Mem) => (F5 M12).bind (fun (M14 : Mem) => K M14)))))) = ((F1 M).bind (fun (M6 : Mem) => (F2 M6).bind (fun (M8 : Mem) => (F3 M8).bind (fun (M10 : Mem) => (F4 M10).bind (fun (M12 : Mem) => F5 M12))))).bind K := by
  simp only [Option.bind_assoc]
theorem c_turn {β : Type} {b : Nat} {v3 : Int32} {M M' : Mem} (K : Mem → Option β) (h : cTurn b v3 M = some M') : ((fX4_meetEvents b v3 M).bind (fun (M6 : Mem) => (fX4_takeInComings b v3 M6).bind (fun (M8 : Mem) => (fX3_grow b M8).bind (fun (M10 : Mem) => (fX4_sendLetters b v3 M10).bind (fun (M12 : Mem) => (fX4_keepRecord b v3 M12).bind (fun (M14 : Mem) => K M14)))))) = K M' := by
  refine (bind5 (fX4_meetEvents b v3) (fX4_takeInComings b v3) (fX3_grow b) (fX4_sendLetters b v3) (fX4_keepRecord b v3) K M).trans ?_
  have h' : ((fX4_meetEvents b v3 M).bind (fun (M6 : Mem) => (fX4_takeInComings b v3 M6).bind (fun (M8 : Mem) => (fX3_grow b M8).bind (fun (M10 : Mem) => (fX4_sendLetters b v3 M10).bind (fun (M12 : Mem) => fX4_keepRecord b v3 M12))))) = some M' := h
  rw [h']; rfl
theorem run_loop {b k n ne T : Nat} (hb : b = 12 ∨ b = 34) (hk : k < 2) (hT : T ≤ 40) : ∀ (m t : Nat) (M N : Mem) (F : Nat), T - t = m → t ≤ T → m < F → TR b k n ne T t M N → ∃ Mh N' M', mLT (nI k) (nI T) F (nI t, N) = some N' ∧ cLT b F (nI t, M) = some M' ∧ TR b k n ne T T Mh N' ∧ RnM k N N' ∧ RnC b M M' ∧ (¬ M b 9 = -1 → Mh b 9 = M b 9) ∧ (M' b 9 = -1 ↔ Mh b 9 = -1) ∧ (M b 2 = 0 → M' = Mh) := by
  intro m
  induction m with
  | zero =>
    intro t M N F h1 h2 hF hTR
    have : t = T := by omega
    subst this
    obtain ⟨F', rfl⟩ : ∃ F', F = F' + 1 := ⟨F - 1, by omega⟩
    refine ⟨M, N, M, loop_out ?_, loop_out ?_, hTR, RnM.rf, RnC.rf, fun _ => rfl, Iff.rfl, fun _ => rfl⟩
    · simp only [un2]; rw [if_pos (nI_le (Nat.le_refl t) (by omega))]
    · simp only [un2]; rw [hTR.2.2.1, if_pos (nI_le (Nat.le_refl t) (by omega))]
  | succ m ih =>
    intro t M N F h1 h2 hF hTR
    obtain ⟨F', rfl⟩ : ∃ F', F = F' + 1 := ⟨F - 1, by omega⟩
    obtain ⟨M1, N1, q1, q2, q3, q4, q5, q6⟩ := turn_sim hb hk (show t < 40 by omega) hTR
    obtain ⟨Mh, N', M', i1, i2, i3, i4, i5, i6, i7, i8⟩ := ih (t + 1) M1 N1 F' (by omega) (by omega) (by omega) q3
    have hm : mLT (nI k) (nI T) (F' + 1) (nI t, N) = some N' := by
      refine (loop_in (s' := (nI (t + 1), N1)) ?_).trans i1
      simp only [un2]
      rw [if_neg (nI_ge (show t < T by omega) (by omega))]
      exact q2
    have hbody : (if (M b 8) ≤ nI t then (some (.inr M) : Option ((Int32 × Mem) ⊕ Mem)) else ((fX4_meetEvents b (nI t) M).bind (fun (M6 : Mem) => (fX4_takeInComings b (nI t) M6).bind (fun (M8 : Mem) => (fX3_grow b M8).bind (fun (M10 : Mem) => (fX4_sendLetters b (nI t) M10).bind (fun (M12 : Mem) => (fX4_keepRecord b (nI t) M12).bind (fun (M14 : Mem) => cK b (nI t) M14))))))) = cK b (nI t) M1 := by
      rw [hTR.2.2.1, if_neg (nI_ge (show t < T by omega) (by omega))]
      exact c_turn (cK b (nI t)) q1
    by_cases c : M1 b 2 = 0 ∨ M1 b 9 = -1
    · refine ⟨Mh, N', M', hm, (loop_in (s' := (nI (t + 1), M1)) ?_).trans i2, i3, q5.tr i4, q4.tr i5, fun h => ?_, i7, fun h => i8 (by rw [q4.2.1]; exact h)⟩
      · refine hbody.trans ?_
        simp only [nm, nI_1]
        rcases c with c | c
        · rw [if_pos c]
        · by_cases c2 : M1 b 2 = 0
          · rw [if_pos c2]
          · rw [if_neg c2, if_pos c]
      · have := q6 h
        rw [i6 (by rw [this]; exact h), this]
    · have c1 : ¬ M1 b 2 = 0 := fun h => c (Or.inl h)
      have c2 : ¬ M1 b 9 = -1 := fun h => c (Or.inr h)
      refine ⟨Mh, N', M1, hm, loop_out ?_, i3, q5.tr i4, q4, fun h => ?_, ?_, fun h => absurd (by rw [q4.2.1]; exact h) c1⟩
      · refine hbody.trans ?_
        simp only [nm]
        rw [if_neg c1, if_neg c2]
      · have := q6 h
        rw [i6 (by rw [this]; exact h), this]
      · rw [i6 c2]
def RnX (k T : Nat) (N N' : Mem) : Prop := (∀ c, c < 65 → c ≠ 56 → N' c = N c) ∧ (∀ i, i ≠ 33 → N' 56 i = N 56 i) ∧ (∀ c, 65 ≤ c → c ≤ 70 → ∀ i, i ≠ k → N' c i = N c i) ∧ N' 65 k = nI T ∧ (∀ i, (i < 420 * k ∨ 420 * k + 420 ≤ i) → N' 71 i = N 71 i) ∧ (∀ i, (i < 60 * k ∨ 60 * k + 60 ≤ i) → N' 72 i = N 72 i) ∧ (∀ i, (i < 7 * k ∨ 7 * k + 7 ≤ i) → N' 73 i = N 73 i) ∧ ∀ c, 74 ≤ c → c ≤ 80 → ∀ i, (i < 1200 * k ∨ 1200 * k + 1200 ≤ i) → N' c i = N c i
def ShP (b k n T nl : Nat) (M N : Mem) : Prop := M b 8 = nI T ∧ N 65 k = nI T ∧ Rec b k n T nl M N ∧ M b 9 = N 70 k ∧ (∀ a, a < n → M (b + 8) a = N 73 (7 * k + a) ∧ nat256 (M (b + 8) a)) ∧ ∀ a, a < n → M (b + 7) a = N 82 a
theorem full_run {b k n ne T : Nat} {x : Int32} {M N : Mem} (hb : b = 12 ∨ b = 34) (hk : k < 2) (hT : T ≤ 40) (hN : iN n M N) (hB : iBeh n M N) (hD : iDel n M N) (hR : iRum n M N) (hE : ∃ ne', EvS n ne ne' M N) (hx : x = N 56 10) : ∃ r M' N', fX4_run b (nI T) x M = some (r, M') ∧ fX7_run (nI k) (nI T) N = some N' ∧ (r = if N' 70 k < 0 then 0 else 1) ∧ (∀ c, c < b ∨ b + 22 ≤ c → M' c = M c) ∧ M' b 2 = M b 2 ∧ RnX k T N N' ∧ (M b 2 = 0 → ∃ nl, ShP b k n T nl M' N') := by
  obtain ⟨M1, B, C, a1, a2, a3, a4, a5, a6, a7, a8, a9, a10⟩ := begin_sim (ne := ne) hb hk hT hN hB hD hR hE hx
  obtain ⟨Mh, D, M', b1', b2, b3, b4, b5, -, b7, b8⟩ := run_loop hb hk hT T 0 M1 C fu (by omega) (by omega) (by unfold fu; omega) a4
  obtain ⟨E, e1, e2, e3, e4⟩ := p_mLK hk D
  obtain ⟨hcf, ⟨nl, hnl, hS⟩, t8, t9, tf, t71, t72⟩ := b3
  obtain ⟨r1, r2, r3, r4, r5, r6, r7, r8⟩ := b4
  have hr : fX4_run b (nI T) x M = some ((if M' b 9 = -1 then 0 else 1), M') := by
    rw [run4_eq, a1]
    simp only [Option.bind_some]
    have b2' : cLT b fu (0, M1) = some M' := b2
    rw [b2']
    simp only [Option.bind_some, un1]
    by_cases c : M' b 9 = -1
    · rw [if_pos c, if_pos c]
    · rw [if_neg c, if_neg c]
  refine ⟨_, M', E, hr, run7_c hk a2 a3 b1' e1, ?_, fun c hc => by rw [b5.1 c hc, a5 c hc], by rw [b5.2.1, a6], ⟨fun c h1 h2 => ?_, fun i hi => ?_, fun c h1 h2 i hi => ?_, ?_, fun i hi => ?_, fun i hi => ?_, fun i hi => ?_, fun c h1 h2 i hi => ?_⟩, fun h0 => ⟨nl, ?_⟩⟩
  · rw [e2 70 (by decide), ← t9]
    rcases tf with h | ⟨u, hu, h⟩
    · rw [if_pos (b7.mpr h), h]; rfl
    · have h1 : ¬ Mh b 9 = -1 := by rw [h]; exact neg1_ne (by omega)
      rw [if_neg (fun g => h1 (b7.mp g)), h, if_neg (nI_pos (by omega))]
  · rw [e2 c (by omega), r1 c h1 h2, a7 c h2 (by omega) (by omega)]
  · rw [e2 56 (by decide), r2 i hi, a8 i hi]
  · rw [e2 c (by omega), r3 c h1 h2 i hi, a9 c h1 h2 i hi]
  · rw [e2 65 (by decide), r4, a10]
  · rw [e2 71 (by decide), r5 i hi, a7 71 (by decide) (by decide) (by decide)]
  · rw [e2 72 (by decide), r6 i hi, a7 72 (by decide) (by decide) (by decide)]
  · rw [e3 i hi, r7, a7 73 (by decide) (by decide) (by decide)]
  · rw [e2 c (by omega), r8 c h1 h2 i hi, a7 c (by omega) (by omega) (by omega)]
  · have hMh := b8 (by rw [a6]; exact h0)
    subst hMh
    have hn := hN.2.1
    obtain ⟨⟨⟨s1, s2, -⟩, p1, -, p3, p4, p5, p6, p7⟩, hnl2, -⟩ := hS
    refine ⟨t8, by rw [e2 65 (by decide), r4, a10], ⟨hnl2, p3, by rw [e2 66 (by decide)]; exact p4, ?_, by rw [e2 67 (by decide)]; exact p5, by rw [e2 68 (by decide)]; exact p6, by rw [e2 69 (by decide)]; exact p7, by rw [e2 71 (by decide)]; exact t71, by rw [e2 72 (by decide)]; exact t72⟩, by rw [e2 70 (by decide)]; exact t9, fun a ha => ?_, fun a ha => ?_⟩
    · unfold iLet at *
      rw [e2 74 (by decide), e2 75 (by decide), e2 76 (by decide), e2 77 (by decide), e2 78 (by decide), e2 79 (by decide), e2 80 (by decide)]; exact p1
    · rw [e4 a (by omega)]; exact s2 a ha
    · rw [e2 82 (by decide)]; exact s1 a ha
