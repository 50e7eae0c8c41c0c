/-! ===== the least schedule ===== -/
theorem Sub.shift {M N M' N' : Mem} {a a' e e' : Nat} (h : Sub M N a (a' + 1) e e') : (∀ c, 6 ≤ c → c ≤ 10 → ∀ i, a ≤ i → i < e → M' c i = M c i) → (∀ c, 60 ≤ c → c ≤ 64 → ∀ i, a' ≤ i → i + 1 < e' → N' c i = N c (i + 1)) → ∃ x, e' = x + 1 ∧ a ≤ e ∧ a' ≤ x ∧ Sub M' N' a a' e x := by
  induction h using Sub.ind with
  | nil => intro _ _; exact ⟨a', rfl, Nat.le_refl _, Nat.le_refl _, .nil⟩
  | @skip e e' h1 h2 ih =>
    intro hm hn
    obtain ⟨x, rfl, i1, i2, i3⟩ := ih (fun c c1 c2 i i1 i2 => hm c c1 c2 i i1 (by omega)) hn
    exact ⟨x, rfl, by omega, i2, .skip i3 (by rw [hm 10 (by decide) (by decide) _ i1 (by omega)]; exact h2)⟩
  | @both e e' h1 h2 ih =>
    intro hm hn
    obtain ⟨x, rfl, i1, i2, i3⟩ := ih (fun c c1 c2 i i1 i2 => hm c c1 c2 i i1 (by omega)) (fun c c1 c2 i i1 i2 => hn c c1 c2 i i1 (by omega))
    obtain ⟨m1, m2, m3, m4, m5⟩ := h2
    refine ⟨x + 1, rfl, by omega, by omega, .both i3 ⟨?_, ?_, ?_, ?_, ?_⟩⟩
    · rw [hm 6 (by decide) (by decide) _ i1 (by omega), hn 60 (by decide) (by decide) _ i2 (by omega)]; exact m1
    · rw [hm 7 (by decide) (by decide) _ i1 (by omega), hn 61 (by decide) (by decide) _ i2 (by omega)]; exact m2
    · rw [hm 8 (by decide) (by decide) _ i1 (by omega), hn 62 (by decide) (by decide) _ i2 (by omega)]; exact m3
    · rw [hm 9 (by decide) (by decide) _ i1 (by omega), hn 63 (by decide) (by decide) _ i2 (by omega)]; exact m4
    · rw [hm 10 (by decide) (by decide) _ i1 (by omega), hn 64 (by decide) (by decide) _ i2 (by omega)]; exact m5
theorem evm_congr {M N M' N' : Mem} {e e' : Nat} (h : evm M N e e') (hm : ∀ c, 6 ≤ c → c ≤ 9 → M' c e = M c e) (hn : ∀ c, 60 ≤ c → c ≤ 63 → N' c e' = N c e') (hf : M' 10 e = N' 64 e') : evm M' N' e e' := by
  obtain ⟨m1, m2, m3, m4, -⟩ := h
  refine ⟨?_, ?_, ?_, ?_, hf⟩
  · rw [hm 6 (by decide) (by decide), hn 60 (by decide) (by decide)]; exact m1
  · rw [hm 7 (by decide) (by decide), hn 61 (by decide) (by decide)]; exact m2
  · rw [hm 8 (by decide) (by decide), hn 62 (by decide) (by decide)]; exact m3
  · rw [hm 9 (by decide) (by decide), hn 63 (by decide) (by decide)]; exact m4
/-- what the reference's memory keeps while its schedule shrinks -/
def NK (N N' : Mem) : Prop := (∀ c, c < 60 → c ≠ 56 → N' c = N c) ∧ (∀ i, i ≠ 33 → i ≠ 4 → N' 56 i = N 56 i) ∧ KM N N'
/-- between two trials: m events are still to be tried -/
def SK (n ne m : Nat) (M N M' N' : Mem) : Prop := CQ M M' ∧ NK N N' ∧ m ≤ ne ∧ (∀ e, e < m → evm M' N' e e) ∧ (∀ e, e < 20 → N' 64 e = 0) ∧ (∀ e, e < ne → bool01 (M' 10 e)) ∧ ∃ ne', N' 56 4 = nI ne' ∧ ne' ≤ ne ∧ Sub M' N' m m ne ne'
theorem mone (x : Int32) : x - 1 = x + -1 := Int32.sub_eq_add_neg x 1
theorem nI_m1 (m : Nat) : nI (m + 1) + -1 = nI m := by rw [← mone]; exact nI_pred m
theorem shf_lt {i p e : Nat} {f : Nat → Int32} (h : e < i) : shf i p f e = f e := by unfold shf; rw [if_neg (by omega)]
theorem shf_in {i p e : Nat} {f : Nat → Int32} (h1 : i ≤ e) (h2 : e < p) : shf i p f e = f (e + 1) := by unfold shf; rw [if_pos ⟨h1, h2⟩]
theorem sk_step {n ne T nl m : Nat} {M N M2 N2 : Mem} (hI : IR n ne T nl M N) (h : SK n ne (m + 1) M N M2 N2) : ∃ r M3 N3 N4, fX4_run 34 (nI T) 0 (st M2 10 m 1) = some (r, M3) ∧ fX7_isFailing (st N2 64 m 1) = some (r, N3) ∧ bool01 r ∧ ((r = 0 ∧ N4 = st N3 64 m 0) ∨ (¬ r = 0 ∧ fX7_remove (nI m) (st N3 64 m 0) = some N4)) ∧ SK n ne m M N (st M3 10 m r) N4 := by
  obtain ⟨hC, hK, hm, hpre, hz, hb, ne', h4, hle, hsub⟩ := h
  obtain ⟨⟨a1, a2, a3, a4, ⟨v1, v2, v3, v4⟩, a6⟩, hout, hx, hT, t1, t2, -⟩ := id hI
  have hCA : CQ M (st M2 10 m 1) := hC.tr (CQ_st m 1)
  have hA : ∀ c, c < 12 → c ≠ 10 → st M2 10 m 1 c = M c := fun c c1 c2 => hCA.1 c (by omega) c2
  have hB : ∀ c, c < 60 → c ≠ 56 → st N2 64 m 1 c = N c := fun c c1 c2 => by rw [st_c _ _ _ (by omega)]; exact hK.1 c c1 c2
  have hB56 : st N2 64 m 1 56 = N2 56 := st_c _ _ _ (by decide)
  have hevs : EvS n ne ne' (st M2 10 m 1) (st N2 64 m 1) := by
    refine ⟨by rw [hA 5 (by decide) (by decide)]; exact v1, v3, fun e he => ?_, by rw [hB56]; exact h4, hle, ?_, iNam_congr a6 (hA 6 (by decide) (by decide)) (hA 8 (by decide) (by decide)) (hA 11 (by decide) (by decide))⟩
    · rw [hA 6 (by decide) (by decide), hA 7 (by decide) (by decide), hA 8 (by decide) (by decide), hA 9 (by decide) (by decide)]
      exact (v4 e he).2.2.2.2
    · refine (Sub.pre (m + 1) (fun e he => ?_)).tr (hsub.congr (fun c c1 c2 i i1 i2 => ?_) (fun c c1 c2 i i1 i2 => ?_)).2.2
      · refine evm_congr (hpre e he) (fun c c1 c2 => by rw [st_c _ _ _ (show c ≠ 10 by omega)]) (fun c c1 c2 => by rw [st_c _ _ _ (show c ≠ 64 by omega)]) ?_
        by_cases c : e = m
        · subst c; rw [st_cc, st_cc]
        · rw [st_ck _ _ c, st_ck _ _ c]; exact (hpre e he).2.2.2.2
      · by_cases c10 : c = 10
        · subst c10; rw [st_ck _ _ (by omega)]
        · rw [st_c _ _ _ c10]
      · by_cases c10 : c = 64
        · subst c10; rw [st_ck _ _ (by omega)]
        · rw [st_c _ _ _ c10]
  obtain ⟨r, M3, N3, q1, q2, q3, q4, q5, q6, q7, q8⟩ := trial (T := T) (x := 0) hT (iN_congr a1 (hA 1 (by decide) (by decide)) (by rw [hB56]; exact hK.2.1 0 (by decide) (by decide))) (iBeh_congr a2 (hA 2 (by decide) (by decide)) (hB 57 (by decide) (by decide))) (iDel_congr a3 (hA 3 (by decide) (by decide)) (hB 58 (by decide) (by decide))) (iRum_congr a4 (hA 4 (by decide) (by decide)) (hB 59 (by decide) (by decide))) ⟨ne', hevs⟩ (by rw [hB56, hK.2.1 10 (by decide) (by decide)]; exact hx.symm) (by rw [st_c _ _ _ (show 65 ≠ 64 by decide), hK.2.2.1 65 (by decide) (by decide)]; exact t2)
  have hCF : CQ M (st M3 10 m r) := (hCA.tr q3).tr (CQ_st m r)
  have hKB : NK N (st N3 64 m 0) := ⟨fun c c1 c2 => by rw [st_c _ _ _ (by omega), q4.1 c (by omega) c2 (by omega)]; exact hB c c1 c2, fun i i1 i2 => by
      rw [st_c _ _ _ (show 56 ≠ 64 by decide)]
      by_cases c : i = 10
      · subst c; rw [q7, hB56]; exact hK.2.1 10 i1 i2
      · rw [q4.2.1 i i1 c, hB56]; exact hK.2.1 i i1 i2, (hK.2.2.tr (NQ_st m 1).2.2).tr (q4.2.2.tr (NQ_st m 0).2.2)⟩
  have f10 : ∀ e, e ≠ m → st M3 10 m r 10 e = M2 10 e := fun e he => by rw [st_ck _ _ he, q5, st_ck _ _ he]
  have f64 : ∀ e, e < 20 → st N3 64 m 0 64 e = 0 := fun e he => by
    by_cases c : e = m
    · subst c; rw [st_cc]
    · rw [st_ck _ _ c, q6, st_ck _ _ c]; exact hz e he
  have fm : ∀ c, 6 ≤ c → c ≤ 9 → st M3 10 m r c = M2 c := fun c c1 c2 => by rw [hCF.1 c (by omega) (by omega), hC.1 c (by omega) (by omega)]
  have fn : ∀ c, 60 ≤ c → c ≤ 63 → st N3 64 m 0 c = N2 c := fun c c1 c2 => by rw [st_c _ _ _ (by omega), q4.1 c (by omega) (by omega) (by omega), st_c _ _ _ (by omega)]
  have h4' : st N3 64 m 0 56 4 = nI ne' := by rw [st_c _ _ _ (show 56 ≠ 64 by decide), q4.2.1 4 (by decide) (by decide), hB56]; exact h4
  have hbr : ∀ e, e < ne → bool01 (st M3 10 m r 10 e) := fun e he => by
    by_cases c : e = m
    · subst c; rw [st_cc]; exact q8
    · rw [f10 e c]; exact hb e he
  have hmm : ∀ c, 6 ≤ c → c ≤ 10 → ∀ i, m + 1 ≤ i → i < ne → st M3 10 m r c i = M2 c i := fun c c1 c2 i i1 i2 => by
    by_cases c10 : c = 10
    · subst c10; exact f10 i (by omega)
    · rw [fm c c1 (by omega)]
  have hle2 := hsub.le
  by_cases cr : r = 0
  · refine ⟨r, M3, N3, st N3 64 m 0, q1, q2, q8, Or.inl ⟨cr, rfl⟩, hCF, hKB, by omega, fun e he => ?_, f64, hbr, ne', h4', hle, ?_⟩
    · exact evm_congr (hpre e (by omega)) (fun c c1 c2 => by rw [fm c c1 c2]) (fun c c1 c2 => by rw [fn c c1 c2]) (by rw [f10 e (by omega), f64 e (by omega)]; have := (hpre e (by omega)).2.2.2.2; rw [hz e (by omega)] at this; exact this)
    · have h1 : evm (st M3 10 m r) (st N3 64 m 0) m m := evm_congr (hpre m (by omega)) (fun c c1 c2 => by rw [fm c c1 c2]) (fun c c1 c2 => by rw [fn c c1 c2]) (by rw [st_cc, cr, f64 m (by omega)])
      refine (Sub.both Sub.nil h1).tr (hsub.congr hmm (fun c c1 c2 i i1 i2 => ?_)).2.2
      by_cases c10 : c = 64
      · subst c10; rw [f64 i (by omega), hz i (by omega)]
      · rw [fn c c1 (by omega)]
  · obtain ⟨N4, b1', b2, b3, b4, b5, b6, b7, b8⟩ := p_mremove (M := st N3 64 m 0) (ne := ne') (i := m) h4' (by omega) (by omega)
    have b64 : N4 64 = st N3 64 m 0 64 := b4 64 (by decide) (by decide) (by decide) (by decide) (by decide)
    have sh : ∀ c, 60 ≤ c → c ≤ 63 → N4 c = shf m (ne' - 1) (N2 c) := fun c c1 c2 => by
      rcases (show c = 60 ∨ c = 61 ∨ c = 62 ∨ c = 63 by omega) with rfl | rfl | rfl | rfl
      · rw [b5, fn 60 (by decide) (by decide)]
      · rw [b6, fn 61 (by decide) (by decide)]
      · rw [b7, fn 62 (by decide) (by decide)]
      · rw [b8, fn 63 (by decide) (by decide)]
    refine ⟨r, M3, N3, N4, q1, q2, q8, Or.inr ⟨cr, b1'⟩, hCF, ⟨fun c c1 c2 => by rw [b4 c c2 (by omega) (by omega) (by omega) (by omega)]; exact hKB.1 c c1 c2, fun i i1 i2 => by rw [b3 i i2]; exact hKB.2.1 i i1 i2, hKB.2.2.tr (KM.of fun c c1 c2 => b4 c (by omega) (by omega) (by omega) (by omega) (by omega))⟩, by omega, fun e he => ?_, fun e he => by rw [b64]; exact f64 e he, hbr, ne' - 1, b2, by omega, ?_⟩
    · exact evm_congr (hpre e (by omega)) (fun c c1 c2 => by rw [fm c c1 c2]) (fun c c1 c2 => by rw [sh c c1 c2, shf_lt he]) (by rw [f10 e (by omega), b64, f64 e (by omega)]; have := (hpre e (by omega)).2.2.2.2; rw [hz e (by omega)] at this; exact this)
    · obtain ⟨x, hx1, -, -, hx2⟩ := Sub.shift (M' := st M3 10 m r) (N' := N4) hsub hmm (fun c c1 c2 i i1 i2 => by
        by_cases c10 : c = 64
        · subst c10; rw [b64, f64 i (by omega), hz (i + 1) (by omega)]
        · rw [sh c c1 (by omega), shf_in i1 (by omega)])
      have hx3 : ne' - 1 = x := by omega
      rw [hx3]
      exact (Sub.skip Sub.nil (by rw [st_cc]; exact cr)).tr hx2
