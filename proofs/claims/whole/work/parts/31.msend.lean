/-! ===== the reference sends a letter ===== -/
def d5 (M : Mem) (l j e : Nat) : Bool := evq M 5 l e && decide ((M 9 e).toNatClampNeg = j)
abbrev zDbl (v5 : Int32) (M23 : Mem) : Option Mem := loop fu (un2 fun (v25 : Int32) (M26 : Mem) => (if (6 : Int32) ≤ v25 then (some (.inr M26)) else (gd (((6 : Int32) * v5) + v25) 14400 (nm (st M26 81 (Int32.toNatClampNeg (((6 : Int32) * v5) + v25)) (0 : Int32)) fun (M29 : Mem) => nm (v25 + (1 : Int32)) fun (v30 : Int32) => some (.inl (v30, M29)))) : Option ((Int32 × Mem) ⊕ (Mem)))) ((0 : Int32), M23)
theorem p_zDbl {lk : Nat} {N : Mem} (hlk : lk < 2400) : ∃ N', zDbl (nI lk) N = some N' ∧ (∀ c, c ≠ 81 → N' c = N c) ∧ ∀ j, N' 81 j = if 6 * lk ≤ j ∧ j < 6 * lk + 6 then 0 else N 81 j := by
  refine loop_one (P := fun p (s : Int32 × Mem) => s.1 = nI p ∧ (∀ c, c ≠ 81 → s.2 c = N c) ∧ ∀ j, s.2 81 j = if 6 * lk ≤ j ∧ j < 6 * lk + p then 0 else N 81 j) (Q := fun (M' : Mem) => (∀ c, c ≠ 81 → M' c = N c) ∧ ∀ j, M' 81 j = if 6 * lk ≤ j ∧ j < 6 * lk + 6 then 0 else N 81 j) 6 ?_ ?_ fu 0 _ (by unfold fu; omega) (by omega) ⟨rfl, fun _ _ => rfl, fun j => by rw [if_neg (by omega)]⟩
  · rintro p ⟨v, M2⟩ hp ⟨hv, h2, h3⟩
    have hv' : v = nI p := hv
    subst hv'
    dsimp only at h2 h3
    refine ⟨(nI (p + 1), st M2 81 (6 * lk + p) 0), ?_, rfl, fun c hc => (st_c _ _ _ hc).trans (h2 c hc), fun j => ?_⟩
    · simp only [un2, nm, mul6', if_neg (show ¬ (6 : Int32) ≤ nI p from nI_ge hp (by decide)), gd_nI (show 6 * lk + p < 14400 by omega) (show 14400 < 2 ^ 31 by decide), nI_clamp (show 6 * lk + p < 2 ^ 31 by omega), nI_1]
    · show st M2 81 (6 * lk + p) 0 81 j = _
      by_cases c : j = 6 * lk + p
      · subst c; rw [st_cc, if_pos (by omega)]
      · rw [st_ck _ _ c, h3 j]
        by_cases c2 : 6 * lk ≤ j ∧ j < 6 * lk + p
        · rw [if_pos c2, if_pos (by omega)]
        · rw [if_neg c2, if_neg (by omega)]
  · rintro ⟨v, M2⟩ ⟨hv, h2, h3⟩
    have hv' : v = nI 6 := hv
    subst hv'
    dsimp only at h2 h3
    exact ⟨M2, by simp only [un2]; rfl, h2, h3⟩
abbrev eLp (v2 v5 v24 : Int32) (M31 : Mem) : Option (Int32 × Mem) := loop fu (un3 fun (v32 : Int32) (v33 : Int32) (M34 : Mem) => (if (M34 56 4) ≤ v33 then (some (.inr (v32, M34))) else (gd v33 20 (nm (fun (v37 : Int32) (M38 : Mem) => nm (v33 + (1 : Int32)) fun (v39 : Int32) => some (.inl (v37, v39, M38))) fun j327 => if (M34 64 (Int32.toNatClampNeg v33)) = 0 then (gd v33 20 (if (M34 60 (Int32.toNatClampNeg v33)) ≤ (3 : Int32) then (j327 v32 M34) else (gd v33 20 (if (M34 62 (Int32.toNatClampNeg v33)) = v2 then (nm (fun (v45 : Int32) => gd v5 2400 (gd v33 20 (nm (fun (v48 : Int32) => gd v5 2400 (nm (st M34 79 (Int32.toNatClampNeg v5) ((M34 79 (Int32.toNatClampNeg v5)) + v48)) fun (M50 : Mem) => gd v33 20 (nm ((((6 : Int32) * v5) + (M50 63 (Int32.toNatClampNeg v33)))) fun (v52 : Int32) => gd v52 14400 (gd v33 20 (nm (fun (v55 : Int32) => gd v52 14400 (nm (st M50 81 (Int32.toNatClampNeg v52) ((M50 81 (Int32.toNatClampNeg v52)) + v55)) fun (M57 : Mem) => j327 v45 M57)) fun j325 => if (M50 60 (Int32.toNatClampNeg v33)) = (5 : Int32) then (j325 (1 : Int32)) else (j325 (0 : Int32))))))) fun j288 => if (M34 60 (Int32.toNatClampNeg v33)) = (6 : Int32) then (gd v33 20 (j288 (M34 63 (Int32.toNatClampNeg v33)))) else (j288 (0 : Int32))))) fun j255 => nm (fun (u61 : Unit) => j255 (1 : Int32)) fun j250 => if v32 = 0 then (gd v33 20 (if (M34 60 (Int32.toNatClampNeg v33)) = (4 : Int32) then (j250 ()) else (j255 (0 : Int32)))) else (j250 ())) else (j327 v32 M34))))) else (j327 v32 M34))) : Option ((Int32 × Int32 × Mem) ⊕ (Int32 × Mem)))) (v24, (0 : Int32), M31)
/-- the reference's rows of events are the class's -/
def evRel (n ne : Nat) (M N : Mem) : Prop := N 56 4 = nI ne ∧ ne ≤ 20 ∧ ∀ e, e < ne → M 6 e = N 60 e ∧ M 8 e = N 62 e ∧ M 9 e = N 63 e ∧ M 10 e = N 64 e ∧ EvOK n (M 6 e) (M 7 e) (M 8 e) (M 9 e)
theorem p_eLp {n ne l lk base : Nat} {v24 : Int32} {M N : Mem} (hr : evRel n ne M N) (hl : l < 1200) (hlk : lk < 2400) (hv : bool01 v24) (h79 : N 79 lk = nI base) (h81 : ∀ j, 1 ≤ j → j < 6 → N 81 (6 * lk + j) = 0) : ∃ N', eLp (nI l) (nI lk) v24 N = some ((if v24 = 1 ∨ 0 < cnt (evq M 4 l) ne then 1 else 0), N') ∧ (∀ c, c ≠ 79 → c ≠ 81 → N' c = N c) ∧ (∀ i, N' 79 i = if i = lk then nI (base + lat M l ne) else N 79 i) ∧ (∀ j, 1 ≤ j → j < 6 → N' 81 (6 * lk + j) = nI (cnt (d5 M l j) ne)) ∧ ∀ j, (j < 6 * lk ∨ 6 * lk + 6 ≤ j) → N' 81 j = N 81 j := by
  obtain ⟨r1, r2, r3⟩ := hr
  have hL := loop_one (f := (un3 fun (v32 : Int32) (v33 : Int32) (M34 : Mem) => (if (M34 56 4) ≤ v33 then (some (.inr (v32, M34))) else (gd v33 20 (nm (fun (v37 : Int32) (M38 : Mem) => nm (v33 + (1 : Int32)) fun (v39 : Int32) => some (.inl (v37, v39, M38))) fun j327 => if (M34 64 (Int32.toNatClampNeg v33)) = 0 then (gd v33 20 (if (M34 60 (Int32.toNatClampNeg v33)) ≤ (3 : Int32) then (j327 v32 M34) else (gd v33 20 (if (M34 62 (Int32.toNatClampNeg v33)) = (nI l) then (nm (fun (v45 : Int32) => gd (nI lk) 2400 (gd v33 20 (nm (fun (v48 : Int32) => gd (nI lk) 2400 (nm (st M34 79 (Int32.toNatClampNeg (nI lk)) ((M34 79 (Int32.toNatClampNeg (nI lk))) + v48)) fun (M50 : Mem) => gd v33 20 (nm ((((6 : Int32) * (nI lk)) + (M50 63 (Int32.toNatClampNeg v33)))) fun (v52 : Int32) => gd v52 14400 (gd v33 20 (nm (fun (v55 : Int32) => gd v52 14400 (nm (st M50 81 (Int32.toNatClampNeg v52) ((M50 81 (Int32.toNatClampNeg v52)) + v55)) fun (M57 : Mem) => j327 v45 M57)) fun j325 => if (M50 60 (Int32.toNatClampNeg v33)) = (5 : Int32) then (j325 (1 : Int32)) else (j325 (0 : Int32))))))) fun j288 => if (M34 60 (Int32.toNatClampNeg v33)) = (6 : Int32) then (gd v33 20 (j288 (M34 63 (Int32.toNatClampNeg v33)))) else (j288 (0 : Int32))))) fun j255 => nm (fun (u61 : Unit) => j255 (1 : Int32)) fun j250 => if v32 = 0 then (gd v33 20 (if (M34 60 (Int32.toNatClampNeg v33)) = (4 : Int32) then (j250 ()) else (j255 (0 : Int32)))) else (j250 ())) else (j327 v32 M34))))) else (j327 v32 M34))) : Option ((Int32 × Int32 × Mem) ⊕ (Int32 × Mem)))))
    (P := fun i (s : Int32 × Int32 × Mem) => s.1 = (if v24 = 1 ∨ 0 < cnt (evq M 4 l) i then 1 else 0) ∧ s.2.1 = nI i ∧ (∀ c, c ≠ 79 → c ≠ 81 → s.2.2 c = N c) ∧ (∀ x, s.2.2 79 x = if x = lk then nI (base + lat M l i) else N 79 x) ∧ (∀ j, 1 ≤ j → j < 6 → s.2.2 81 (6 * lk + j) = nI (cnt (d5 M l j) i)) ∧ ∀ j, (j < 6 * lk ∨ 6 * lk + 6 ≤ j) → s.2.2 81 j = N 81 j)
    (Q := fun (s : Int32 × Mem) => s.1 = (if v24 = 1 ∨ 0 < cnt (evq M 4 l) ne then 1 else 0) ∧ (∀ c, c ≠ 79 → c ≠ 81 → s.2 c = N c) ∧ (∀ x, s.2 79 x = if x = lk then nI (base + lat M l ne) else N 79 x) ∧ (∀ j, 1 ≤ j → j < 6 → s.2 81 (6 * lk + j) = nI (cnt (d5 M l j) ne)) ∧ ∀ j, (j < 6 * lk ∨ 6 * lk + 6 ≤ j) → s.2 81 j = N 81 j) ne (by
      rintro i ⟨v, w, X⟩ hi ⟨q1, q2, q3, q4, q5, q6⟩
      have q2' : w = nI i := q2
      subst q2'
      dsimp only at q1 q3 q4 q5 q6
      obtain ⟨w1, w2, w3, w4, kk, ww, ff, ss, k1, k2, k3, k4, k5, k6, k7, k8, k9, k10⟩ := r3 i hi
      have hg : ∀ {β : Type} (k : Option β), gd (nI i) 20 k = k := fun k => gd_nI (by omega) (by decide)
      have hgl : ∀ {β : Type} (k : Option β), gd (nI lk) 2400 k = k := fun k => gd_nI hlk (by decide)
      have hgd : ∀ {β : Type} (k : Option β), gd (nI (6 * lk + ss)) 14400 k = k := fun k => gd_nI (by omega) (by decide)
      have x56 : X 56 = N 56 := q3 56 (by decide) (by decide)
      have x60 : X 60 i = nI kk := by rw [q3 60 (by decide) (by decide), ← w1]; exact k1
      have x62 : X 62 i = nI ff := by rw [q3 62 (by decide) (by decide), ← w2]; exact k3
      have x63 : X 63 i = nI ss := by rw [q3 63 (by decide) (by decide), ← w3]; exact k4
      have x64 : X 64 i = M 10 i := by rw [q3 64 (by decide) (by decide), ← w4]
      have hm : (M 9 i).toNatClampNeg = ss := by rw [k4, nI_clamp (show ss < 2 ^ 31 by omega)]
      have hvb : v = 0 ∨ v = 1 := by
        rw [q1]
        split
        · exact Or.inr rfl
        · exact Or.inl rfl
      simp only [un3, nm, x56, r1, if_neg (nI_ge hi (show ne < 2 ^ 31 by omega)), hg, hgl, nI_clamp (show i < 2 ^ 31 by omega), nI_clamp (show lk < 2 ^ 31 by omega), x60, x62, x63, x64, nI_1, st_c _ _ _ (show 63 ≠ 79 by decide), st_c _ _ _ (show 60 ≠ 79 by decide), st_c _ _ _ (show 81 ≠ 79 by decide), mul6', hgd, nI_clamp (show 6 * lk + ss < 2 ^ 31 by omega)]
      by_cases hA : M 10 i = 0 ∧ 4 ≤ kk ∧ ff = l
      · obtain ⟨a1, a2, rfl⟩ := hA
        rw [if_pos a1, if_neg (show ¬ nI kk ≤ 3 from nI_ge (show 3 < kk by omega) (by omega)), if_pos rfl]
        have ev : ∀ kd, kd < 7 → evq M kd ff i = decide (kk = kd) := fun kd hkd => by
          unfold evq
          rw [k1, k3]
          by_cases c : kk = kd
          · subst c; simp [a1]
          · have : ¬ nI kk = nI kd := fun e => c ((nI_eq (by omega) (by omega)).mp e)
            simp [c, this]
        have fin : ∀ (v' : Int32) (z1 z2 : Nat), z1 = (if kk = 6 then ss else 0) → z2 = (if kk = 5 then 1 else 0) → v' = (if v24 = 1 ∨ 0 < cnt (evq M 4 ff) (i + 1) then 1 else 0) → ∃ s', (some (.inl (v', nI (i + 1), st (st X 79 lk (X 79 lk + nI z1)) 81 (6 * lk + ss) (X 81 (6 * lk + ss) + nI z2))) : Option ((Int32 × Int32 × Mem) ⊕ (Int32 × Mem))) = some (.inl s') ∧ s'.1 = (if v24 = 1 ∨ 0 < cnt (evq M 4 ff) (i + 1) then 1 else 0) ∧ s'.2.1 = nI (i + 1) ∧ (∀ c, c ≠ 79 → c ≠ 81 → s'.2.2 c = N c) ∧ (∀ x, s'.2.2 79 x = if x = lk then nI (base + lat M ff (i + 1)) else N 79 x) ∧ (∀ j, 1 ≤ j → j < 6 → s'.2.2 81 (6 * lk + j) = nI (cnt (d5 M ff j) (i + 1))) ∧ ∀ j, (j < 6 * lk ∨ 6 * lk + 6 ≤ j) → s'.2.2 81 j = N 81 j := by
          intro v' z1 z2 hz1 hz2 hv'
          obtain ⟨Z, hZ⟩ : ∃ Z, Z = st (st X 79 lk (X 79 lk + nI z1)) 81 (6 * lk + ss) (X 81 (6 * lk + ss) + nI z2) := ⟨_, rfl⟩
          rw [← hZ]
          refine ⟨_, rfl, hv', rfl, fun c c1 c2 => ?_, fun x => ?_, fun j j1 j2 => ?_, fun j hj => ?_⟩
          · show Z c = _
            rw [hZ, st_c _ _ _ c2, st_c _ _ _ c1]; exact q3 c c1 c2
          · show Z 79 x = _
            rw [hZ, st_c _ _ _ (show 79 ≠ 81 by decide), lat_s, ev 6 (by decide), hm]
            by_cases c : x = lk
            · subst c
              rw [st_cc, if_pos rfl, q4, if_pos rfl, nI_add, hz1]
              congr 1
              by_cases c6 : kk = 6
              · simp [c6]; omega
              · simp [c6]
            · rw [st_ck _ _ c, if_neg c, q4, if_neg c]
          · show Z 81 (6 * lk + j) = _
            rw [hZ, cnt_s]
            have hd5 : d5 M ff j i = (decide (kk = 5) && decide (ss = j)) := by unfold d5; rw [ev 5 (by decide), hm]
            by_cases c : j = ss
            · subst c
              rw [st_cc, q5 j j1 j2, nI_add, hz2, hd5]
              congr 2
              by_cases c5 : kk = 5
              · simp [c5]
              · simp [c5]
            · rw [st_ck _ _ (show 6 * lk + j ≠ 6 * lk + ss by omega), st_c _ _ _ (show 81 ≠ 79 by decide), q5 j j1 j2, hd5]
              simp [Ne.symm c]
          · show Z 81 j = _
            rw [hZ, st_ck _ _ (show j ≠ 6 * lk + ss by omega), st_c _ _ _ (show 81 ≠ 79 by decide)]; exact q6 j hj
        have c4 : cnt (evq M 4 ff) (i + 1) = cnt (evq M 4 ff) i + (if kk = 4 then 1 else 0) := by
          rw [cnt_s, ev 4 (by decide)]
          by_cases c : kk = 4 <;> simp [c]
        rcases (show kk = 4 ∨ kk = 5 ∨ kk = 6 by omega) with rfl | rfl | rfl
        · have hv1 : (1 : Int32) = (if v24 = 1 ∨ 0 < cnt (evq M 4 ff) (i + 1) then 1 else 0) := by rw [c4, if_pos rfl, if_pos (Or.inr (by omega))]
          simp only [if_pos (show nI 4 = (4 : Int32) from rfl), if_neg (show ¬ nI 4 = (6 : Int32) by decide), if_neg (show ¬ nI 4 = (5 : Int32) by decide), ite_self]
          exact fin 1 0 0 rfl rfl hv1
        · have hv5 : v = (if v24 = 1 ∨ 0 < cnt (evq M 4 ff) (i + 1) then 1 else 0) := by rw [c4, if_neg (show ¬ 5 = 4 by decide), Nat.add_zero]; exact q1
          simp only [if_neg (show ¬ nI 5 = (4 : Int32) by decide), if_neg (show ¬ nI 5 = (6 : Int32) by decide), if_pos (show nI 5 = (5 : Int32) from rfl)]
          rcases hvb with h0 | h0
          · rw [if_pos h0]; exact fin 0 0 1 rfl rfl (h0.symm.trans hv5)
          · rw [if_neg (show ¬ v = 0 by rw [h0]; exact b1)]; exact fin 1 0 1 rfl rfl (h0.symm.trans hv5)
        · have hv5 : v = (if v24 = 1 ∨ 0 < cnt (evq M 4 ff) (i + 1) then 1 else 0) := by rw [c4, if_neg (show ¬ 6 = 4 by decide), Nat.add_zero]; exact q1
          simp only [if_neg (show ¬ nI 6 = (4 : Int32) by decide), if_pos (show nI 6 = (6 : Int32) from rfl), if_neg (show ¬ nI 6 = (5 : Int32) by decide)]
          rcases hvb with h0 | h0
          · rw [if_pos h0]; exact fin 0 ss 0 rfl rfl (h0.symm.trans hv5)
          · rw [if_neg (show ¬ v = 0 by rw [h0]; exact b1)]; exact fin 1 ss 0 rfl rfl (h0.symm.trans hv5)
      · have ev : ∀ kd, 4 ≤ kd → kd < 7 → evq M kd l i = false := fun kd h4 h7 => by
          unfold evq
          rw [k1, k3]
          apply decide_eq_false
          rintro ⟨a1, a2, a3⟩
          have b2 := (nI_eq (a := kk) (b := kd) (by omega) (by omega)).mp a2
          have b3 := (nI_eq (a := ff) (b := l) (by omega) (by omega)).mp a3
          exact hA ⟨a1, by omega, b3⟩
        have fin : ∃ s', (some (.inl (v, nI (i + 1), X)) : Option ((Int32 × Int32 × Mem) ⊕ (Int32 × Mem))) = some (.inl s') ∧ s'.1 = (if v24 = 1 ∨ 0 < cnt (evq M 4 l) (i + 1) then 1 else 0) ∧ s'.2.1 = nI (i + 1) ∧ (∀ c, c ≠ 79 → c ≠ 81 → s'.2.2 c = N c) ∧ (∀ x, s'.2.2 79 x = if x = lk then nI (base + lat M l (i + 1)) else N 79 x) ∧ (∀ j, 1 ≤ j → j < 6 → s'.2.2 81 (6 * lk + j) = nI (cnt (d5 M l j) (i + 1))) ∧ ∀ j, (j < 6 * lk ∨ 6 * lk + 6 ≤ j) → s'.2.2 81 j = N 81 j := by
          refine ⟨_, rfl, ?_, rfl, q3, fun x => ?_, fun j j1 j2 => ?_, q6⟩
          · rw [cnt_s, ev 4 (by decide) (by decide)]; exact q1
          · rw [lat_s, ev 6 (by decide) (by decide)]; exact q4 x
          · rw [cnt_s, show d5 M l j i = false by unfold d5; rw [ev 5 (by decide) (by decide)]; rfl]; exact q5 j j1 j2
        by_cases a1 : M 10 i = 0
        · rw [if_pos a1]
          by_cases a2 : 4 ≤ kk
          · rw [if_neg (show ¬ nI kk ≤ 3 from nI_ge (show 3 < kk by omega) (by omega)), if_neg (fun e => hA ⟨a1, a2, (nI_eq (a := ff) (b := l) (by omega) (by omega)).mp e⟩)]
            exact fin
          · rw [if_pos (show nI kk ≤ 3 from nI_le (show kk ≤ 3 by omega) (by decide))]
            exact fin
        · rw [if_neg a1]
          exact fin) (by
      rintro ⟨v, w, X⟩ ⟨q1, q2, q3, q4, q5, q6⟩
      have q2' : w = nI ne := q2
      subst q2'
      dsimp only at q1 q3 q4 q5 q6
      have x56 : X 56 = N 56 := q3 56 (by decide) (by decide)
      simp only [un3, x56, r1, if_pos (nI_le (Nat.le_refl ne) (show ne < 2 ^ 31 by omega))]
      exact ⟨_, rfl, q1, q3, q4, q5, q6⟩) fu 0 (v24, 0, N) (by unfold fu; omega) (by omega) ⟨by
        rcases hv with rfl | rfl
        · simp [cnt]
        · simp [cnt], rfl, fun _ _ _ => rfl, fun x => by
        by_cases c : x = lk
        · subst c; rw [if_pos rfl]; exact h79
        · rw [if_neg c], fun j j1 j2 => h81 j j1 j2, fun _ _ => rfl⟩
  obtain ⟨⟨v, N'⟩, e1, e2, e3, e4, e5, e6⟩ := hL
  dsimp only at e2 e3 e4 e5 e6
  rw [e2] at e1
  exact ⟨N', e1, e3, e4, e5, e6⟩
theorem and1 (y : Int32) : y &&& 1 = 0 ∨ y &&& 1 = 1 := by
  rw [pk_and y (m := 1) 1 rfl]
  rcases Nat.mod_two_eq_zero_or_one y.toBitVec.toNat with h | h
  · left; rw [show 2 ^ 1 = 2 from rfl, h]; rfl
  · right; rw [show 2 ^ 1 = 2 from rfl, h]; rfl
def hsv (N : Mem) (a : Nat) : Int32 := if N 57 a = 3 then 0 else N 82 a + (if N 57 a = 1 then 3 else 0)
def sN (k l a c t : Nat) (N : Mem) : Mem := st (st (st (st (st (st (st (st N 66 k (nI (l + 1))) 74 (1200 * k + l) (nI a)) 75 (1200 * k + l) (nI c)) 76 (1200 * k + l) (nI t)) 77 (1200 * k + l) (hsv N a)) 78 (1200 * k + l) (N 83 a)) 80 (1200 * k + l) 0) 79 (1200 * k + l) (nI t + N 58 (7 * a + c))
theorem send_eq {k l a c t : Nat} {N : Mem} (hk : k < 2) (hl : l < 1200) (ha : a < 6) (hc : c < 6) (h66 : N 66 k = nI l) : ∃ v24, ((v24 = 1 ∧ aL (N 56 10) l) ∨ (v24 = 0 ∧ ¬ aL (N 56 10) l)) ∧ fX7_send (nI k) (nI t) (nI a) (nI c) N = (zDbl (nI (1200 * k + l)) (sN k l a c t N)).bind (un1 fun (M31 : Mem) => (eLp (nI l) (nI (1200 * k + l)) v24 M31).bind (un2 fun (v65 : Int32) (M66 : Mem) => if v65 = 0 then (some M66) else (some (st (st M66 79 (1200 * k + l) (-1)) 67 k (st M66 79 (1200 * k + l) (-1) 67 k + 1))))) := by
  have hgk : ∀ {β : Type} (q : Option β), gd (nI k) 2 q = q := fun q => gd_nI hk (by decide)
  have hgl : ∀ {β : Type} (q : Option β), gd (nI (1200 * k + l)) 2400 q = q := fun q => gd_nI (by omega) (by decide)
  have hga : ∀ {β : Type} (q : Option β), gd (nI a) 7 q = q := fun q => gd_nI (by omega) (by decide)
  have hgc : ∀ {β : Type} (q : Option β), gd (nI (7 * a + c)) 49 q = q := fun q => gd_nI (by omega) (by decide)
  have hcl : (nI (1200 * k + l)).toNatClampNeg = 1200 * k + l := nI_clamp (by omega)
  have key : ∀ v24 : Int32, ((if (5 : Int32) ≤ nI l then (0 : Int32) else (if ((N 56 10 >>> (nI l &&& 31)) &&& (1 : Int32)) = 1 then 1 else 0)) = v24) → fX7_send (nI k) (nI t) (nI a) (nI c) N = (zDbl (nI (1200 * k + l)) (sN k l a c t N)).bind (un1 fun (M31 : Mem) => (eLp (nI l) (nI (1200 * k + l)) v24 M31).bind (un2 fun (v65 : Int32) (M66 : Mem) => if v65 = 0 then (some M66) else (some (st (st M66 79 (1200 * k + l) (-1)) 67 k (st M66 79 (1200 * k + l) (-1) 67 k + 1))))) := by
    intro v24 hv
    unfold fX7_send sN hsv zDbl eLp
    simp only [nm, hgk, hgl, hga, nI_clamp (show k < 2 ^ 31 by omega), nI_clamp (show a < 2 ^ 31 by omega), h66, nI_1, mul1200, hcl, mul7, hgc, nI_clamp (show 7 * a + c < 2 ^ 31 by omega), st_c _ _ _ (show 57 ≠ 76 by decide), st_c _ _ _ (show 57 ≠ 75 by decide), st_c _ _ _ (show 57 ≠ 74 by decide), st_c _ _ _ (show 57 ≠ 66 by decide), st_c _ _ _ (show 82 ≠ 76 by decide), st_c _ _ _ (show 82 ≠ 75 by decide), st_c _ _ _ (show 82 ≠ 74 by decide), st_c _ _ _ (show 82 ≠ 66 by decide), st_c _ _ _ (show 83 ≠ 77 by decide), st_c _ _ _ (show 83 ≠ 76 by decide), st_c _ _ _ (show 83 ≠ 75 by decide), st_c _ _ _ (show 83 ≠ 74 by decide), st_c _ _ _ (show 83 ≠ 66 by decide), st_c _ _ _ (show 58 ≠ 80 by decide), st_c _ _ _ (show 58 ≠ 78 by decide), st_c _ _ _ (show 58 ≠ 77 by decide), st_c _ _ _ (show 58 ≠ 76 by decide), st_c _ _ _ (show 58 ≠ 75 by decide), st_c _ _ _ (show 58 ≠ 74 by decide), st_c _ _ _ (show 58 ≠ 66 by decide), st_c _ _ _ (show 56 ≠ 79 by decide), st_c _ _ _ (show 56 ≠ 80 by decide), st_c _ _ _ (show 56 ≠ 78 by decide), st_c _ _ _ (show 56 ≠ 77 by decide), st_c _ _ _ (show 56 ≠ 76 by decide), st_c _ _ _ (show 56 ≠ 75 by decide), st_c _ _ _ (show 56 ≠ 74 by decide), st_c _ _ _ (show 56 ≠ 66 by decide)]
    by_cases h3 : N 57 a = 3
    · simp only [if_pos h3]
      by_cases h5 : (5 : Int32) ≤ nI l
      · rw [if_pos h5] at hv; subst hv
        simp only [if_pos h5]
      · rw [if_neg h5] at hv
        by_cases h6 : ((N 56 10 >>> (nI l &&& 31)) &&& (1 : Int32)) = 1
        · rw [if_pos h6] at hv; subst hv
          simp only [if_neg h5, if_pos h6]
        · rw [if_neg h6] at hv; subst hv
          simp only [if_neg h5, if_neg h6]
    · simp only [if_neg h3]
      by_cases h7 : N 57 a = 1
      · simp only [if_pos h7]
        by_cases h5 : (5 : Int32) ≤ nI l
        · rw [if_pos h5] at hv; subst hv
          simp only [if_pos h5]
        · rw [if_neg h5] at hv
          by_cases h6 : ((N 56 10 >>> (nI l &&& 31)) &&& (1 : Int32)) = 1
          · rw [if_pos h6] at hv; subst hv
            simp only [if_neg h5, if_pos h6]
          · rw [if_neg h6] at hv; subst hv
            simp only [if_neg h5, if_neg h6]
      · simp only [if_neg h7]
        by_cases h5 : (5 : Int32) ≤ nI l
        · rw [if_pos h5] at hv; subst hv
          simp only [if_pos h5]
        · rw [if_neg h5] at hv
          by_cases h6 : ((N 56 10 >>> (nI l &&& 31)) &&& (1 : Int32)) = 1
          · rw [if_pos h6] at hv; subst hv
            simp only [if_neg h5, if_pos h6]
          · rw [if_neg h6] at hv; subst hv
            simp only [if_neg h5, if_neg h6]
  rcases Nat.lt_or_ge l 5 with h | h
  · have h5 : ¬ (5 : Int32) ≤ nI l := nI_ge h (by decide)
    rcases and1 (N 56 10 >>> (nI l &&& 31)) with h6 | h6
    · exact ⟨0, Or.inr ⟨rfl, fun h7 => h7.2 h6⟩, key 0 (by rw [if_neg h5, if_neg (by rw [h6]; decide)])⟩
    · exact ⟨1, Or.inl ⟨rfl, h, by rw [h6]; exact b1⟩, key 1 (by rw [if_neg h5, if_pos h6])⟩
  · have h5 : (5 : Int32) ≤ nI l := nI_le h (by omega)
    exact ⟨0, Or.inr ⟨rfl, fun h7 => by have := h7.1; omega⟩, key 0 (by rw [if_pos h5])⟩
