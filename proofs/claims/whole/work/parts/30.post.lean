/-! ===== a letter is posted ===== -/
def evq (M : Mem) (kd l e : Nat) : Bool := decide (M 10 e = 0 ∧ M 6 e = nI kd ∧ M 8 e = nI l)
def lat (M : Mem) (l : Nat) : Nat → Nat
  | 0 => 0
  | e + 1 => lat M l e + (if evq M 6 l e then (M 9 e).toNatClampNeg else 0)
theorem lat_s (M : Mem) (l e : Nat) : lat M l (e + 1) = lat M l e + (if evq M 6 l e then (M 9 e).toNatClampNeg else 0) := rfl
theorem cnt_s (p : Nat → Bool) (e : Nat) : cnt p (e + 1) = cnt p e + (if p e then 1 else 0) := rfl
def dbq (M : Mem) (l F v e : Nat) : Bool := evq M 5 l e && decide (F + (M 9 e).toNatClampNeg = v)
theorem p_does {M : Mem} {e kd l : Nat} (he : e < 20) : fX5_does (nI e) (nI kd) (nI l) M = some (if evq M kd l e then 1 else 0) := by
  unfold fX5_does
  rw [gd_nI he (by decide), gd_nI he (by decide), gd_nI he (by decide), nI_clamp (by omega)]
  unfold evq
  by_cases c1 : M 10 e = 0
  · by_cases c2 : M 6 e = nI kd
    · by_cases c3 : M 8 e = nI l
      · simp [c1, c2, c3]
      · simp [c1, c2, c3]
    · simp [c1, c2]
  · simp [c1]
theorem cnt_zero {p : Nat → Bool} : ∀ {n : Nat}, (∀ e, e < n → p e = false) → cnt p n = 0
  | 0, _ => rfl
  | n + 1, h => by
    unfold cnt
    rw [cnt_zero (fun e he => h e (by omega)), h n (by omega)]
    rfl
theorem cnt_mono {p : Nat → Bool} {a b : Nat} (h : a ≤ b) : cnt p a ≤ cnt p b := by
  induction b with
  | zero => have : a = 0 := by omega
            subst this; exact Nat.le_refl _
  | succ b ih =>
    rcases Nat.lt_or_ge b a with h1 | h1
    · have : a = b + 1 := by omega
      subst this; exact Nat.le_refl _
    · have := ih h1
      rw [cnt_s]; omega
theorem cnt_none {p : Nat → Bool} {n : Nat} (h : cnt p n = 0) : ∀ e, e < n → p e = false := by
  intro e he
  cases hp : p e with
  | false => rfl
  | true => have := cnt_pos he hp; omega
theorem p_loses {M : Mem} {ne l : Nat} (h5 : M 5 0 = nI ne) (hne : ne ≤ 20) : fX5_loses (nI l) M = some (if 0 < cnt (evq M 4 l) ne then 1 else 0) := by
  obtain ⟨b, e1, e2⟩ := loop_gen (f := un1 fun (v1 : Int32) => (if (M 5 0) ≤ v1 then (some (.inr (.inr ()))) else ((fX5_does v1 (4 : Int32) (nI l) M).bind (fun (r3 : Int32) => if r3 = 0 then (nm (v1 + (1 : Int32)) fun (v6 : Int32) => some (.inl v6)) else (some (.inr (.inl (1 : Int32)))))) : Option ((Int32) ⊕ ((Int32) ⊕ (Unit)))))
    (P := fun m s => ∃ i, i + m = ne ∧ s = nI i ∧ cnt (evq M 4 l) i = 0) (Q := fun b => b = if 0 < cnt (evq M 4 l) ne then .inl 1 else .inr ())
    (by
      rintro m s ⟨i, hi, rfl, hc⟩
      have hd : fX5_does (nI i) 4 (nI l) M = some (if evq M 4 l i then 1 else 0) := p_does (kd := 4) (by omega)
      simp only [un1, h5, if_neg (nI_ge (show i < ne by omega) (show ne < 2 ^ 31 by omega)), hd, Option.bind_some]
      by_cases c : evq M 4 l i
      · right
        simp only [if_pos c, if_neg b1]
        exact ⟨_, rfl, by rw [if_pos (cnt_pos (show i < ne by omega) c)]⟩
      · left
        simp only [if_neg c, if_pos rfl, nm, nI_1]
        refine ⟨_, rfl, i + 1, by omega, rfl, ?_⟩
        unfold cnt
        rw [hc, if_neg c])
    (by
      rintro s ⟨i, hi, rfl, hc⟩
      have hin : i = ne := by omega
      subst hin
      simp only [un1, h5, if_pos (nI_le (Nat.le_refl i) (show i < 2 ^ 31 by omega))]
      exact ⟨_, rfl, by rw [if_neg (by omega)]⟩) fu ne 0 (by unfold fu; omega) ⟨0, by omega, rfl, rfl⟩
  unfold fX5_loses
  rw [e1, e2]
  by_cases c : 0 < cnt (evq M 4 l) ne
  · rw [if_pos c, if_pos c]; rfl
  · rw [if_neg c, if_neg c]; rfl
theorem p_late {M : Mem} {n ne l : Nat} (h5 : M 5 0 = nI ne) (hne : ne ≤ 20) (hok : ∀ e, e < ne → EvOK n (M 6 e) (M 7 e) (M 8 e) (M 9 e)) : fX5_lateness (nI l) M = some (nI (lat M l ne)) := by
  unfold fX5_lateness
  rw [bnd1]
  obtain ⟨b, e1, e2⟩ := loop_one (f := un2 fun (v1 : Int32) (v2 : Int32) => (if (M 5 0) ≤ v2 then (some (.inr v1)) else ((fX5_does v2 (6 : Int32) (nI l) M).bind (fun (r4 : Int32) => nm (fun (v6 : Int32) => nm (v2 + (1 : Int32)) fun (v7 : Int32) => some (.inl (v6, v7))) fun j32 => if r4 = 0 then (j32 v1) else (gd v2 20 (nm ((v1 + (M 9 (Int32.toNatClampNeg v2)))) fun (v10 : Int32) => j32 v10)))) : Option ((Int32 × Int32) ⊕ (Int32))))
    (P := fun i s => s = (nI (lat M l i), nI i)) (Q := fun b => b = nI (lat M l ne)) ne (by
      rintro i s hi rfl
      have hd : fX5_does (nI i) 6 (nI l) M = some (if evq M 6 l i then 1 else 0) := p_does (kd := 6) (by omega)
      obtain ⟨kk, ww, ff, ss, k1, k2, k3, k4, k5, k6, k7, k8, -⟩ := hok i hi
      simp only [un2, h5, if_neg (nI_ge hi (show ne < 2 ^ 31 by omega)), hd, Option.bind_some, nm, nI_1, gd_nI (show i < 20 by omega) (show 20 < 2 ^ 31 by decide), nI_clamp (show i < 2 ^ 31 by omega)]
      by_cases c : evq M 6 l i
      · simp only [if_pos c, if_neg b1]
        refine ⟨_, rfl, ?_⟩
        show (nI (lat M l i) + M 9 i, nI (i + 1)) = (nI (lat M l (i + 1)), nI (i + 1))
        rw [lat_s, if_pos c, k4, nI_clamp (show ss < 2 ^ 31 by omega), nI_add]
      · simp only [if_neg c, if_pos rfl]
        refine ⟨_, rfl, ?_⟩
        show (nI (lat M l i), nI (i + 1)) = (nI (lat M l (i + 1)), nI (i + 1))
        rw [lat_s, if_neg c]; rfl) (by
      rintro s rfl
      simp only [un2, h5, if_pos (nI_le (Nat.le_refl ne) (show ne < 2 ^ 31 by omega))]
      exact ⟨_, rfl, rfl⟩) fu 0 (0, 0) (by unfold fu; omega) (by omega) rfl
  rw [e1, e2]
theorem lat_le {M : Mem} {n l : Nat} : ∀ {ne : Nat}, (∀ e, e < ne → EvOK n (M 6 e) (M 7 e) (M 8 e) (M 9 e)) → lat M l ne ≤ 5 * ne
  | 0, _ => Nat.le_refl 0
  | ne + 1, h => by
    have ih := lat_le (M := M) (l := l) (ne := ne) (fun e he => h e (by omega))
    obtain ⟨kk, ww, ff, ss, k1, k2, k3, k4, k5, k6, k7, k8, -⟩ := h ne (by omega)
    rw [lat_s]
    by_cases c : evq M 6 l ne
    · rw [if_pos c, k4, nI_clamp (show ss < 2 ^ 31 by omega)]; omega
    · rw [if_neg c]; omega
theorem p_dbl {b n ne l F sz : Nat} {L : Nat → List Nat} {M : Mem} (hb : b = 12 ∨ b = 34) (h5 : M 5 0 = nI ne) (hne : ne ≤ 20) (hok : ∀ e, e < ne → EvOK n (M 6 e) (M 7 e) (M 8 e) (M 9 e)) (hF : F < 2 ^ 29) (hC : CL b sz L M) (hsz : sz + cnt (evq M 5 l) ne ≤ 1220) : ∃ M', fX4_postDoubles b (nI l) (nI F) M = some M' ∧ (∃ sz', sz' ≤ sz + cnt (evq M 5 l) ne ∧ CL b sz' (fun v => L v ++ List.replicate (cnt (dbq M l F v) ne) l) M') ∧ AdC b M M' := by
  unfold fX4_postDoubles
  rw [bnd1]
  refine loop_one (P := fun i (s : Int32 × Mem) => s.1 = nI i ∧ (∃ sz', sz' ≤ sz + cnt (evq M 5 l) i ∧ CL b sz' (fun v => L v ++ List.replicate (cnt (dbq M l F v) i) l) s.2) ∧ AdC b M s.2) (Q := fun (M' : Mem) => (∃ sz', sz' ≤ sz + cnt (evq M 5 l) ne ∧ CL b sz' (fun v => L v ++ List.replicate (cnt (dbq M l F v) ne) l) M') ∧ AdC b M M') ne ?_ ?_ fu 0 _ (by unfold fu; omega) (by omega) ⟨rfl, ⟨sz, by omega, by simpa [cnt] using hC⟩, fun _ _ _ _ _ _ => rfl⟩
  · rintro i ⟨v, M2⟩ hi ⟨hv, ⟨sz', hs, hL⟩, hA⟩
    have hv' : v = nI i := hv
    subst hv'
    dsimp only at hL hA
    have c5 : M2 5 = M 5 := hA 5 (by omega) (by omega) (by omega) (by omega) (by omega)
    have c6 : M2 6 = M 6 := hA 6 (by omega) (by omega) (by omega) (by omega) (by omega)
    have c8 : M2 8 = M 8 := hA 8 (by omega) (by omega) (by omega) (by omega) (by omega)
    have c9 : M2 9 = M 9 := hA 9 (by omega) (by omega) (by omega) (by omega) (by omega)
    have c10 : M2 10 = M 10 := hA 10 (by omega) (by omega) (by omega) (by omega) (by omega)
    have hd : fX5_does (nI i) 5 (nI l) M2 = some (if evq M 5 l i then 1 else 0) := by
      rw [show fX5_does (nI i) 5 (nI l) M2 = some (if evq M2 5 l i then 1 else 0) from p_does (kd := 5) (by omega)]
      unfold evq; rw [c6, c8, c10]
    obtain ⟨kk, ww, ff, ss, k1, k2, k3, k4, k5, k6, k7, k8, -⟩ := hok i hi
    have hm : (M 9 i).toNatClampNeg = ss := by rw [k4, nI_clamp (show ss < 2 ^ 31 by omega)]
    simp only [un2, c5, h5, if_neg (nI_ge hi (show ne < 2 ^ 31 by omega)), hd, Option.bind_some, nm, nI_1, gd_nI (show i < 20 by omega) (show 20 < 2 ^ 31 by decide), nI_clamp (show i < 2 ^ 31 by omega), c9, k4, nI_add]
    by_cases c : evq M 5 l i
    · simp only [if_pos c, if_neg b1]
      have hmon : cnt (evq M 5 l) i + 1 ≤ cnt (evq M 5 l) ne := by
        have h1 : cnt (evq M 5 l) (i + 1) = cnt (evq M 5 l) i + 1 := by rw [cnt_s, if_pos c]
        rw [← h1]
        exact cnt_mono (by omega)
      obtain ⟨M3, sz3, a1, a2, a3, a4⟩ := add_cl (l := l) (u := F + ss) hL (by omega) (by omega)
      rw [a1]
      simp only [Option.bind_some]
      refine ⟨_, rfl, rfl, ⟨sz3, by rw [cnt_s, if_pos c]; omega, ?_⟩, fun c a1 a2 a3 a4' a5 => (a4 c a1 a2 a3 a4' a5).trans (hA c a1 a2 a3 a4' a5)⟩
      have hfun : (fun v => L v ++ List.replicate (cnt (dbq M l F v) (i + 1)) l) = fun v => (L v ++ List.replicate (cnt (dbq M l F v) i) l) ++ (if F + ss = v then [l] else []) := by
        funext v
        rw [cnt_s, List.append_assoc]
        congr 1
        by_cases c2 : F + ss = v
        · rw [if_pos (show dbq M l F v i = true by simp [dbq, c, hm, c2]), if_pos c2]; exact List.replicate_succ'
        · rw [if_neg (show ¬ dbq M l F v i = true by simp [dbq, hm, c2]), if_neg c2, Nat.add_zero, List.append_nil]
      show CL b sz3 _ M3
      rw [hfun]
      exact a3
    · simp only [if_neg c, if_pos rfl]
      refine ⟨_, rfl, rfl, ⟨sz', by rw [cnt_s, if_neg c]; omega, ?_⟩, hA⟩
      have hfun : (fun v => L v ++ List.replicate (cnt (dbq M l F v) (i + 1)) l) = fun v => L v ++ List.replicate (cnt (dbq M l F v) i) l := by
        funext v
        rw [cnt_s, if_neg (show ¬ dbq M l F v i = true by simp [dbq, c]), Nat.add_zero]
      rw [hfun]
      exact hL
  · rintro ⟨v, M2⟩ ⟨hv, hL, hA⟩
    have hv' : v = nI ne := hv
    subst hv'
    dsimp only at hL hA
    have c5 : M2 5 = M 5 := hA 5 (by omega) (by omega) (by omega) (by omega) (by omega)
    simp only [un2, c5, h5, if_pos (nI_le (Nat.le_refl ne) (show ne < 2 ^ 31 by omega))]
    exact ⟨_, rfl, hL, hA⟩
theorem p_names {M : Mem} {ne l : Nat} (hl : l < 1200) (hne : ne ≤ 20) (hnam : iNam ne M) : fX5_names (nI l) M = some (if 0 < cnt (nmg M l) ne then 1 else 0) := by
  have hc := cnt_le (p := nmg M l) ne
  unfold fX5_names
  rw [show fX6_isLetter (nI l) = some 1 from vin_in (n := 1200) hl (by decide)]
  simp only [Option.bind_some, if_neg b1, gd_nI hl (show 1200 < 2 ^ 31 by decide), nI_clamp (show l < 2 ^ 31 by omega), hnam l hl]
  rcases Nat.eq_zero_or_pos (cnt (nmg M l) ne) with h | h
  · rw [h, if_pos (show nI 0 ≤ 0 by decide), if_neg (show ¬ 0 < 0 by omega)]
  · rw [if_neg (nI_nle h (by omega)), if_pos h]
theorem not_named {M : Mem} {ne l kd : Nat} (hk : kd = 4 ∨ kd = 5 ∨ kd = 6) (h : cnt (nmg M l) ne = 0) : ∀ e, e < ne → evq M kd l e = false := by
  intro e he
  have h1 := cnt_none h e he
  cases hq : evq M kd l e with
  | false => rfl
  | true =>
    exfalso
    simp only [evq, decide_eq_true_eq] at hq
    have : nmg M l e = true := by
      simp only [nmg, decide_eq_true_eq, hq.2.1, hq.2.2]
      refine ⟨?_, trivial⟩
      rcases hk with rfl | rfl | rfl <;> decide
    rw [this] at h1; cases h1
theorem lat_0 {M : Mem} {l : Nat} : ∀ {ne : Nat}, (∀ e, e < ne → evq M 6 l e = false) → lat M l ne = 0
  | 0, _ => rfl
  | ne + 1, h => by
    rw [lat_s, lat_0 (fun e he => h e (by omega)), h ne (by omega)]
    rfl
def aL (x : Int32) (l : Nat) : Prop := l < 5 ∧ ¬ ((x >>> (nI l &&& 31)) &&& (1 : Int32)) = 0
theorem p_also {b l : Nat} {M : Mem} (hl : l < 1200) : (fX4_isAlsoLost b (nI l) M = some 1 ∧ aL (M b 12) l) ∨ (fX4_isAlsoLost b (nI l) M = some 0 ∧ ¬ aL (M b 12) l) := by
  unfold fX4_isAlsoLost aL
  rcases Nat.lt_or_ge l 5 with h | h
  · rw [if_neg (show ¬ (5 : Int32) ≤ nI l from nI_ge h (by decide))]
    by_cases c : ((M b 12 >>> (nI l &&& 31)) &&& (1 : Int32)) = 0
    · rw [if_pos c]; exact Or.inr ⟨rfl, fun h2 => h2.2 c⟩
    · rw [if_neg c]; exact Or.inl ⟨rfl, h, c⟩
  · rw [if_pos (show (5 : Int32) ≤ nI l from nI_le h (by omega))]
    exact Or.inr ⟨rfl, fun h2 => by omega⟩
/-- a letter is posted: lost, or it comes first at F, and its doubles behind -/
theorem p_post {b n ne l due sz : Nat} {L : Nat → List Nat} {M : Mem} (hb : b = 12 ∨ b = 34) (hl : l < 1200) (hhas : M (b + 12) 0 = nI (l + 1)) (h5 : M 5 0 = nI ne) (hne : ne ≤ 20) (hok : ∀ e, e < ne → EvOK n (M 6 e) (M 7 e) (M 8 e) (M 9 e)) (hnam : iNam ne M) (hdue : due < 1000) (hC : CL b sz L M) (hsz : sz + 1 + cnt (evq M 5 l) ne ≤ 1220) : ∃ M', fX4_post b (nI l) (nI due) M = some M' ∧ (((aL (M b 12) l ∨ 0 < cnt (evq M 4 l) ne) ∧ M' = st M (b + 12) 1 (M (b + 12) 1 + 1)) ∨ (¬ (aL (M b 12) l ∨ 0 < cnt (evq M 4 l) ne) ∧ (∃ sz', sz' ≤ sz + 1 + cnt (evq M 5 l) ne ∧ CL b sz' (fun v => L v ++ ((if due + lat M l ne = v then [l] else []) ++ List.replicate (cnt (dbq M l (due + lat M l ne) v) ne) l)) M') ∧ (∀ c, c ≠ b + 1 → c ≠ b + 2 → c ≠ b + 3 → c ≠ b + 4 → c ≠ b + 5 → c ≠ b + 18 → M' c = M c) ∧ ∀ i, M' (b + 18) i = if i = l then nI (due + lat M l ne) else M (b + 18) i)) := by
  have hlat := lat_le (M := M) (l := l) hok
  obtain ⟨F, hF⟩ : ∃ F, F = due + lat M l ne := ⟨_, rfl⟩
  have hlost : ∃ M', (some (st M (b + 12) 1 (M (b + 12) 1 + 1)) : Option Mem) = some M' ∧ M' = st M (b + 12) 1 (M (b + 12) 1 + 1) := ⟨_, rfl, rfl⟩
  have hCL2 : CL b sz L (st M (b + 18) l (nI F)) := by
    obtain ⟨own, lt, ⟨c1, c2, c3, c4, c5, c6⟩, hL⟩ := hC
    refine ⟨own, lt, ⟨?_, ?_, ?_, ?_, ?_, c6⟩, hL⟩
    · rw [st_c _ _ _ (show b + 1 ≠ b + 18 by omega)]; exact c1
    · rw [st_c _ _ _ (show b + 2 ≠ b + 18 by omega)]; exact c2
    · rw [st_c _ _ _ (show b + 4 ≠ b + 18 by omega)]; exact c3
    · rw [st_c _ _ _ (show b + 5 ≠ b + 18 by omega)]; exact c4
    · rw [st_c _ _ _ (show b + 3 ≠ b + 18 by omega)]; exact c5
  unfold fX4_post
  rw [p_1has b _ hhas, vin_in (show l < l + 1 by omega) (by omega)]
  simp only [Option.bind_some, if_neg b1, p_names hl hne hnam, nm, gd_nI hl (show 1200 < 2 ^ 31 by decide), nI_clamp (show l < 2 ^ 31 by omega), p_loses h5 hne, p_late h5 hne hok]
  rcases p_also (b := b) (M := M) hl with ⟨q1, q2⟩ | ⟨q1, q2⟩
  · rw [q1]
    simp only [Option.bind_some, if_neg b1]
    exact ⟨_, rfl, Or.inl ⟨Or.inl q2, rfl⟩⟩
  · rw [q1]
    simp only [Option.bind_some, if_pos rfl]
    obtain ⟨M1, sz1, a1, a2, a3, a4⟩ := add_cl (l := l) (u := F) hCL2 (by omega) (by omega)
    have e18 : ∀ i, M1 (b + 18) i = if i = l then nI F else M (b + 18) i := fun i => by
      rw [a4 (b + 18) (by omega) (by omega) (by omega) (by omega) (by omega)]
      by_cases e : i = l
      · subst e; rw [st_cc, if_pos rfl]
      · rw [st_ck _ _ e, if_neg e]
    have hfr : ∀ c, c ≠ b + 1 → c ≠ b + 2 → c ≠ b + 3 → c ≠ b + 4 → c ≠ b + 5 → c ≠ b + 18 → M1 c = M c := fun c c1 c2 c3 c4 c5 c6 => by rw [a4 c c1 c2 c3 c4 c5, st_c _ _ _ c6]
    rcases Nat.eq_zero_or_pos (cnt (nmg M l) ne) with hz | hz
    · rw [if_neg (show ¬ 0 < cnt (nmg M l) ne by omega)]
      simp only [if_pos rfl]
      have z4 := cnt_zero (not_named (kd := 4) (Or.inl rfl) hz)
      have z5 := cnt_zero (not_named (kd := 5) (Or.inr (Or.inl rfl)) hz)
      have z6 := lat_0 (not_named (kd := 6) (Or.inr (Or.inr rfl)) hz)
      have hFd : F = due := by rw [hF, z6, Nat.add_zero]
      have zd : ∀ v, cnt (dbq M l F v) ne = 0 := fun v => cnt_zero (fun e he => by simp [dbq, not_named (kd := 5) (Or.inr (Or.inl rfl)) hz e he])
      rw [hFd] at a1 e18 hCL2
      rw [a1]
      refine ⟨M1, rfl, Or.inr ⟨fun h => ?_, ⟨sz1, by omega, ?_⟩, hfr, ?_⟩⟩
      · rcases h with h | h
        · exact q2 h
        · omega
      · rw [← hF]
        have hfun : (fun v => L v ++ ((if F = v then [l] else []) ++ List.replicate (cnt (dbq M l F v) ne) l)) = fun v => L v ++ (if F = v then [l] else []) := by
          funext v; rw [zd v]; simp
        rw [hfun]; exact a3
      · rw [← hF, hFd]; exact e18
    · rw [if_pos hz]
      simp only [if_neg b1]
      by_cases hc4 : 0 < cnt (evq M 4 l) ne
      · rw [if_pos hc4]
        simp only [if_neg b1]
        exact ⟨_, rfl, Or.inl ⟨Or.inr hc4, rfl⟩⟩
      · rw [if_neg hc4]
        simp only [if_pos rfl, nI_add, ← hF]
        rw [a1]
        simp only [Option.bind_some]
        have m5 : ∀ c, c < 12 → M1 c = M c := fun c hc => hfr c (by omega) (by omega) (by omega) (by omega) (by omega) (by omega)
        have ev1 : ∀ kd, evq M1 kd l = evq M kd l := fun kd => by funext e; unfold evq; rw [m5 6 (by decide), m5 8 (by decide), m5 10 (by decide)]
        obtain ⟨M2, d1, ⟨sz2, d2, d3⟩, d4⟩ := p_dbl (b := b) (n := n) (ne := ne) (l := l) (F := F) hb (by rw [m5 5 (by decide)]; exact h5) hne (fun e he => by rw [m5 6 (by decide), m5 7 (by decide), m5 8 (by decide), m5 9 (by decide)]; exact hok e he) (by omega) a3 (by rw [ev1]; omega)
        rw [d1]
        refine ⟨M2, rfl, Or.inr ⟨fun h => ?_, ⟨sz2, by rw [ev1] at d2; omega, ?_⟩, fun c c1 c2 c3 c4 c5 c6 => (d4 c c1 c2 c3 c4 c5).trans (hfr c c1 c2 c3 c4 c5 c6), fun i => by rw [d4 (b + 18) (by omega) (by omega) (by omega) (by omega) (by omega)]; exact e18 i⟩⟩
        · rcases h with h | h
          · exact q2 h
          · exact hc4 h
        · have hfun : (fun v => L v ++ ((if F = v then [l] else []) ++ List.replicate (cnt (dbq M l F v) ne) l)) = fun v => (L v ++ (if F = v then [l] else [])) ++ List.replicate (cnt (dbq M1 l F v) ne) l := by
            funext v
            have hd : dbq M1 l F v = dbq M l F v := by funext e; unfold dbq; rw [ev1, m5 9 (by decide)]
            rw [hd, List.append_assoc]
          rw [hfun]; exact d3
