theorem p_ladd {b l : Nat} {x1 x2 x3 x4 x5 : Int32} {M : Mem} (h : M (b + 12) 0 = nI l) (hl : l < 1200) : ∃ M1, fX1_add b x1 x2 x3 x4 x5 M = some (nI l, M1) ∧ (∀ c, ¬ (b + 12 ≤ c ∧ c ≤ b + 19) → M1 c = M c) ∧ M1 (b + 12) 0 = nI (l + 1) ∧ M1 (b + 12) 1 = M (b + 12) 1 ∧ M1 (b + 13) = upd (M (b + 13)) l x1 ∧ M1 (b + 14) = upd (M (b + 14)) l x2 ∧ M1 (b + 15) = upd (M (b + 15)) l x3 ∧ M1 (b + 16) = upd (M (b + 16)) l x4 ∧ M1 (b + 17) = upd (M (b + 17)) l x5 ∧ M1 (b + 18) = upd (M (b + 18)) l (-1) ∧ M1 (b + 19) = upd (M (b + 19)) l 0 := by
  obtain ⟨S, hS⟩ : ∃ S, S = st (st (st (st (st (st (st (st M (b + 13) l x1) (b + 14) l x2) (b + 15) l x3) (b + 16) l x4) (b + 17) l x5) (b + 18) l (-1)) (b + 19) l 0) (b + 12) 0 (nI (l + 1)) := ⟨_, rfl⟩
  have hg : ∀ {β : Type} (q : Option β), gd (nI l) 1200 q = q := fun q => gd_nI hl (by decide)
  refine ⟨S, ?_, fun c hc => ?_, by rw [hS, st_cc], ?_, ?_, ?_, ?_, ?_, ?_, ?_, ?_⟩
  · unfold fX1_add
    simp only [nm, h, hg, nI_clamp (show l < 2 ^ 31 by omega), if_pos (show nI l < 1200 from nI_lt hl (by decide)), st_c _ _ _ (show b + 12 ≠ b + 13 by omega), st_c _ _ _ (show b + 12 ≠ b + 14 by omega), st_c _ _ _ (show b + 12 ≠ b + 15 by omega), st_c _ _ _ (show b + 12 ≠ b + 16 by omega), st_c _ _ _ (show b + 12 ≠ b + 17 by omega), st_c _ _ _ (show b + 12 ≠ b + 18 by omega), st_c _ _ _ (show b + 12 ≠ b + 19 by omega), nI_1, ← hS]
  · rw [hS, st_c _ _ _ (by omega), st_c _ _ _ (by omega), st_c _ _ _ (by omega), st_c _ _ _ (by omega), st_c _ _ _ (by omega), st_c _ _ _ (by omega), st_c _ _ _ (by omega), st_c _ _ _ (by omega)]
  · rw [hS]; simp [st, va_up, upd]
  · rw [hS]; simp [st, va_up]
  · rw [hS]; simp [st, va_up]
  · rw [hS]; simp [st, va_up]
  · rw [hS]; simp [st, va_up]
  · rw [hS]; simp [st, va_up]
  · rw [hS]; simp [st, va_up]
  · rw [hS]; simp [st, va_up]
theorem lst_congr {f g : Nat → Nat} : ∀ {nl : Nat}, (∀ j, j < nl → f j = g j) → lst f nl = lst g nl
  | 0, _ => rfl
  | nl + 1, h => by
    show lst f nl ++ _ = lst g nl ++ _
    rw [lst_congr (fun j hj => h j (by omega)), h nl (by omega)]
theorem lst_lt {f : Nat → Nat} : ∀ {nl x : Nat}, x ∈ lst f nl → x < nl
  | 0, x, h => by cases h
  | nl + 1, x, h => by
    rcases List.mem_append.mp h with h1 | h1
    · have := lst_lt h1; omega
    · have := List.eq_of_mem_replicate h1; omega
theorem nod_mem {own : Nat → Nat} : ∀ {sz q : Nat}, q < sz → q ∈ nod own (own q) sz
  | 0, q, h => by omega
  | sz + 1, q, h => by
    show q ∈ nod own (own q) sz ++ _
    rcases Nat.lt_or_ge q sz with h1 | h1
    · exact List.mem_append_left _ (nod_mem h1)
    · have : q = sz := by omega
      subst this
      rw [if_pos rfl]
      exact List.mem_append_right _ (by simp)
def CRL (b k nl sz : Nat) (cm : Nat → Option Nat) (dd : Nat → Nat → Nat) (M N : Mem) : Prop := CL b sz (fun u => lst (tmf cm dd u) nl) M ∧ (∀ j, j < nl → N 79 (1200 * k + j) = cmI (cm j) ∧ ∀ c, cm j = some c → c < 1000) ∧ ∀ j i, j < nl → 1 ≤ i → i < 6 → N 81 (6 * (1200 * k + j) + i) = nI (dd j i) ∧ dd j i ≤ 20
theorem CRL.cr {b k nl sz : Nat} {cm : Nat → Option Nat} {dd : Nat → Nat → Nat} {M N : Mem} (h : CRL b k nl sz cm dd M N) : ∃ own lt, CR b k nl sz own lt cm dd M N := by
  obtain ⟨⟨own, lt, ⟨c1, c2, c3, c4, c5, c6⟩, hL⟩, h2, h3⟩ := h
  refine ⟨own, lt, c1, fun q hq => ⟨c2 q hq, ?_⟩, c3, c4, c5, h2, h3, hL⟩
  have h4 : lt q ∈ (nod own (own q) sz).map lt := List.mem_map_of_mem (nod_mem hq)
  rw [hL (own q) (c6 q hq)] at h4
  exact lst_lt h4
theorem CL_congr {b sz : Nat} {L : Nat → List Nat} {M M' : Mem} (h : CL b sz L M) (e1 : M' (b + 1) = M (b + 1)) (e2 : M' (b + 2) = M (b + 2)) (e3 : M' (b + 3) = M (b + 3)) (e4 : M' (b + 4) = M (b + 4)) (e5 : M' (b + 5) = M (b + 5)) : CL b sz L M' := by
  unfold CL CH at *
  rw [e1, e2, e3, e4, e5]
  exact h
def e5l (M : Mem) (nl e : Nat) : Bool := decide (M 10 e = 0 ∧ M 6 e = nI 5 ∧ (M 8 e).toNatClampNeg < nl)
theorem cnt_split {p q r : Nat → Bool} : ∀ {n : Nat}, (∀ e, e < n → p e = (q e || r e)) → (∀ e, e < n → q e = true → r e = true → False) → cnt p n = cnt q n + cnt r n
  | 0, _, _ => rfl
  | n + 1, h1, h2 => by
    rw [cnt_s, cnt_s, cnt_s, cnt_split (fun e he => h1 e (by omega)) (fun e he => h2 e (by omega)), h1 n (by omega)]
    have := h2 n (by omega)
    cases hq : q n <;> cases hr : r n <;> simp_all <;> omega
theorem e5_step {M : Mem} {n ne nl : Nat} (hok : ∀ e, e < ne → EvOK n (M 6 e) (M 7 e) (M 8 e) (M 9 e)) (hnl : nl < 1200) : cnt (e5l M (nl + 1)) ne = cnt (e5l M nl) ne + cnt (evq M 5 nl) ne := by
  apply cnt_split
  · intro e he
    obtain ⟨kk, ww, ff, ss, k1, k2, k3, k4, k5, k6, k7, -⟩ := hok e he
    have hm : (M 8 e).toNatClampNeg = ff := by rw [k3, nI_clamp (by omega)]
    have hi : (M 8 e = nI nl) ↔ ff = nl := by rw [k3]; exact nI_eq (by omega) (by omega)
    unfold e5l evq
    rw [hm]
    by_cases c1 : M 10 e = 0 <;> by_cases c2 : M 6 e = nI 5 <;> simp [c1, c2, hi]
    by_cases c3 : ff = nl
    · simp [c3]
    · simp only [c3, decide_false, Bool.or_false]
      by_cases c4 : ff < nl
      · simp [c4]; omega
      · simp [c4]; omega
  · intro e he h1 h2
    obtain ⟨kk, ww, ff, ss, k1, k2, k3, k4, k5, k6, k7, -⟩ := hok e he
    have hm : (M 8 e).toNatClampNeg = ff := by rw [k3, nI_clamp (by omega)]
    simp only [e5l, evq, decide_eq_true_eq] at h1 h2
    have := h2.2.2
    rw [k3] at this
    have := (nI_eq (a := ff) (b := nl) (by omega) (by omega)).mp this
    rw [hm] at h1
    omega
/-- settings, schedule and letters of a play that goes on -/
def SR (b k n ne nl : Nat) (M N : Mem) : Prop := PR b k n nl M N ∧ nl ≤ 1200 ∧ ∃ sz cm dd, CRL b k nl sz cm dd M N ∧ sz ≤ nl + cnt (e5l M nl) ne
def Cfg2 (b n ne : Nat) (M N : Mem) : Prop := iN n M N ∧ iBeh n M N ∧ iDel n M N ∧ (∃ ne', EvS n ne ne' M N) ∧ M b 12 = N 56 10
/-- the reference's schedule, read as the class's would be -/
def vM (N : Mem) : Mem := fun c => if c = 6 then N 60 else if c = 7 then N 61 else if c = 8 then N 62 else if c = 9 then N 63 else N 64
theorem Sub.cnt {M N : Mem} {ne ne' : Nat} {p q : Nat → Bool} (h : Sub M N 0 0 ne ne') (h1 : ∀ e, ¬ M 10 e = 0 → p e = false) (h2 : ∀ e e', evm M N e e' → p e = q e') : cnt q ne' = cnt p ne := by
  induction h using Sub.ind with
  | nil => rfl
  | skip g1 g2 ih => rw [cnt_s, h1 _ g2, ih]; rfl
  | both g1 g2 ih => rw [cnt_s, cnt_s, h2 _ _ g2, ih]
theorem evq_vM {M N : Mem} {kd l e e' : Nat} (h : evm M N e e') : evq M kd l e = evq (vM N) kd l e' := by
  obtain ⟨m1, m2, m3, m4, m5⟩ := h
  unfold evq
  rw [m1, m3, m5]; rfl
theorem evq_fl {M : Mem} {kd l e : Nat} (h : ¬ M 10 e = 0) : evq M kd l e = false := decide_eq_false fun g => h g.1
theorem Sub.lat {M N : Mem} {ne ne' l : Nat} (h : Sub M N 0 0 ne ne') : lat (vM N) l ne' = lat M l ne := by
  induction h using Sub.ind with
  | nil => rfl
  | skip g1 g2 ih => rw [lat_s, evq_fl g2, ih]; rfl
  | both g1 g2 ih => rw [lat_s, lat_s, evq_vM g2, ih, g2.2.2.2.1]; rfl
theorem EvS.rel {n ne ne' : Nat} {M N : Mem} (h : EvS n ne ne' M N) : evRel n ne' (vM N) N := by
  obtain ⟨h1, h2, h3, h4, h5, h6, h7⟩ := h
  refine ⟨h4, by omega, fun e he => ⟨rfl, rfl, rfl, rfl, ?_⟩⟩
  obtain ⟨j, -, j2, m1, m2, m3, m4, m5⟩ := h6.ex e (Nat.zero_le e) he
  show EvOK n (N 60 e) (N 61 e) (N 62 e) (N 63 e)
  rw [← m1, ← m2, ← m3, ← m4]
  exact h3 j j2
theorem EvS.c4 {n ne ne' l : Nat} {M N : Mem} (h : EvS n ne ne' M N) : cnt (evq (vM N) 4 l) ne' = cnt (evq M 4 l) ne := h.2.2.2.2.2.1.cnt (fun _ g => evq_fl g) (fun _ _ g => evq_vM g)
theorem EvS.c5 {n ne ne' l j : Nat} {M N : Mem} (h : EvS n ne ne' M N) : cnt (d5 (vM N) l j) ne' = cnt (d5 M l j) ne := h.2.2.2.2.2.1.cnt (fun _ g => by unfold d5; rw [evq_fl g]; rfl) (fun e e' g => by unfold d5; rw [evq_vM g, g.2.2.2.1]; rfl)
theorem EvS.cl {n ne ne' l : Nat} {M N : Mem} (h : EvS n ne ne' M N) : lat (vM N) l ne' = lat M l ne := h.2.2.2.2.2.1.lat
theorem dbl_cnt {M : Mem} {n ne l F v : Nat} (hok : ∀ e, e < ne → EvOK n (M 6 e) (M 7 e) (M 8 e) (M 9 e)) : ((if F = v then [l] else []) ++ List.replicate (cnt (dbq M l F v) ne) l) = List.replicate (if v = F then 1 else if F < v ∧ v ≤ F + 5 then cnt (d5 M l (v - F)) ne else 0) l := by
  have hs : ∀ e, e < ne → evq M 5 l e = true → 1 ≤ (M 9 e).toNatClampNeg ∧ (M 9 e).toNatClampNeg ≤ 5 := by
    intro e he hq
    obtain ⟨kk, ww, ff, ss, k1, k2, k3, k4, k5, k6, k7, k8, k9, k10⟩ := hok e he
    simp only [evq, decide_eq_true_eq] at hq
    have h1 := hq.2.1
    rw [k1] at h1
    have h2 := (nI_eq (a := kk) (b := 5) (by omega) (by decide)).mp h1
    rw [k4, nI_clamp (by omega)]
    exact ⟨k10 (Or.inl h2), k8⟩
  by_cases c : v = F
  · subst c
    rw [if_pos rfl, if_pos rfl, cnt_zero]
    · rfl
    · intro e he
      cases hq : evq M 5 l e with
      | false => simp [dbq, hq]
      | true =>
        have := hs e he hq
        simp only [dbq, hq, Bool.true_and]
        exact decide_eq_false (by omega)
  · rw [if_neg (Ne.symm c), if_neg c, List.nil_append]
    congr 1
    by_cases c2 : F < v ∧ v ≤ F + 5
    · rw [if_pos c2]
      apply cnt_congr
      intro e he
      unfold dbq d5
      congr 1
      exact decide_eq_decide.mpr (by omega)
    · rw [if_neg c2]
      apply cnt_zero
      intro e he
      cases hq : evq M 5 l e with
      | false => simp [dbq, hq]
      | true =>
        have := hs e he hq
        simp only [dbq, hq, Bool.true_and]
        exact decide_eq_false (by omega)
theorem evq_congr {M M1 : Mem} (h6 : M1 6 = M 6) (h8 : M1 8 = M 8) (h10 : M1 10 = M 10) (kd l : Nat) : evq M1 kd l = evq M kd l := by
  funext e; unfold evq; rw [h6, h8, h10]
theorem lat_congr {M M1 : Mem} (h6 : M1 6 = M 6) (h8 : M1 8 = M 8) (h9 : M1 9 = M 9) (h10 : M1 10 = M 10) (l : Nat) : ∀ n, lat M1 l n = lat M l n
  | 0 => rfl
  | n + 1 => by rw [lat_s, lat_s, lat_congr h6 h8 h9 h10 l n, evq_congr h6 h8 h10, h9]
theorem dbq_congr {M M1 : Mem} (h6 : M1 6 = M 6) (h8 : M1 8 = M 8) (h9 : M1 9 = M 9) (h10 : M1 10 = M 10) (l F v : Nat) : dbq M1 l F v = dbq M l F v := by
  funext e; unfold dbq; rw [evq_congr h6 h8 h10, h9]
theorem e5l_congr {M M1 : Mem} (h6 : M1 6 = M 6) (h8 : M1 8 = M 8) (h10 : M1 10 = M 10) (nl : Nat) : e5l M1 nl = e5l M nl := by
  funext e; unfold e5l; rw [h6, h8, h10]
theorem d5_le {M : Mem} {l j ne : Nat} : cnt (d5 M l j) ne ≤ ne := cnt_le ne
def ExCL (b B : Nat) (L : Nat → List Nat) (M : Mem) : Prop := ∃ sz', sz' ≤ B ∧ CL b sz' L M
theorem send1 {b k n ne nl a c t : Nat} {M N : Mem} (hb : b = 12 ∨ b = 34) (hk : k < 2) (ht : t < 40) (ha : a < n) (hc : c < n) (hnl : nl < 1200) (hcfg : Cfg2 b n ne M N) (h : SR b k n ne nl M N) : ∃ M1 M2 N2, fX1_add b (nI a) (nI c) (nI t) (hsv N a) (M (b + 8) a) M = some (nI nl, M1) ∧ M1 3 = M 3 ∧ fX4_post b (nI nl) (nI t + M 3 (6 * a + c)) M1 = some M2 ∧ fX7_send (nI k) (nI t) (nI a) (nI c) N = some N2 ∧ SR b k n ne (nl + 1) M2 N2 ∧ SdC b M M2 ∧ SdM k N N2 := by
  obtain ⟨⟨hn2, hn6, e1, e2⟩, hbeh, hdel, ⟨ne', hes⟩, hal⟩ := hcfg
  obtain ⟨h5, r2, hok, -, -, -, hnam⟩ := id hes
  obtain ⟨⟨⟨s1, s2, s3, s4, s5⟩, hlet, hsr, p1, p2, p3, p4, p5⟩, hnl2, sz, cm, dd, ⟨hCL, g2, g3⟩, hsz⟩ := h
  obtain ⟨hd1, d, hd2, hd3, hd4⟩ := hdel a c ha hc
  obtain ⟨M1, a1, a2, a3, a4, a5, a6, a7, a8, a9, a10, a11⟩ := p_ladd (x1 := nI a) (x2 := nI c) (x3 := nI t) (x4 := hsv N a) (x5 := M (b + 8) a) p1 hnl
  have m12 : ∀ c', c' < 12 → M1 c' = M c' := fun c' hc' => a2 c' (by omega)
  have hevq : ∀ kd l, evq M1 kd l = evq M kd l := evq_congr (m12 6 (by decide)) (m12 8 (by decide)) (m12 10 (by decide))
  have hlat := lat_congr (m12 6 (by decide)) (m12 8 (by decide)) (m12 9 (by decide)) (m12 10 (by decide)) nl ne
  have hdbq := dbq_congr (m12 6 (by decide)) (m12 8 (by decide)) (m12 9 (by decide)) (m12 10 (by decide)) nl
  have hstep := e5_step (nl := nl) hok hnl
  have hle : cnt (e5l M (nl + 1)) ne ≤ ne := cnt_le ne
  obtain ⟨M2, q1, q2⟩ := p_post (b := b) (n := n) (ne := ne) (l := nl) (due := t + d) (M := M1) hb hnl a3 (by rw [m12 5 (by decide)]; exact h5) r2 (fun e he => by rw [m12 6 (by decide), m12 7 (by decide), m12 8 (by decide), m12 9 (by decide)]; exact hok e he) (iNam_congr hnam (m12 6 (by decide)) (m12 8 (by decide)) (m12 11 (by decide))) (by omega) (CL_congr hCL (a2 _ (by omega)) (a2 _ (by omega)) (a2 _ (by omega)) (a2 _ (by omega)) (a2 _ (by omega))) (by rw [hevq]; omega)
  rw [hevq 4, hevq 5, a2 b (by omega), hal, hlat] at q2
  obtain ⟨N2, n1, n2, n3, n4, n5, n6, n7, n8, n9, n10, n11, n12, n13⟩ := p_msend (n := n) (ne := ne') (M := vM N) (k := k) (l := nl) (a := a) (c := c) (t := t) (d := d) hk hnl (by omega) (by omega) ht hd3 hes.rel p2 (by rw [← hd1]; exact hd4)
  rw [hes.c4, hes.cl] at n2
  simp only [hes.c5] at n10
  refine ⟨M1, M2, N2, a1, m12 3 (by decide), by rw [hd4, nI_add]; exact q1, n1, ?_⟩
  have nc := n11.1
  -- what both ends share: cells of the class that the post leaves
  have main : ∀ (cmn : Option Nat), (∀ c', c' ≠ b + 1 → c' ≠ b + 2 → c' ≠ b + 3 → c' ≠ b + 4 → c' ≠ b + 5 → c' ≠ b + 12 → c' ≠ b + 18 → M2 c' = M1 c') → M2 (b + 12) 0 = nI (nl + 1) → M2 (b + 12) 1 = N2 67 k → (∀ i, i ≠ nl → M2 (b + 18) i = M1 (b + 18) i) → M2 (b + 18) nl = cmI cmn → N2 79 (1200 * k + nl) = cmI cmn → (∀ c', cmn = some c' → c' < 1000) → ExCL b (sz + 1 + cnt (evq M 5 nl) ne) (fun v => lst (tmf cm dd v) nl ++ List.replicate (tmf (fun _ => cmn) (fun _ i => cnt (d5 M nl i) ne) v nl) nl) M2 → SR b k n ne (nl + 1) M2 N2 ∧ SdC b M M2 ∧ SdM k N N2 := by
    clear q2 n2
    intro cmn w1 w2 w3 w4 w5 w6 w7 w8
    have u12 : ∀ c', c' < 12 → M2 c' = M c' := fun c' hc' => by rw [w1 c' (by omega) (by omega) (by omega) (by omega) (by omega) (by omega) (by omega)]; exact m12 c' hc'
    have um : ∀ c', c' = b ∨ (b + 6 ≤ c' ∧ c' ≤ b + 11) → M2 c' = M c' := fun c' hc' => by rw [w1 c' (by omega) (by omega) (by omega) (by omega) (by omega) (by omega) (by omega)]; exact a2 c' (by omega)
    have ur : ∀ c', b + 13 ≤ c' → c' ≤ b + 19 → c' ≠ b + 18 → M2 c' = M1 c' := fun c' h1 h2 h3 => w1 c' (by omega) (by omega) (by omega) (by omega) (by omega) (by omega) h3
    refine ⟨⟨⟨⟨fun x hx => ?_, fun x hx => ?_, fun x hx => ?_, fun x y hx hy => ?_, ?_⟩, fun j hj => ?_, fun j hj => ?_, w2, n3, w3, ?_, ?_⟩, by omega, ?_⟩, fun c' h1 h2 => ?_, n11⟩
    · rw [um _ (by omega), nc 82 (by decide) (by decide) (by decide)]; exact s1 x hx
    · rw [um _ (by omega), nc 83 (by decide) (by decide) (by decide)]; exact s2 x hx
    · rw [um _ (by omega), nc 85 (by decide) (by decide) (by decide)]; exact s3 x hx
    · rw [um _ (by omega), nc 84 (by decide) (by decide) (by decide)]; exact s4 x y hx hy
    · rw [um _ (by omega), nc 56 (by decide) (by decide) (by decide)]; exact s5
    · rw [ur (b + 13) (by omega) (by omega) (by omega), ur (b + 14) (by omega) (by omega) (by omega), ur (b + 15) (by omega) (by omega) (by omega), ur (b + 16) (by omega) (by omega) (by omega), ur (b + 17) (by omega) (by omega) (by omega), ur (b + 19) (by omega) (by omega) (by omega), a5, a6, a7, a8, a9, a11]
      by_cases e : j = nl
      · subst e
        simp only [upd, if_pos rfl]
        rw [n4, n5, n6, n7, n8, n9, w5, w6]
        exact ⟨rfl, rfl, rfl, rfl, (s2 a ha).1, rfl, rfl, (s2 a ha).2⟩
      · simp only [upd, if_neg e]
        rw [w4 j e, a10]
        simp only [upd, if_neg e]
        obtain ⟨m1, m2, m3, m4, m5, m6, m7, m8⟩ := hlet j (by omega)
        have hji : 1200 * k + j ≠ 1200 * k + nl := by omega
        rw [n12 74 (by decide) (by decide) _ hji, n12 75 (by decide) (by decide) _ hji, n12 76 (by decide) (by decide) _ hji, n12 77 (by decide) (by decide) _ hji, n12 78 (by decide) (by decide) _ hji, n12 79 (by decide) (by decide) _ hji, n12 80 (by decide) (by decide) _ hji]
        exact ⟨m1, m2, m3, m4, m5, m6, m7, m8⟩
    · rw [ur (b + 13) (by omega) (by omega) (by omega), ur (b + 14) (by omega) (by omega) (by omega), a5, a6]
      by_cases e : j = nl
      · subst e
        simp only [upd, if_pos rfl]
        exact ⟨a, c, ha, hc, rfl, rfl⟩
      · simp only [upd, if_neg e]
        exact hsr j (by omega)
    · rw [um _ (by omega), nc 68 (by decide) (by decide) (by decide)]; exact p4
    · rw [um _ (by omega), nc 69 (by decide) (by decide) (by decide)]; exact p5
    · obtain ⟨sz', z1, z2⟩ := w8
      refine ⟨sz', fun j => if j = nl then cmn else cm j, fun j i => if j = nl then cnt (d5 M nl i) ne else dd j i, ⟨?_, fun j hj => ?_, fun j i hj h1 h2 => ?_⟩, ?_⟩
      · have hfun : (fun u => lst (tmf (fun j => if j = nl then cmn else cm j) (fun j i => if j = nl then cnt (d5 M nl i) ne else dd j i) u) (nl + 1)) = fun v => lst (tmf cm dd v) nl ++ List.replicate (tmf (fun _ => cmn) (fun _ i => cnt (d5 M nl i) ne) v nl) nl := by
          funext v
          show lst _ nl ++ List.replicate _ nl = _
          congr 1
          · apply lst_congr
            intro j hj
            unfold tmf
            simp only [if_neg (show j ≠ nl by omega)]
          · congr 1
            unfold tmf
            simp
        rw [hfun]; exact z2
      · by_cases e : j = nl
        · subst e
          simp only [if_pos rfl]
          exact ⟨w6, w7⟩
        · simp only [if_neg e]
          rw [n12 79 (by decide) (by decide) _ (by omega)]
          exact g2 j (by omega)
      · by_cases e : j = nl
        · subst e
          simp only [if_pos rfl]
          exact ⟨n10 i h1 h2, Nat.le_trans d5_le r2⟩
        · simp only [if_neg e]
          rw [n13 _ (by omega)]
          exact g3 j i (by omega) h1 h2
      · rw [e5l_congr (u12 6 (by decide)) (u12 8 (by decide)) (u12 10 (by decide)), hstep]; omega
    · by_cases e : c' = b + 18 ∨ c' = b + 12
      · omega
      · rw [w1 c' (by omega) (by omega) (by omega) (by omega) (by omega) (by omega) (by omega)]; exact a2 c' h2
  rcases q2 with ⟨hL, rfl⟩ | ⟨hL, ⟨sz', z1, z2⟩, z3, z4⟩
  · rcases n2 with ⟨-, l1, l2⟩ | ⟨hL2, -⟩
    · refine main none (fun c' _ _ _ _ _ h _ => st_c _ _ _ h) ?_ ?_ (fun i _ => by rw [st_c _ _ _ (show b + 18 ≠ b + 12 by omega)]) ?_ l2 (fun c' h => by cases h) ⟨sz, by omega, ?_⟩
      · rw [st_ck _ _ (show 0 ≠ 1 by decide)]; exact a3
      · rw [st_cc, a4, l1, p3]
      · rw [st_c _ _ _ (show b + 18 ≠ b + 12 by omega), a10]; simp [upd, cmI]
      · have hfun : (fun v => lst (tmf cm dd v) nl ++ List.replicate (tmf (fun _ => none) (fun _ i => cnt (d5 M nl i) ne) v nl) nl) = fun v => lst (tmf cm dd v) nl := by
          funext v; simp [tmf]
        rw [hfun]
        refine CL_congr hCL ?_ ?_ ?_ ?_ ?_ <;> · rw [st_c _ _ _ (by omega)]; exact a2 _ (by omega)
    · exact absurd hL hL2
  · rcases n2 with ⟨hL2, -⟩ | ⟨-, l1, l2⟩
    · exact absurd hL2 hL
    · refine main (some (t + d + lat M nl ne)) (fun c' h1 h2 h3 h4 h5 _ h6 => z3 c' h1 h2 h3 h4 h5 h6) ?_ ?_ (fun i hi => by rw [z4, if_neg hi]) (by rw [z4, if_pos rfl]; rfl) l2 (fun c' h => ?_) ⟨sz', z1, ?_⟩
      · rw [z3 _ (by omega) (by omega) (by omega) (by omega) (by omega) (by omega)]; exact a3
      · rw [z3 _ (by omega) (by omega) (by omega) (by omega) (by omega) (by omega), a4, l1]; exact p3
      · have hlat2 := lat_le (M := M) (l := nl) hok
        have := Option.some.inj h
        omega
      · have hfun : (fun v => lst (tmf cm dd v) nl ++ List.replicate (tmf (fun _ => some (t + d + lat M nl ne)) (fun _ i => cnt (d5 M nl i) ne) v nl) nl) = fun v => lst (tmf cm dd v) nl ++ ((if t + d + lat M nl ne = v then [nl] else []) ++ List.replicate (cnt (dbq M1 nl (t + d + lat M nl ne) v) ne) nl) := by
          funext v
          congr 1
          rw [hdbq, dbl_cnt hok]
          rfl
        rw [hfun]; exact z2
