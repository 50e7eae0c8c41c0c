/-! ===== the schedule ===== -/
theorem cnt_congr {p q : Nat → Bool} : ∀ {n : Nat}, (∀ e, e < n → p e = q e) → cnt p n = cnt q n
  | 0, _ => rfl
  | n + 1, h => by
    unfold cnt
    rw [cnt_congr (n := n) (fun e he => h e (by omega)), h n (by omega)]
def sk (i e : Nat) : Nat := if e < i then e else e + 1
theorem cnt_skip {p : Nat → Bool} {i : Nat} : ∀ {n : Nat}, i ≤ n → cnt (fun e => p (sk i e)) n + (if p i then 1 else 0) = cnt p (n + 1)
  | 0, h => by
    have : i = 0 := by omega
    subst this
    simp [cnt]
  | n + 1, h => by
    rcases Nat.lt_or_ge n i with h1 | h1
    · have hi : i = n + 1 := by omega
      subst hi
      rw [cnt_congr (q := p) (fun e he => by simp only [sk, if_pos he])]
      rfl
    · have ih := cnt_skip (p := p) (i := i) (n := n) h1
      have e1 : cnt (fun e => p (sk i e)) (n + 1) = cnt (fun e => p (sk i e)) n + (if p (n + 1) then 1 else 0) := by
        show cnt (fun e => p (sk i e)) n + (if p (sk i n) then 1 else 0) = _
        rw [show sk i n = n + 1 by simp only [sk, if_neg (show ¬ n < i by omega)]]
      have e2 : cnt p (n + 1 + 1) = cnt p (n + 1) + (if p (n + 1) then 1 else 0) := rfl
      omega
theorem cnt_le {p : Nat → Bool} : ∀ (n : Nat), cnt p n ≤ n
  | 0 => Nat.le_refl 0
  | n + 1 => by
    have := cnt_le (p := p) n
    unfold cnt
    by_cases h : p n
    · rw [if_pos h]; omega
    · rw [if_neg h]; omega
theorem cnt_pos {p : Nat → Bool} {i n : Nat} (hi : i < n) (hp : p i = true) : 0 < cnt p n := by
  induction n with
  | zero => omega
  | succ n ih =>
    unfold cnt
    rcases Nat.lt_or_ge i n with h | h
    · have := ih h; omega
    · have : i = n := by omega
      subst this
      rw [hp]; simp
/-- the naming of event i is counted by dl -/
theorem p_cn {M : Mem} {n i : Nat} (dl : Int32) (hi : i < 20) (hok : EvOK n (M 6 i) (M 7 i) (M 8 i) (M 9 i)) : ∃ M', fX5_countNaming (nI i) dl M = some M' ∧ (∀ c, c ≠ 11 → M' c = M c) ∧ ∀ k, k < 1200 → M' 11 k = if nmg M k i then M 11 k + dl else M 11 k := by
  obtain ⟨kk, ww, ff, ss, h1, h2, h3, h4, h5, h6, h7, h8, -⟩ := hok
  unfold fX5_countNaming
  rw [gd_nI hi (by decide), gd_nI hi (by decide), gd_nI hi (by decide), nI_clamp (by omega)]
  unfold fX6_namesLetter
  by_cases c4 : M 6 i < 4
  · rw [if_pos c4]
    refine ⟨M, rfl, fun _ _ => rfl, fun k hk => ?_⟩
    rw [if_neg (by simp [nmg, c4])]
  · rw [if_neg c4]
    simp only [Option.bind_some, if_neg b1]
    have hl : fX6_isLetter (M 8 i) = some 1 := by rw [h3]; exact vin_in (n := 1200) h7 (by decide)
    rw [hl]
    simp only [Option.bind_some, if_neg b1, nm]
    rw [h3, gd_nI h7 (by decide), gd_nI h7 (by decide), nI_clamp (by omega)]
    refine ⟨_, rfl, fun c hc => st_c _ _ _ hc, fun k hk => ?_⟩
    by_cases hkf : k = ff
    · subst hkf
      rw [st_cc, if_pos (by simp [nmg, c4, h3])]
    · rw [st_ck _ _ hkf, if_neg]
      simp only [nmg, h3, decide_eq_true_eq]
      rintro ⟨-, e⟩
      exact hkf ((nI_eq (by omega) (by omega)).mp e).symm
theorem nar0 : vp_nar .boolean 0 = 0 := by decide +kernel
theorem nar1 : vp_nar .boolean 1 = 1 := by decide +kernel
theorem nar01 {x : Int32} (h : bool01 x) : vp_nar .boolean x = x := by
  rcases h with rfl | rfl
  · exact nar0
  · exact nar1
theorem p_add {M : Mem} {n ne : Nat} {x w f g : Int32} (h5 : M 5 0 = nI ne) (hne : ne < 20) (hok : EvOK n x w f g) (hnam : iNam ne M) : ∃ M', fX5_add x w f g M = some (nI ne, M') ∧ M' 5 0 = nI (ne + 1) ∧ (∀ c, c < 5 ∨ 12 ≤ c → M' c = M c) ∧ (∀ e, e ≠ ne → M' 6 e = M 6 e ∧ M' 7 e = M 7 e ∧ M' 8 e = M 8 e ∧ M' 9 e = M 9 e ∧ M' 10 e = M 10 e) ∧ M' 6 ne = x ∧ M' 7 ne = w ∧ M' 8 ne = f ∧ M' 9 ne = g ∧ M' 10 ne = 0 ∧ iNam (ne + 1) M' := by
  obtain ⟨M2, hM2⟩ : ∃ z, z = st (st (st (st (st M 6 ne x) 7 ne w) 8 ne f) 9 ne g) 10 ne 0 := ⟨_, rfl⟩
  have r5 : M2 5 = M 5 := by rw [hM2]; simp [st, va_up]
  have r6 : M2 6 = upd (M 6) ne x := by rw [hM2]; simp [st, va_up]
  have r7 : M2 7 = upd (M 7) ne w := by rw [hM2]; simp [st, va_up]
  have r8 : M2 8 = upd (M 8) ne f := by rw [hM2]; simp [st, va_up]
  have r9 : M2 9 = upd (M 9) ne g := by rw [hM2]; simp [st, va_up]
  have r10 : M2 10 = upd (M 10) ne 0 := by rw [hM2]; simp [st, va_up]
  have r11 : M2 11 = M 11 := by rw [hM2]; simp [st, va_up]
  have rr : ∀ c, c < 5 ∨ 12 ≤ c → M2 c = M c := fun c hc => by
    rw [hM2, st_c _ _ _ (by omega), st_c _ _ _ (by omega), st_c _ _ _ (by omega), st_c _ _ _ (by omega), st_c _ _ _ (by omega)]
  obtain ⟨M3, q1, q2, q3⟩ := p_cn (M := M2) (n := n) (i := ne) 1 hne (by rw [r6, r7, r8, r9]; simpa [upd] using hok)
  refine ⟨st M3 5 0 (nI (ne + 1)), ?_, st_cc _ _ _ _, fun c hc => ?_, fun e he => ?_, ?_, ?_, ?_, ?_, ?_, ?_⟩
  · unfold fX5_add
    simp only [nm, st_c _ _ _ (show 5 ≠ 6 by decide), st_c _ _ _ (show 5 ≠ 7 by decide), st_c _ _ _ (show 5 ≠ 8 by decide), st_c _ _ _ (show 5 ≠ 9 by decide), st_c _ _ _ (show 5 ≠ 10 by decide), h5, nar0, nI_clamp (show ne < 2 ^ 31 by omega), gd_nI hne (show 20 < 2 ^ 31 by decide), ← hM2]
    rw [if_pos (show nI ne < 20 from nI_lt hne (by decide)), q1]
    simp only [Option.bind_some, q2 5 (by decide), r5, h5, nI_1]
  · rw [st_c _ _ _ (by omega), q2 c (by omega)]; exact rr c hc
  · simp only [st_c _ _ _ (show 6 ≠ 5 by decide), st_c _ _ _ (show 7 ≠ 5 by decide), st_c _ _ _ (show 8 ≠ 5 by decide), st_c _ _ _ (show 9 ≠ 5 by decide), st_c _ _ _ (show 10 ≠ 5 by decide), q2 6 (by decide), q2 7 (by decide), q2 8 (by decide), q2 9 (by decide), q2 10 (by decide), r6, r7, r8, r9, r10, upd, if_neg he, and_self]
  · rw [st_c _ _ _ (by decide), q2 6 (by decide), r6]; simp [upd]
  · rw [st_c _ _ _ (by decide), q2 7 (by decide), r7]; simp [upd]
  · rw [st_c _ _ _ (by decide), q2 8 (by decide), r8]; simp [upd]
  · rw [st_c _ _ _ (by decide), q2 9 (by decide), r9]; simp [upd]
  · rw [st_c _ _ _ (by decide), q2 10 (by decide), r10]; simp [upd]
  · intro k hk
    rw [st_c _ _ _ (show 11 ≠ 5 by decide), q3 k hk, r11, hnam k hk]
    have hg : ∀ e, nmg (st M3 5 0 (nI (ne + 1))) k e = nmg M2 k e := fun e => by
      simp only [nmg, st_c _ _ _ (show 6 ≠ 5 by decide), st_c _ _ _ (show 8 ≠ 5 by decide), q2 6 (by decide), q2 8 (by decide)]
    have hg2 : ∀ e, e < ne → nmg M2 k e = nmg M k e := fun e he => by
      simp only [nmg, r6, r8, upd, if_neg (show e ≠ ne by omega)]
    have e1 : cnt (nmg (st M3 5 0 (nI (ne + 1))) k) (ne + 1) = cnt (nmg M k) ne + (if nmg M2 k ne then 1 else 0) := by
      show cnt (nmg (st M3 5 0 (nI (ne + 1))) k) ne + (if nmg (st M3 5 0 (nI (ne + 1))) k ne then 1 else 0) = _
      rw [cnt_congr (q := nmg M k) (fun e he => by rw [hg, hg2 e he]), hg]
    rw [e1]
    by_cases c : nmg M2 k ne
    · rw [if_pos c, if_pos c, nI_1]
    · rw [if_neg c, if_neg c, Nat.add_zero]
def mAdd (x1 w f g : Int32) (M : Mem) : Option (Int32 × Mem) := if (M 56 4) = (20 : Int32) then (some ((-5 : Int32), M)) else (gd (M 56 4) 20 (nm (st M 60 (Int32.toNatClampNeg (M 56 4)) x1) fun (M11 : Mem) => gd (M11 56 4) 20 (nm (st M11 61 (Int32.toNatClampNeg (M11 56 4)) w) fun (M14 : Mem) => gd (M14 56 4) 20 (nm (st M14 62 (Int32.toNatClampNeg (M14 56 4)) f) fun (M17 : Mem) => gd (M17 56 4) 20 (nm (st M17 63 (Int32.toNatClampNeg (M17 56 4)) g) fun (M20 : Mem) => nm (st M20 56 4 ((M20 56 4) + (1 : Int32))) fun (M21 : Mem) => some (((M21 56 4) - (1 : Int32)), M21))))))
theorem p_mAdd {M : Mem} {ne : Nat} {x w f g : Int32} (h5 : M 56 4 = nI ne) (hne : ne < 20) : ∃ M', mAdd x w f g M = some (nI ne, M') ∧ M' 56 4 = nI (ne + 1) ∧ (∀ c, c ≠ 56 → c ≠ 60 → c ≠ 61 → c ≠ 62 → c ≠ 63 → M' c = M c) ∧ (∀ k, k ≠ 4 → M' 56 k = M 56 k) ∧ (∀ e, e ≠ ne → M' 60 e = M 60 e ∧ M' 61 e = M 61 e ∧ M' 62 e = M 62 e ∧ M' 63 e = M 63 e) ∧ M' 60 ne = x ∧ M' 61 ne = w ∧ M' 62 ne = f ∧ M' 63 ne = g := by
  refine ⟨st (st (st (st (st M 60 ne x) 61 ne w) 62 ne f) 63 ne g) 56 4 (nI (ne + 1)), ?_, st_cc _ _ _ _, fun c h1 h2 h3 h4 h5 => by rw [st_c _ _ _ h1, st_c _ _ _ h5, st_c _ _ _ h4, st_c _ _ _ h3, st_c _ _ _ h2], fun k hk => ?_, fun e he => ?_, ?_, ?_, ?_, ?_⟩
  · unfold mAdd
    have hn20 : ¬ nI ne = 20 := fun e => by
      have := (nI_eq (a := ne) (b := 20) (by omega) (by decide)).mp e
      omega
    simp only [nm, st_c _ _ _ (show 56 ≠ 60 by decide), st_c _ _ _ (show 56 ≠ 61 by decide), st_c _ _ _ (show 56 ≠ 62 by decide), st_c _ _ _ (show 56 ≠ 63 by decide), h5, nI_clamp (show ne < 2 ^ 31 by omega), gd_nI hne (show 20 < 2 ^ 31 by decide), if_neg hn20, st_cc, nI_1, nI_pred]
  · rw [st_ck _ _ hk, st_c _ _ _ (by decide), st_c _ _ _ (by decide), st_c _ _ _ (by decide), st_c _ _ _ (by decide)]
  · simp [st, va_up, upd, he]
  · simp [st, va_up, upd]
  · simp [st, va_up, upd]
  · simp [st, va_up, upd]
  · simp [st, va_up, upd]
theorem ev_add {M : Mem} {n ne T nl : Nat} {x w f g : Int32} (h : InvA n ne T nl M) (hok : EvOK n x w f g) : ∃ r M1 M2, ((fX5_add x w f g M).bind (un2 fun (r23 : Int32) (M24 : Mem) => some (r23, M24))) = some (r, M1) ∧ mAdd x w f g M1 = some (r, M2) ∧ (∀ c, 12 ≤ c → M1 c = M c) ∧ Inv M2 := by
  obtain ⟨⟨⟨hn2, hn6, e1, e2⟩, hbeh, hdel, hrum, ⟨v1, v2, v3, v4⟩, hnam⟩, hout, hlt, hsh⟩ := id h
  rcases Nat.lt_or_ge ne 20 with hne | hne
  · obtain ⟨M1, a1, a2, a3, a4, a5, a6, a7, a8, a9, a10⟩ := p_add v1 hne hok hnam
    obtain ⟨M2, b1', b2, b3, b4, b5, b6, b7, b8, b9⟩ := p_mAdd (M := M1) (ne := ne) (x := x) (w := w) (f := f) (g := g) (by rw [a3 56 (by decide)]; exact v2) hne
    have cc : ∀ c, c < 56 → M2 c = M1 c := fun c hc => b3 c (by omega) (by omega) (by omega) (by omega) (by omega)
    have c0 : ∀ c, c < 5 → M2 c = M c := fun c hc => by rw [cc c (by omega), a3 c (by omega)]
    have c1 : ∀ c, 64 ≤ c ∨ (57 ≤ c ∧ c ≤ 59) → M2 c = M c := fun c hc => by rw [b3 c (by omega) (by omega) (by omega) (by omega) (by omega), a3 c (by omega)]
    refine ⟨nI ne, M1, M2, by rw [a1]; rfl, b1', fun c hc => a3 c (by omega), n, ne + 1, T, nl, ⟨⟨hn2, hn6, by rw [c0 1 (by decide)]; exact e1, by rw [b4 0 (by decide), a3 56 (by decide)]; exact e2⟩, iBeh_congr hbeh (c0 2 (by decide)) (c1 57 (by decide)), iDel_congr hdel (c0 3 (by decide)) (c1 58 (by decide)), iRum_congr hrum (c0 4 (by decide)) (c1 59 (by decide)), ⟨by rw [cc 5 (by decide)]; exact a2, b2, by omega, fun e he => ?_⟩, iNam_congr a10 (cc 6 (by decide)) (cc 8 (by decide)) (cc 11 (by decide))⟩, fun e he => ?_, by rw [b4 10 (by decide), a3 56 (by decide)]; exact hlt, Shown_congr hsh (fun c hc => ?_)⟩
    · rw [cc 6 (by decide), cc 7 (by decide), cc 8 (by decide), cc 9 (by decide)]
      by_cases hen : e = ne
      · subst hen
        rw [a5, a6, a7, a8, b6, b7, b8, b9]; exact ⟨rfl, rfl, rfl, rfl, hok⟩
      · obtain ⟨p1, p2, p3, p4, -⟩ := a4 e hen
        obtain ⟨q1, q2, q3, q4⟩ := b5 e hen
        rw [p1, p2, p3, p4, q1, q2, q3, q4, a3 60 (by decide), a3 61 (by decide), a3 62 (by decide), a3 63 (by decide)]
        exact v4 e (by omega)
    · rw [cc 10 (by decide), c1 64 (by decide)]
      refine ⟨?_, (hout e he).2⟩
      by_cases hen : e = ne
      · subst hen; exact fun _ => a9
      · rw [(a4 e hen).2.2.2.2]; exact fun h => (hout e he).1 (by omega)
    · rw [b3 c (by omega) (by omega) (by omega) (by omega) (by omega), a3 c (by omega)]
  · have h20 : ne = 20 := by omega
    subst h20
    refine ⟨-5, M, M, ?_, ?_, fun _ _ => rfl, n, 20, T, nl, h⟩
    · unfold fX5_add; rw [v1, if_neg (by decide)]; rfl
    · unfold mAdd; rw [v2, if_pos (show nI 20 = 20 from rfl)]
/-- the set of a PART: bits of nodes alone -/
theorem hiZero {x m : Int32} {k : Nat} (hk : k ≤ 31) (hm : ∀ i, i < 32 → m.toBitVec.getLsbD i = decide (k ≤ i)) : (x &&& m) = 0 ↔ x.toBitVec.toNat < 2 ^ k := by
  constructor
  · intro h
    apply Nat.lt_pow_two_of_testBit
    intro i hi
    rcases Nat.lt_or_ge i 32 with h32 | h32
    · have h1 : (x &&& m).toBitVec.getLsbD i = false := by rw [h]; simp
      rw [Int32.toBitVec_and, BitVec.getLsbD_and, hm i h32, decide_eq_true hi, Bool.and_true] at h1
      exact h1
    · exact Nat.testBit_lt_two_pow (Nat.lt_of_lt_of_le x.toBitVec.isLt (Nat.pow_le_pow_right (by decide) h32))
  · intro h
    apply Int32.toBitVec_inj.mp
    apply BitVec.eq_of_getLsbD_eq
    intro i hi
    rw [Int32.toBitVec_and, BitVec.getLsbD_and, hm i hi]
    rcases Nat.lt_or_ge i k with h1 | h1
    · simp [Nat.not_le.mpr h1]
    · have h2 : x.toBitVec.getLsbD i = false := Nat.testBit_lt_two_pow (Nat.lt_of_lt_of_le h (Nat.pow_le_pow_right (by decide) h1))
      rw [h2]; simp
theorem nat_vin {x : Int32} {k : Nat} (hk : k < 2 ^ 30) : (if x.toBitVec.toNat < k then some (1 : Int32) else some 0) = vin x k := by
  rcases vin_cases x (n := k) (by omega) with h0 | ⟨j, hj, rfl, h1⟩
  · rw [h0, if_neg]
    intro h
    have hx : x = nI x.toBitVec.toNat := by
      apply Int32.toBitVec_inj.mp
      simp [nI, Int32.ofNat]
    rw [hx, vin_in h (by omega)] at h0
    cases h0
  · rw [h1, if_pos]
    rw [pk_tn (by omega)]; exact hj
theorem p_all {M : Mem} {n : Nat} (hn2 : 2 ≤ n) (hn6 : n ≤ 6) (h : M 1 0 = nI n) (x : Int32) : fX2_hasAllOf x M = vin x (2 ^ n) := by
  unfold fX2_hasAllOf
  rw [h, ← nat_vin (by rcases (show n = 2 ∨ n = 3 ∨ n = 4 ∨ n = 5 ∨ n = 6 by omega) with rfl | rfl | rfl | rfl | rfl <;> decide)]
  have key : (x &&& -((1 : Int32) <<< (nI n &&& 31))) = 0 ↔ x.toBitVec.toNat < 2 ^ n := by
    apply hiZero (by omega)
    rcases (show n = 2 ∨ n = 3 ∨ n = 4 ∨ n = 5 ∨ n = 6 by omega) with rfl | rfl | rfl | rfl | rfl <;> decide +kernel
  by_cases c : x.toBitVec.toNat < 2 ^ n
  · rw [if_pos (key.mpr c), if_pos c]
  · rw [if_neg (fun h => c (key.mp h)), if_neg c]
theorem p_inAll {N : Mem} {n : Nat} (hn2 : 2 ≤ n) (hn6 : n ≤ 6) (h : N 56 0 = nI n) (x : Int32) : fX7_in x 0 (((1 : Int32) <<< (N 56 0 &&& 31)) - 1) = vin x (2 ^ n) := by
  have e : (1 : Int32) <<< (nI n &&& 31) = nI (2 ^ n) := by
    rcases (show n = 2 ∨ n = 3 ∨ n = 4 ∨ n = 5 ∨ n = 6 by omega) with rfl | rfl | rfl | rfl | rfl <;> decide +kernel
  have e2 : 2 ^ n < 2 ^ 30 := by
    rcases (show n = 2 ∨ n = 3 ∨ n = 4 ∨ n = 5 ∨ n = 6 by omega) with rfl | rfl | rfl | rfl | rfl <;> decide
  rw [h, e]
  exact p_in x e2
abbrev pk2 : Int32 × Mem → Option (Int32 × Mem) := un2 fun (r23 : Int32) (M24 : Mem) => some (r23, M24)
theorem evc0 (y z w : Int32) (M : Mem) : fX6_event 0 y z w M = ((vin y 40).bind fun r => if r = 0 then some (-3, M) else ((fX2_hasAllOf z M).bind fun r => if r = 0 then some (-3, M) else (fX5_add 0 y z 0 M).bind pk2)) := rfl
theorem evc1 (y z w : Int32) (M : Mem) : fX6_event 1 y z w M = ((vin y 40).bind fun r => if r = 0 then some (-3, M) else (fX5_add 1 y 0 0 M).bind pk2) := rfl
theorem evc2 (y z w : Int32) (M : Mem) : fX6_event 2 y z w M = ((fX2_has z M).bind fun r => if r = 0 then some (-2, M) else ((vin y 40).bind fun r => if r = 0 then some (-3, M) else (fX5_add 2 y z 0 M).bind pk2)) := rfl
theorem evc3 (y z w : Int32) (M : Mem) : fX6_event 3 y z w M = ((fX2_has z M).bind fun r => if r = 0 then some (-2, M) else ((vin y 40).bind fun r => if r = 0 then some (-3, M) else (fX5_add 3 y z 0 M).bind pk2)) := rfl
theorem evc4 (y z w : Int32) (M : Mem) : fX6_event 4 y z w M = ((vin z 1200).bind fun r => if r = 0 then some (-3, M) else (fX5_add 4 0 z 0 M).bind pk2) := rfl
theorem evc5 (y z w : Int32) (M : Mem) : fX6_event 5 y z w M = ((vin z 1200).bind fun r => if r = 0 then some (-3, M) else ((fX7_in w 1 5).bind fun r => if r = 0 then some (-3, M) else (fX5_add 5 0 z w M).bind pk2)) := rfl
theorem evc6 (y z w : Int32) (M : Mem) : fX6_event 6 y z w M = ((vin z 1200).bind fun r => if r = 0 then some (-3, M) else ((fX7_in w 1 5).bind fun r => if r = 0 then some (-3, M) else (fX5_add 6 0 z w M).bind pk2)) := rfl
theorem evm0 (y z w : Int32) (M : Mem) : fX7_event 0 y z w M = ((fX7_in y 0 39).bind fun r => if r = 0 then some (-3, M) else ((fX7_in z 0 (((1 : Int32) <<< (M 56 0 &&& 31)) - 1)).bind fun r => if r = 0 then some (-3, M) else mAdd 0 y z 0 M)) := rfl
theorem evm1 (y z w : Int32) (M : Mem) : fX7_event 1 y z w M = ((fX7_in y 0 39).bind fun r => if r = 0 then some (-3, M) else mAdd 1 y 0 0 M) := rfl
theorem evm2 (y z w : Int32) (M : Mem) : fX7_event 2 y z w M = ((fX7_isNode z M).bind fun r => if r = 0 then some (-2, M) else ((fX7_in y 0 39).bind fun r => if r = 0 then some (-3, M) else mAdd 2 y z 0 M)) := rfl
theorem evm3 (y z w : Int32) (M : Mem) : fX7_event 3 y z w M = ((fX7_isNode z M).bind fun r => if r = 0 then some (-2, M) else ((fX7_in y 0 39).bind fun r => if r = 0 then some (-3, M) else mAdd 3 y z 0 M)) := rfl
theorem evm4 (y z w : Int32) (M : Mem) : fX7_event 4 y z w M = ((fX7_in z 0 1199).bind fun r => if r = 0 then some (-3, M) else mAdd 4 0 z 0 M) := rfl
theorem evm5 (y z w : Int32) (M : Mem) : fX7_event 5 y z w M = ((fX7_in z 0 1199).bind fun r => if r = 0 then some (-3, M) else ((fX7_in w 1 5).bind fun r => if r = 0 then some (-3, M) else mAdd 5 0 z w M)) := rfl
theorem evm6 (y z w : Int32) (M : Mem) : fX7_event 6 y z w M = ((fX7_in z 0 1199).bind fun r => if r = 0 then some (-3, M) else ((fX7_in w 1 5).bind fun r => if r = 0 then some (-3, M) else mAdd 6 0 z w M)) := rfl
theorem p_in40 (x : Int32) : fX7_in x 0 39 = vin x 40 := p_in (m := 40) x (by decide)
theorem p_in1200 (x : Int32) : fX7_in x 0 1199 = vin x 1200 := p_in (m := 1200) x (by decide)
theorem pow_n {n : Nat} (hn2 : 2 ≤ n) (hn6 : n ≤ 6) : 2 ^ n ≤ 64 := by
  rcases (show n = 2 ∨ n = 3 ∨ n = 4 ∨ n = 5 ∨ n = 6 by omega) with rfl | rfl | rfl | rfl | rfl <;> decide
theorem s_event {M : Mem} (h : Inv M) (x y z w : Int32) : Both (fX6_event x y z w M) (fX7_event x y z w) := by
  obtain ⟨n, ne, T, nl, hI⟩ := id h
  obtain ⟨⟨⟨hn2, hn6, e1, e2⟩, -⟩, -⟩ := id hI
  rcases vin_cases x (n := 7) (by decide) with h0 | ⟨kk, hk, rfl, h1⟩
  · refine Both.same (r := -2) ?_ ?_ h
    · unfold fX6_event
      by_cases c1 : x < 0
      · rw [if_pos c1]
      · rw [if_neg c1, if_pos]
        unfold vin at h0
        rw [if_neg c1] at h0
        by_cases c2 : nI 7 ≤ x
        · rw [Int32.le_iff_toInt_le] at c2
          rw [Int32.lt_iff_toInt_lt]
          have a6 : (6 : Int32).toInt = 6 := rfl
          have a7 : (nI 7).toInt = 7 := rfl
          omega
        · rw [if_neg c2] at h0; cases h0
    · unfold fX7_event
      rw [show fX7_in x 0 6 = vin x 7 from p_in (m := 7) x (by decide), h0]
      rfl
  · rcases (show kk = 0 ∨ kk = 1 ∨ kk = 2 ∨ kk = 3 ∨ kk = 4 ∨ kk = 5 ∨ kk = 6 by omega) with rfl | rfl | rfl | rfl | rfl | rfl | rfl
    · show Both (fX6_event 0 y z w M) (fX7_event 0 y z w)
      rcases vin_cases y (n := 40) (by decide) with g | ⟨t, ht, rfl, g⟩
      · exact Both.same (r := -3) (by rw [evc0, g]; rfl) (by rw [evm0, p_in40, g]; rfl) h
      · have hp := pow_n hn2 hn6
        rcases vin_cases z (n := 2 ^ n) (by omega) with g2 | ⟨a, ha, rfl, g2⟩
        · exact Both.same (r := -3) (by rw [evc0, g, p_all hn2 hn6 e1, g2]; rfl) (by rw [evm0, p_in40, g, p_inAll hn2 hn6 e2, g2]; rfl) h
        · obtain ⟨r, M1, M2, q1, q2, q4, q3⟩ := ev_add (x := 0) (w := nI t) (f := nI a) (g := 0) hI ⟨0, t, a, 0, rfl, rfl, rfl, rfl, by omega, by omega, by omega, by omega, by omega, by omega⟩
          have e2' : M1 56 0 = nI n := by rw [q4 56 (by decide)]; exact e2
          exact ⟨r, M1, M2, by rw [evc0, g, p_all hn2 hn6 e1, g2]; exact q1, by rw [evm0, p_in40, g, p_inAll hn2 hn6 e2', g2]; exact q2, q3⟩
    · show Both (fX6_event 1 y z w M) (fX7_event 1 y z w)
      rcases vin_cases y (n := 40) (by decide) with g | ⟨t, ht, rfl, g⟩
      · exact Both.same (r := -3) (by rw [evc1, g]; rfl) (by rw [evm1, p_in40, g]; rfl) h
      · obtain ⟨r, M1, M2, q1, q2, q4, q3⟩ := ev_add (x := 1) (w := nI t) (f := 0) (g := 0) hI ⟨1, t, 0, 0, rfl, rfl, rfl, rfl, by omega, by omega, by omega, by omega, by omega, by omega⟩
        exact ⟨r, M1, M2, by rw [evc1, g]; exact q1, by rw [evm1, p_in40, g]; exact q2, q3⟩
    · show Both (fX6_event 2 y z w M) (fX7_event 2 y z w)
      rcases vin_cases z (n := n) (by omega) with g2 | ⟨a, ha, rfl, g2⟩
      · exact Both.same (r := -2) (by rw [evc2, p_2has _ e1, g2]; rfl) (by rw [evm2, p_isNode _ (by omega) e2, g2]; rfl) h
      · rcases vin_cases y (n := 40) (by decide) with g | ⟨t, ht, rfl, g⟩
        · exact Both.same (r := -3) (by rw [evc2, p_2has _ e1, g2, g]; rfl) (by rw [evm2, p_isNode _ (by omega) e2, g2, p_in40, g]; rfl) h
        · obtain ⟨r, M1, M2, q1, q2, q4, q3⟩ := ev_add (x := 2) (w := nI t) (f := nI a) (g := 0) hI ⟨2, t, a, 0, rfl, rfl, rfl, rfl, by omega, by omega, by omega, by omega, by omega, by omega⟩
          have e2' : M1 56 0 = nI n := by rw [q4 56 (by decide)]; exact e2
          exact ⟨r, M1, M2, by rw [evc2, p_2has _ e1, g2, g]; exact q1, by rw [evm2, p_isNode _ (by omega) e2', g2, p_in40, g]; exact q2, q3⟩
    · show Both (fX6_event 3 y z w M) (fX7_event 3 y z w)
      rcases vin_cases z (n := n) (by omega) with g2 | ⟨a, ha, rfl, g2⟩
      · exact Both.same (r := -2) (by rw [evc3, p_2has _ e1, g2]; rfl) (by rw [evm3, p_isNode _ (by omega) e2, g2]; rfl) h
      · rcases vin_cases y (n := 40) (by decide) with g | ⟨t, ht, rfl, g⟩
        · exact Both.same (r := -3) (by rw [evc3, p_2has _ e1, g2, g]; rfl) (by rw [evm3, p_isNode _ (by omega) e2, g2, p_in40, g]; rfl) h
        · obtain ⟨r, M1, M2, q1, q2, q4, q3⟩ := ev_add (x := 3) (w := nI t) (f := nI a) (g := 0) hI ⟨3, t, a, 0, rfl, rfl, rfl, rfl, by omega, by omega, by omega, by omega, by omega, by omega⟩
          have e2' : M1 56 0 = nI n := by rw [q4 56 (by decide)]; exact e2
          exact ⟨r, M1, M2, by rw [evc3, p_2has _ e1, g2, g]; exact q1, by rw [evm3, p_isNode _ (by omega) e2', g2, p_in40, g]; exact q2, q3⟩
    · show Both (fX6_event 4 y z w M) (fX7_event 4 y z w)
      rcases vin_cases z (n := 1200) (by decide) with g2 | ⟨a, ha, rfl, g2⟩
      · exact Both.same (r := -3) (by rw [evc4, g2]; rfl) (by rw [evm4, p_in1200, g2]; rfl) h
      · obtain ⟨r, M1, M2, q1, q2, q4, q3⟩ := ev_add (x := 4) (w := 0) (f := nI a) (g := 0) hI ⟨4, 0, a, 0, rfl, rfl, rfl, rfl, by omega, by omega, by omega, by omega, by omega, by omega⟩
        exact ⟨r, M1, M2, by rw [evc4, g2]; exact q1, by rw [evm4, p_in1200, g2]; exact q2, q3⟩
    · show Both (fX6_event 5 y z w M) (fX7_event 5 y z w)
      rcases vin_cases z (n := 1200) (by decide) with g2 | ⟨a, ha, rfl, g2⟩
      · exact Both.same (r := -3) (by rw [evc5, g2]; rfl) (by rw [evm5, p_in1200, g2]; rfl) h
      · rcases in15 w with g | ⟨d, hd1, hd5, rfl, g⟩
        · exact Both.same (r := -3) (by rw [evc5, g2, g]; rfl) (by rw [evm5, p_in1200, g2, g]; rfl) h
        · obtain ⟨r, M1, M2, q1, q2, q4, q3⟩ := ev_add (x := 5) (w := 0) (f := nI a) (g := nI d) hI ⟨5, 0, a, d, rfl, rfl, rfl, rfl, by omega, by omega, by omega, by omega, by omega, by omega⟩
          exact ⟨r, M1, M2, by rw [evc5, g2, g]; exact q1, by rw [evm5, p_in1200, g2, g]; exact q2, q3⟩
    · show Both (fX6_event 6 y z w M) (fX7_event 6 y z w)
      rcases vin_cases z (n := 1200) (by decide) with g2 | ⟨a, ha, rfl, g2⟩
      · exact Both.same (r := -3) (by rw [evc6, g2]; rfl) (by rw [evm6, p_in1200, g2]; rfl) h
      · rcases in15 w with g | ⟨d, hd1, hd5, rfl, g⟩
        · exact Both.same (r := -3) (by rw [evc6, g2, g]; rfl) (by rw [evm6, p_in1200, g2, g]; rfl) h
        · obtain ⟨r, M1, M2, q1, q2, q4, q3⟩ := ev_add (x := 6) (w := 0) (f := nI a) (g := nI d) hI ⟨6, 0, a, d, rfl, rfl, rfl, rfl, by omega, by omega, by omega, by omega, by omega, by omega⟩
          exact ⟨r, M1, M2, by rw [evc6, g2, g]; exact q1, by rw [evm6, p_in1200, g2, g]; exact q2, q3⟩
