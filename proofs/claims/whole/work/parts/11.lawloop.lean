section LW
variable {p : Program} {l : Launch} {e : Env} {R : Room} {s : State} {m : MethodId} {args : Array Value} {below : List Frame} {meth : Method} {c : Code} {D : va_G} {cI cZ : ClassId} {ad : Nat → Nat} {A : Nat → Prop} {nL nc ns : Nat} {Q : State → Prop} {M : Mem} {pc : Nat} {lv : List (Nat × Value)} {rest : List Value} {cc : ByteArray} {own : String} {Ts : List Cond} {sb L : Nat} {xs : Nat → Int32}
theorem wk_lret {v : Int32} (G : Cx p s m args c code 4 own Ts D cI cZ ad A) (ha : args = #[Value.ref sb]) (hAe : A = fun q => s.heap.size ≤ q) (hr : meth.sig.returnType = ret) (hlocks : meth.locks = false) (d : decode code pc = .ok (.ireturn, 1)) (hv : v = 1) : Wk p l e room_1 s m args below meth c D cI cZ ad A 4 87 56411 (lw_Z below args s) M pc lv [.int v] := by
  subst ha; subst hAe; subst hv
  exact fun H locs ls hP hS hl => va_forget (fun q h => hS.2.2 q h) (lw_ret G.1 G.2.1 hr hlocks d)
theorem wk_sld (G : Cx p s m args c cc nL own Ts D cI cZ ad A) (hX : va_X sb L xs s s.heap) (hbl : sb < s.heap.size) (hbA : ¬ A sb) {i : Int32} (hin : vp_in i L) (d : decode cc pc = .ok (.iaload, 1)) (kk : Wk p l e R s m args below meth c D cI cZ ad A nL nc ns Q M (pc + 1) lv (.int (xs i.toNatClampNeg) :: rest)) : Wk p l e R s m args below meth c D cI cZ ad A nL nc ns Q M pc lv (.int i :: .ref sb :: rest) := fun H locs ls hP hS hl => va_sld G.1 G.2.1 hX hbl hbA hS hin d (kk H locs ls hP hS hl)
theorem wk_slen (G : Cx p s m args c cc nL own Ts D cI cZ ad A) (hX : va_X sb L xs s s.heap) (hbl : sb < s.heap.size) (hbA : ¬ A sb) (d : decode cc pc = .ok (.arraylength, 1)) (kk : Wk p l e R s m args below meth c D cI cZ ad A nL nc ns Q M (pc + 1) lv (.int (Int32.ofNat L) :: rest)) : Wk p l e R s m args below meth c D cI cZ ad A nL nc ns Q M pc lv (.ref sb :: rest) := fun H locs ls hP hS hl => va_slen G.1 G.2.1 hX hbl hbA hS d (kk H locs ls hP hS hl)
end LW
def fL_loop (xs : Nat → Int32) (L : Nat) (x3 : Int32) (M : Mem) : Option Int32 := (loop fu (un2 fun (v1 : Int32) (M2 : Mem) => (if ((Int32.ofNat L) - (5 : Int32)) < v1 then (some (.inr (.inr M2))) else (gd v1 L (nm (((xs (Int32.toNatClampNeg v1)) &&& (31 : Int32))) fun (v5 : Int32) => nm (fun (M6 : Mem) => nm (v1 + (5 : Int32)) fun (v7 : Int32) => some (.inl (v7, M6))) fun j585 => if v5 = (0 : Int32) then (gd (v1 + (1 : Int32)) L (gd (v1 + (2 : Int32)) L ((fX6_behaviour (xs (Int32.toNatClampNeg (v1 + (1 : Int32)))) (xs (Int32.toNatClampNeg (v1 + (2 : Int32)))) M2).bind (un2 fun (r11 : Int32) (M12 : Mem) => gd (v1 + (1 : Int32)) L (gd (v1 + (2 : Int32)) L ((fX7_behaviour (xs (Int32.toNatClampNeg (v1 + (1 : Int32)))) (xs (Int32.toNatClampNeg (v1 + (2 : Int32)))) M12).bind (un2 fun (r16 : Int32) (M17 : Mem) => if r11 = r16 then (j585 M17) else (some (.inr (.inl (0 : Int32))))))))))) else if v5 = (1 : Int32) then (gd (v1 + (1 : Int32)) L (gd (v1 + (2 : Int32)) L (gd (v1 + (3 : Int32)) L ((fX6_delay (xs (Int32.toNatClampNeg (v1 + (1 : Int32)))) (xs (Int32.toNatClampNeg (v1 + (2 : Int32)))) (xs (Int32.toNatClampNeg (v1 + (3 : Int32)))) M2).bind (un2 fun (r23 : Int32) (M24 : Mem) => gd (v1 + (1 : Int32)) L (gd (v1 + (2 : Int32)) L (gd (v1 + (3 : Int32)) L ((fX7_delay (xs (Int32.toNatClampNeg (v1 + (1 : Int32)))) (xs (Int32.toNatClampNeg (v1 + (2 : Int32)))) (xs (Int32.toNatClampNeg (v1 + (3 : Int32)))) M24).bind (un2 fun (r29 : Int32) (M30 : Mem) => if r23 = r29 then (j585 M30) else (some (.inr (.inl (0 : Int32))))))))))))) else if v5 = (2 : Int32) then (gd (v1 + (1 : Int32)) L (gd (v1 + (2 : Int32)) L ((fX6_tell (xs (Int32.toNatClampNeg (v1 + (1 : Int32)))) (xs (Int32.toNatClampNeg (v1 + (2 : Int32)))) M2).bind (un2 fun (r35 : Int32) (M36 : Mem) => gd (v1 + (1 : Int32)) L (gd (v1 + (2 : Int32)) L ((fX7_tell (xs (Int32.toNatClampNeg (v1 + (1 : Int32)))) (xs (Int32.toNatClampNeg (v1 + (2 : Int32)))) M36).bind (un2 fun (r40 : Int32) (M41 : Mem) => if r35 = r40 then (j585 M41) else (some (.inr (.inl (0 : Int32))))))))))) else if v5 = (3 : Int32) then (gd (v1 + (1 : Int32)) L (gd (v1 + (2 : Int32)) L (gd (v1 + (3 : Int32)) L (gd (v1 + (4 : Int32)) L ((fX6_event (xs (Int32.toNatClampNeg (v1 + (1 : Int32)))) (xs (Int32.toNatClampNeg (v1 + (2 : Int32)))) (xs (Int32.toNatClampNeg (v1 + (3 : Int32)))) (xs (Int32.toNatClampNeg (v1 + (4 : Int32)))) M2).bind (un2 fun (r48 : Int32) (M49 : Mem) => gd (v1 + (1 : Int32)) L (gd (v1 + (2 : Int32)) L (gd (v1 + (3 : Int32)) L (gd (v1 + (4 : Int32)) L ((fX7_event (xs (Int32.toNatClampNeg (v1 + (1 : Int32)))) (xs (Int32.toNatClampNeg (v1 + (2 : Int32)))) (xs (Int32.toNatClampNeg (v1 + (3 : Int32)))) (xs (Int32.toNatClampNeg (v1 + (4 : Int32)))) M49).bind (un2 fun (r55 : Int32) (M56 : Mem) => if r48 = r55 then (j585 M56) else (some (.inr (.inl (0 : Int32))))))))))))))) else if v5 = (4 : Int32) then (gd (v1 + (1 : Int32)) L ((fX6_drop (xs (Int32.toNatClampNeg (v1 + (1 : Int32)))) M2).bind (un2 fun (r60 : Int32) (M61 : Mem) => gd (v1 + (1 : Int32)) L ((fX7_drop (xs (Int32.toNatClampNeg (v1 + (1 : Int32)))) M61).bind (un2 fun (r64 : Int32) (M65 : Mem) => if r60 = r64 then (j585 M65) else (some (.inr (.inl (0 : Int32))))))))) else if v5 = (5 : Int32) then (gd (v1 + (1 : Int32)) L (gd (v1 + (2 : Int32)) L ((fX6_told (xs (Int32.toNatClampNeg (v1 + (1 : Int32)))) (xs (Int32.toNatClampNeg (v1 + (2 : Int32)))) M2).bind (fun (r70 : Int32) => gd (v1 + (1 : Int32)) L (gd (v1 + (2 : Int32)) L ((fX7_told (xs (Int32.toNatClampNeg (v1 + (1 : Int32)))) (xs (Int32.toNatClampNeg (v1 + (2 : Int32)))) M2).bind (fun (r74 : Int32) => if r70 = r74 then (j585 M2) else (some (.inr (.inl (0 : Int32))))))))))) else if v5 = (6 : Int32) then (gd (v1 + (1 : Int32)) L ((fX6_play (xs (Int32.toNatClampNeg (v1 + (1 : Int32)))) M2).bind (un2 fun (r78 : Int32) (M79 : Mem) => gd (v1 + (1 : Int32)) L ((fX7_play (xs (Int32.toNatClampNeg (v1 + (1 : Int32)))) M79).bind (un2 fun (r82 : Int32) (M83 : Mem) => if r78 = r82 then (j585 M83) else (some (.inr (.inl (0 : Int32))))))))) else if v5 = (7 : Int32) then (gd (v1 + (1 : Int32)) L (gd (v1 + (2 : Int32)) L ((fX6_height (xs (Int32.toNatClampNeg (v1 + (1 : Int32)))) (xs (Int32.toNatClampNeg (v1 + (2 : Int32)))) M2).bind (fun (r88 : Int32) => gd (v1 + (1 : Int32)) L (gd (v1 + (2 : Int32)) L ((fX7_height (xs (Int32.toNatClampNeg (v1 + (1 : Int32)))) (xs (Int32.toNatClampNeg (v1 + (2 : Int32)))) M2).bind (fun (r92 : Int32) => if r88 = r92 then (j585 M2) else (some (.inr (.inl (0 : Int32))))))))))) else if v5 = (8 : Int32) then (gd (v1 + (1 : Int32)) L ((fX6_holds (xs (Int32.toNatClampNeg (v1 + (1 : Int32)))) M2).bind (fun (r96 : Int32) => gd (v1 + (1 : Int32)) L ((fX7_holds (xs (Int32.toNatClampNeg (v1 + (1 : Int32)))) M2).bind (fun (r99 : Int32) => if r96 = r99 then (j585 M2) else (some (.inr (.inl (0 : Int32))))))))) else if v5 = (9 : Int32) then ((fX6_fails M2).bind (fun (r102 : Int32) => (fX7_fails M2).bind (fun (r104 : Int32) => if r102 = r104 then (j585 M2) else (some (.inr (.inl (0 : Int32))))))) else if v5 = (10 : Int32) then (gd (v1 + (1 : Int32)) L (gd (v1 + (2 : Int32)) L ((fX6_letter (xs (Int32.toNatClampNeg (v1 + (1 : Int32)))) (xs (Int32.toNatClampNeg (v1 + (2 : Int32)))) M2).bind (fun (r109 : Int32) => gd (v1 + (1 : Int32)) L (gd (v1 + (2 : Int32)) L ((fX7_letter (xs (Int32.toNatClampNeg (v1 + (1 : Int32)))) (xs (Int32.toNatClampNeg (v1 + (2 : Int32)))) M2).bind (fun (r113 : Int32) => if r109 = r113 then (j585 M2) else (some (.inr (.inl (0 : Int32))))))))))) else if v5 = (11 : Int32) then (gd (v1 + (1 : Int32)) L ((fX6_reached (xs (Int32.toNatClampNeg (v1 + (1 : Int32)))) M2).bind (fun (r117 : Int32) => gd (v1 + (1 : Int32)) L ((fX7_reached (xs (Int32.toNatClampNeg (v1 + (1 : Int32)))) M2).bind (fun (r120 : Int32) => if r117 = r120 then (j585 M2) else (some (.inr (.inl (0 : Int32))))))))) else if v5 = (12 : Int32) then (gd (v1 + (1 : Int32)) L ((fX6_bytes (xs (Int32.toNatClampNeg (v1 + (1 : Int32)))) M2).bind (fun (r124 : Int32) => gd (v1 + (1 : Int32)) L ((fX7_bytes (xs (Int32.toNatClampNeg (v1 + (1 : Int32)))) M2).bind (fun (r127 : Int32) => if r124 = r127 then (j585 M2) else (some (.inr (.inl (0 : Int32))))))))) else if v5 = (13 : Int32) then ((fX6_shrink M2).bind (un2 fun (r130 : Int32) (M131 : Mem) => (fX7_shrink M131).bind (un2 fun (r133 : Int32) (M134 : Mem) => if r130 = r133 then (j585 M134) else (some (.inr (.inl (0 : Int32))))))) else if v5 = (14 : Int32) then ((fX6_minimal M2).bind (un2 fun (r137 : Int32) (M138 : Mem) => (fX7_minimal M138).bind (un2 fun (r140 : Int32) (M141 : Mem) => if r137 = r140 then (j585 M141) else (some (.inr (.inl (0 : Int32))))))) else if v5 = (15 : Int32) then (gd (v1 + (1 : Int32)) L ((fX6_sets (xs (Int32.toNatClampNeg (v1 + (1 : Int32)))) M2).bind (un2 fun (r145 : Int32) (M146 : Mem) => gd (v1 + (1 : Int32)) L ((fX7_sets (xs (Int32.toNatClampNeg (v1 + (1 : Int32)))) M146).bind (un2 fun (r149 : Int32) (M150 : Mem) => if r145 = r149 then (j585 M150) else (some (.inr (.inl (0 : Int32))))))))) else if v5 = (16 : Int32) then (gd (v1 + (1 : Int32)) L ((fX6_count (xs (Int32.toNatClampNeg (v1 + (1 : Int32)))) M2).bind (fun (r154 : Int32) => gd (v1 + (1 : Int32)) L ((fX7_count (xs (Int32.toNatClampNeg (v1 + (1 : Int32)))) M2).bind (fun (r157 : Int32) => if r154 = r157 then (j585 M2) else (some (.inr (.inl (0 : Int32))))))))) else (j585 M2))) : Option ((Int32 × Mem) ⊕ ((Int32) ⊕ (Mem))))) (x3, M)).bind (Sum.elim (fun rm => some rm) (un1 fun (M160 : Mem) => some (1 : Int32)))
set_option maxRecDepth 100000 in
set_option maxHeartbeats 4000000 in
theorem law_loop {p : Program} {l : Launch} {e : Env} {s : State} {m : MethodId} {args : Array Value} {below : List Frame} {meth : Method} {c : Code} {D : va_G} {cI cZ : ClassId} {ad : Nat → Nat} {A : Nat → Prop} {sb L : Nat} {xs : Nat → Int32} {x3 : Int32} {M : Mem} (G : Cx p s m args c code 4 RL wsL_law D cI cZ ad A) (ha : args = #[Value.ref sb]) (hAe : A = fun q => s.heap.size ≤ q) (hr : meth.sig.returnType = ret) (hlocks : meth.locks = false) (hX : va_X sb L xs s s.heap) (hbl : sb < s.heap.size) (hbA : ¬ A sb) (hf : fL_loop xs L x3 M = some (1 : Int32)) : Wk p l e room_1 s m args below meth c D cI cZ ad A 4 87 56411 (lw_Z below args s) M 28 [(0, .ref sb), (1, .ref (ad 0)), (2, .ref (ad 56)), (3, .int x3)] [] := by
  unfold fL_loop at hf
  obtain ⟨q161, q162, hf⟩ := bd_of hf
  have Cq161 : (Sum.elim (fun rm => rm = (1 : Int32)) (up1 fun (M160 : Mem) => Wk p l e room_1 s m args below meth c D cI cZ ad A 4 87 56411 (lw_Z below args s) M160 591 [] [])) q161 := by
    rcases q161 with rm | M160
    · exact Option.some.inj hf
    · replace hf := un1_of hf
      show Wk p l e room_1 s m args below meth c D cI cZ ad A 4 87 56411 (lw_Z below args s) M160 591 [] []
      refine wk_iconst (v := (1 : Int32)) G dL_law_591 (by decide) ?_
      exact wk_lret G ha hAe hr hlocks dL_law_592 (Option.some.inj hf)
  have Lq161 : (up2 fun (v1 : Int32) (M2 : Mem) => Wk p l e room_1 s m args below meth c D cI cZ ad A 4 87 56411 (lw_Z below args s) M2 28 [(0, .ref sb), (1, .ref (ad 0)), (2, .ref (ad 56)), (3, .int v1)] []) (x3, M) := by
    refine loop_P (C := (Sum.elim (fun rm => rm = (1 : Int32)) (up1 fun (M160 : Mem) => Wk p l e room_1 s m args below meth c D cI cZ ad A 4 87 56411 (lw_Z below args s) M160 591 [] []))) ?_ fu (x3, M) q161 q162 Cq161
    clear hf Cq161 q162
    rintro ⟨v1, M2⟩ o hf hI hE
    replace hf := un2_of hf
    show Wk p l e room_1 s m args below meth c D cI cZ ad A 4 87 56411 (lw_Z below args s) M2 28 [(0, .ref sb), (1, .ref (ad 0)), (2, .ref (ad 56)), (3, .int v1)] []
    refine wk_iload_n G 3 dL_law_28 rfl rfl ?_
    refine wk_aload_n G 0 dL_law_29 rfl rfl ?_
    refine wk_slen G hX hbl hbA dL_law_30 ?_
    refine wk_iconst (v := (5 : Int32)) G dL_law_31 (by decide) ?_
    refine wk_isub G dL_law_32 ?_
    refine wk_icmp_gt (tgt := 591) G dL_law_33 (by decide) (fun c3 => ?_) (fun c3 => ?_)
    · replace hf := it_t c3 hf
      refine wk_sub [] rfl ?_
      exact hE _ (Option.some.inj hf).symm
    · replace hf := it_f c3 hf
      refine wk_aload_n G 0 dL_law_36 rfl rfl ?_
      refine wk_iload_n G 3 dL_law_37 rfl rfl ?_
      obtain ⟨h4, hf⟩ := gd_of hf
      refine wk_sld G hX hbl hbA h4 dL_law_38 ?_
      refine wk_bipush (v := (31 : Int32)) G dL_law_39 (by decide) ?_
      refine wk_iand G dL_law_41 ?_
      obtain ⟨v5, ev5, hf⟩ := nm_ex hf
      refine wk_nme ev5 ?_
      obtain ⟨j585, ej585, hf⟩ := nm_ex hf
      have J585 : ∀ (M6 : Mem), j585 M6 = some o → Wk p l e room_1 s m args below meth c D cI cZ ad A 4 87 56411 (lw_Z below args s) M6 585 [(0, .ref sb), (1, .ref (ad 0)), (2, .ref (ad 56)), (3, .int v1)] [] := by
        intro M6 hf
        replace hf := jn1 ej585 hf
        obtain ⟨v7, ev7, hf⟩ := nm_ex hf
        refine wk_iinc (v := v7) (lv' := [(3, .int v7), (0, .ref sb), (1, .ref (ad 0)), (2, .ref (ad 56))]) G 3 dL_law_585 rfl (by rw [ev7]; rfl) (by decide) rfl ?_
        refine wk_goto (tgt := 28) G dL_law_588 (by decide) ?_
        refine wk_sub [1, 2, 3, 0] rfl ?_
        exact hI _ (Option.some.inj hf).symm
      by_cases c8_0 : v5 = (0 : Int32)
      · replace hf := it_t c8_0 hf
        refine wk_tableIn (off := 82) (tgt := 124) G dL_law_42 (by rw [c8_0]; decide) (by rw [c8_0]; decide) (by rw [c8_0]; rfl) (by decide) ?_
        refine wk_aload_n G 1 dL_law_124 rfl rfl ?_
        refine wk_aload_n G 0 dL_law_125 rfl rfl ?_
        refine wk_iload_n G 3 dL_law_126 rfl rfl ?_
        refine wk_iconst (v := (1 : Int32)) G dL_law_127 (by decide) ?_
        refine wk_iadd G dL_law_128 ?_
        obtain ⟨h9, hf⟩ := gd_of hf
        refine wk_sld G hX hbl hbA h9 dL_law_129 ?_
        refine wk_aload_n G 0 dL_law_130 rfl rfl ?_
        refine wk_iload_n G 3 dL_law_131 rfl rfl ?_
        refine wk_iconst (v := (2 : Int32)) G dL_law_132 (by decide) ?_
        refine wk_iadd G dL_law_133 ?_
        obtain ⟨h10, hf⟩ := gd_of hf
        refine wk_sld G hX hbl hbA h10 dL_law_134 ?_
        obtain ⟨⟨r11, M12⟩, q13, hf⟩ := bd_of hf
        replace hf := un2_of hf
        refine wk_callVi (As := [.int (xs (Int32.toNatClampNeg (v1 + (1 : Int32)))), .int (xs (Int32.toNatClampNeg (v1 + (2 : Int32))))]) (rest := []) (ci := 6) G 0 (by decide) (c_X6_behaviour l D cI cZ ad (xs (Int32.toNatClampNeg (v1 + (1 : Int32)))) (xs (Int32.toNatClampNeg (v1 + (2 : Int32)))) M2 r11 M12 q13) (cwV 2 G.2.2.2.2.1 gL_law_X6_behaviour rfl rfl rfl (by decide +kernel) ⟨Nat.le_of_ble_eq_true rfl, Nat.le_of_ble_eq_true rfl⟩) (ck0 cI cZ ad (M2 0)) rfl rfl rfl (Nat.le_of_ble_eq_true rfl) dL_law_135 ⟨by decide, by decide⟩ ?_
        refine wk_aload_n G 2 dL_law_138 rfl rfl ?_
        refine wk_aload_n G 0 dL_law_139 rfl rfl ?_
        refine wk_iload_n G 3 dL_law_140 rfl rfl ?_
        refine wk_iconst (v := (1 : Int32)) G dL_law_141 (by decide) ?_
        refine wk_iadd G dL_law_142 ?_
        obtain ⟨h14, hf⟩ := gd_of hf
        refine wk_sld G hX hbl hbA h14 dL_law_143 ?_
        refine wk_aload_n G 0 dL_law_144 rfl rfl ?_
        refine wk_iload_n G 3 dL_law_145 rfl rfl ?_
        refine wk_iconst (v := (2 : Int32)) G dL_law_146 (by decide) ?_
        refine wk_iadd G dL_law_147 ?_
        obtain ⟨h15, hf⟩ := gd_of hf
        refine wk_sld G hX hbl hbA h15 dL_law_148 ?_
        obtain ⟨⟨r16, M17⟩, q18, hf⟩ := bd_of hf
        replace hf := un2_of hf
        refine wk_callVi (As := [.int (xs (Int32.toNatClampNeg (v1 + (1 : Int32)))), .int (xs (Int32.toNatClampNeg (v1 + (2 : Int32))))]) (rest := [.int r11]) (ci := 7) G 56 (by decide) (c_X7_behaviour l D cI cZ ad (xs (Int32.toNatClampNeg (v1 + (1 : Int32)))) (xs (Int32.toNatClampNeg (v1 + (2 : Int32)))) M12 r16 M17 q18) (cwV 2 G.2.2.2.2.1 gL_law_X7_behaviour rfl rfl rfl (by decide +kernel) ⟨Nat.le_of_ble_eq_true rfl, Nat.le_of_ble_eq_true rfl⟩) (ck56 cI cZ ad (M12 56)) rfl rfl rfl (Nat.le_of_ble_eq_true rfl) dL_law_149 ⟨by decide, by decide⟩ ?_
        refine wk_icmp_eq (tgt := 585) G dL_law_152 (by decide) (fun c19 => ?_) (fun c19 => ?_)
        · replace hf := it_t c19 hf
          exact J585 M17 hf
        · replace hf := it_f c19 hf
          refine wk_iconst (v := (0 : Int32)) G dL_law_155 (by decide) ?_
          exact wk_lret G ha hAe hr hlocks dL_law_156 (hE _ (Option.some.inj hf).symm)
      · replace hf := it_f c8_0 hf
        by_cases c8_1 : v5 = (1 : Int32)
        · replace hf := it_t c8_1 hf
          refine wk_tableIn (off := 115) (tgt := 157) G dL_law_42 (by rw [c8_1]; decide) (by rw [c8_1]; decide) (by rw [c8_1]; rfl) (by decide) ?_
          refine wk_aload_n G 1 dL_law_157 rfl rfl ?_
          refine wk_aload_n G 0 dL_law_158 rfl rfl ?_
          refine wk_iload_n G 3 dL_law_159 rfl rfl ?_
          refine wk_iconst (v := (1 : Int32)) G dL_law_160 (by decide) ?_
          refine wk_iadd G dL_law_161 ?_
          obtain ⟨h20, hf⟩ := gd_of hf
          refine wk_sld G hX hbl hbA h20 dL_law_162 ?_
          refine wk_aload_n G 0 dL_law_163 rfl rfl ?_
          refine wk_iload_n G 3 dL_law_164 rfl rfl ?_
          refine wk_iconst (v := (2 : Int32)) G dL_law_165 (by decide) ?_
          refine wk_iadd G dL_law_166 ?_
          obtain ⟨h21, hf⟩ := gd_of hf
          refine wk_sld G hX hbl hbA h21 dL_law_167 ?_
          refine wk_aload_n G 0 dL_law_168 rfl rfl ?_
          refine wk_iload_n G 3 dL_law_169 rfl rfl ?_
          refine wk_iconst (v := (3 : Int32)) G dL_law_170 (by decide) ?_
          refine wk_iadd G dL_law_171 ?_
          obtain ⟨h22, hf⟩ := gd_of hf
          refine wk_sld G hX hbl hbA h22 dL_law_172 ?_
          obtain ⟨⟨r23, M24⟩, q25, hf⟩ := bd_of hf
          replace hf := un2_of hf
          refine wk_callVi (As := [.int (xs (Int32.toNatClampNeg (v1 + (1 : Int32)))), .int (xs (Int32.toNatClampNeg (v1 + (2 : Int32)))), .int (xs (Int32.toNatClampNeg (v1 + (3 : Int32))))]) (rest := []) (ci := 6) G 0 (by decide) (c_X6_delay l D cI cZ ad (xs (Int32.toNatClampNeg (v1 + (1 : Int32)))) (xs (Int32.toNatClampNeg (v1 + (2 : Int32)))) (xs (Int32.toNatClampNeg (v1 + (3 : Int32)))) M2 r23 M24 q25) (cwV 3 G.2.2.2.2.1 gL_law_X6_delay rfl rfl rfl (by decide +kernel) ⟨Nat.le_of_ble_eq_true rfl, Nat.le_of_ble_eq_true rfl⟩) (ck0 cI cZ ad (M2 0)) rfl rfl rfl (Nat.le_of_ble_eq_true rfl) dL_law_173 ⟨by decide, by decide⟩ ?_
          refine wk_aload_n G 2 dL_law_176 rfl rfl ?_
          refine wk_aload_n G 0 dL_law_177 rfl rfl ?_
          refine wk_iload_n G 3 dL_law_178 rfl rfl ?_
          refine wk_iconst (v := (1 : Int32)) G dL_law_179 (by decide) ?_
          refine wk_iadd G dL_law_180 ?_
          obtain ⟨h26, hf⟩ := gd_of hf
          refine wk_sld G hX hbl hbA h26 dL_law_181 ?_
          refine wk_aload_n G 0 dL_law_182 rfl rfl ?_
          refine wk_iload_n G 3 dL_law_183 rfl rfl ?_
          refine wk_iconst (v := (2 : Int32)) G dL_law_184 (by decide) ?_
          refine wk_iadd G dL_law_185 ?_
          obtain ⟨h27, hf⟩ := gd_of hf
          refine wk_sld G hX hbl hbA h27 dL_law_186 ?_
          refine wk_aload_n G 0 dL_law_187 rfl rfl ?_
          refine wk_iload_n G 3 dL_law_188 rfl rfl ?_
          refine wk_iconst (v := (3 : Int32)) G dL_law_189 (by decide) ?_
          refine wk_iadd G dL_law_190 ?_
          obtain ⟨h28, hf⟩ := gd_of hf
          refine wk_sld G hX hbl hbA h28 dL_law_191 ?_
          obtain ⟨⟨r29, M30⟩, q31, hf⟩ := bd_of hf
          replace hf := un2_of hf
          refine wk_callVi (As := [.int (xs (Int32.toNatClampNeg (v1 + (1 : Int32)))), .int (xs (Int32.toNatClampNeg (v1 + (2 : Int32)))), .int (xs (Int32.toNatClampNeg (v1 + (3 : Int32))))]) (rest := [.int r23]) (ci := 7) G 56 (by decide) (c_X7_delay l D cI cZ ad (xs (Int32.toNatClampNeg (v1 + (1 : Int32)))) (xs (Int32.toNatClampNeg (v1 + (2 : Int32)))) (xs (Int32.toNatClampNeg (v1 + (3 : Int32)))) M24 r29 M30 q31) (cwV 3 G.2.2.2.2.1 gL_law_X7_delay rfl rfl rfl (by decide +kernel) ⟨Nat.le_of_ble_eq_true rfl, Nat.le_of_ble_eq_true rfl⟩) (ck56 cI cZ ad (M24 56)) rfl rfl rfl (Nat.le_of_ble_eq_true rfl) dL_law_192 ⟨by decide, by decide⟩ ?_
          refine wk_icmp_eq (tgt := 585) G dL_law_195 (by decide) (fun c32 => ?_) (fun c32 => ?_)
          · replace hf := it_t c32 hf
            exact J585 M30 hf
          · replace hf := it_f c32 hf
            refine wk_iconst (v := (0 : Int32)) G dL_law_198 (by decide) ?_
            exact wk_lret G ha hAe hr hlocks dL_law_199 (hE _ (Option.some.inj hf).symm)
        · replace hf := it_f c8_1 hf
          by_cases c8_2 : v5 = (2 : Int32)
          · replace hf := it_t c8_2 hf
            refine wk_tableIn (off := 158) (tgt := 200) G dL_law_42 (by rw [c8_2]; decide) (by rw [c8_2]; decide) (by rw [c8_2]; rfl) (by decide) ?_
            refine wk_aload_n G 1 dL_law_200 rfl rfl ?_
            refine wk_aload_n G 0 dL_law_201 rfl rfl ?_
            refine wk_iload_n G 3 dL_law_202 rfl rfl ?_
            refine wk_iconst (v := (1 : Int32)) G dL_law_203 (by decide) ?_
            refine wk_iadd G dL_law_204 ?_
            obtain ⟨h33, hf⟩ := gd_of hf
            refine wk_sld G hX hbl hbA h33 dL_law_205 ?_
            refine wk_aload_n G 0 dL_law_206 rfl rfl ?_
            refine wk_iload_n G 3 dL_law_207 rfl rfl ?_
            refine wk_iconst (v := (2 : Int32)) G dL_law_208 (by decide) ?_
            refine wk_iadd G dL_law_209 ?_
            obtain ⟨h34, hf⟩ := gd_of hf
            refine wk_sld G hX hbl hbA h34 dL_law_210 ?_
            obtain ⟨⟨r35, M36⟩, q37, hf⟩ := bd_of hf
            replace hf := un2_of hf
            refine wk_callVi (As := [.int (xs (Int32.toNatClampNeg (v1 + (1 : Int32)))), .int (xs (Int32.toNatClampNeg (v1 + (2 : Int32))))]) (rest := []) (ci := 6) G 0 (by decide) (c_X6_tell l D cI cZ ad (xs (Int32.toNatClampNeg (v1 + (1 : Int32)))) (xs (Int32.toNatClampNeg (v1 + (2 : Int32)))) M2 r35 M36 q37) (cwV 2 G.2.2.2.2.1 gL_law_X6_tell rfl rfl rfl (by decide +kernel) ⟨Nat.le_of_ble_eq_true rfl, Nat.le_of_ble_eq_true rfl⟩) (ck0 cI cZ ad (M2 0)) rfl rfl rfl (Nat.le_of_ble_eq_true rfl) dL_law_211 ⟨by decide, by decide⟩ ?_
            refine wk_aload_n G 2 dL_law_214 rfl rfl ?_
            refine wk_aload_n G 0 dL_law_215 rfl rfl ?_
            refine wk_iload_n G 3 dL_law_216 rfl rfl ?_
            refine wk_iconst (v := (1 : Int32)) G dL_law_217 (by decide) ?_
            refine wk_iadd G dL_law_218 ?_
            obtain ⟨h38, hf⟩ := gd_of hf
            refine wk_sld G hX hbl hbA h38 dL_law_219 ?_
            refine wk_aload_n G 0 dL_law_220 rfl rfl ?_
            refine wk_iload_n G 3 dL_law_221 rfl rfl ?_
            refine wk_iconst (v := (2 : Int32)) G dL_law_222 (by decide) ?_
            refine wk_iadd G dL_law_223 ?_
            obtain ⟨h39, hf⟩ := gd_of hf
            refine wk_sld G hX hbl hbA h39 dL_law_224 ?_
            obtain ⟨⟨r40, M41⟩, q42, hf⟩ := bd_of hf
            replace hf := un2_of hf
            refine wk_callVi (As := [.int (xs (Int32.toNatClampNeg (v1 + (1 : Int32)))), .int (xs (Int32.toNatClampNeg (v1 + (2 : Int32))))]) (rest := [.int r35]) (ci := 7) G 56 (by decide) (c_X7_tell l D cI cZ ad (xs (Int32.toNatClampNeg (v1 + (1 : Int32)))) (xs (Int32.toNatClampNeg (v1 + (2 : Int32)))) M36 r40 M41 q42) (cwV 2 G.2.2.2.2.1 gL_law_X7_tell rfl rfl rfl (by decide +kernel) ⟨Nat.le_of_ble_eq_true rfl, Nat.le_of_ble_eq_true rfl⟩) (ck56 cI cZ ad (M36 56)) rfl rfl rfl (Nat.le_of_ble_eq_true rfl) dL_law_225 ⟨by decide, by decide⟩ ?_
            refine wk_icmp_eq (tgt := 585) G dL_law_228 (by decide) (fun c43 => ?_) (fun c43 => ?_)
            · replace hf := it_t c43 hf
              exact J585 M41 hf
            · replace hf := it_f c43 hf
              refine wk_iconst (v := (0 : Int32)) G dL_law_231 (by decide) ?_
              exact wk_lret G ha hAe hr hlocks dL_law_232 (hE _ (Option.some.inj hf).symm)
          · replace hf := it_f c8_2 hf
            by_cases c8_3 : v5 = (3 : Int32)
            · replace hf := it_t c8_3 hf
              refine wk_tableIn (off := 191) (tgt := 233) G dL_law_42 (by rw [c8_3]; decide) (by rw [c8_3]; decide) (by rw [c8_3]; rfl) (by decide) ?_
              refine wk_aload_n G 1 dL_law_233 rfl rfl ?_
              refine wk_aload_n G 0 dL_law_234 rfl rfl ?_
              refine wk_iload_n G 3 dL_law_235 rfl rfl ?_
              refine wk_iconst (v := (1 : Int32)) G dL_law_236 (by decide) ?_
              refine wk_iadd G dL_law_237 ?_
              obtain ⟨h44, hf⟩ := gd_of hf
              refine wk_sld G hX hbl hbA h44 dL_law_238 ?_
              refine wk_aload_n G 0 dL_law_239 rfl rfl ?_
              refine wk_iload_n G 3 dL_law_240 rfl rfl ?_
              refine wk_iconst (v := (2 : Int32)) G dL_law_241 (by decide) ?_
              refine wk_iadd G dL_law_242 ?_
              obtain ⟨h45, hf⟩ := gd_of hf
              refine wk_sld G hX hbl hbA h45 dL_law_243 ?_
              refine wk_aload_n G 0 dL_law_244 rfl rfl ?_
              refine wk_iload_n G 3 dL_law_245 rfl rfl ?_
              refine wk_iconst (v := (3 : Int32)) G dL_law_246 (by decide) ?_
              refine wk_iadd G dL_law_247 ?_
              obtain ⟨h46, hf⟩ := gd_of hf
              refine wk_sld G hX hbl hbA h46 dL_law_248 ?_
              refine wk_aload_n G 0 dL_law_249 rfl rfl ?_
              refine wk_iload_n G 3 dL_law_250 rfl rfl ?_
              refine wk_iconst (v := (4 : Int32)) G dL_law_251 (by decide) ?_
              refine wk_iadd G dL_law_252 ?_
              obtain ⟨h47, hf⟩ := gd_of hf
              refine wk_sld G hX hbl hbA h47 dL_law_253 ?_
              obtain ⟨⟨r48, M49⟩, q50, hf⟩ := bd_of hf
              replace hf := un2_of hf
              refine wk_callVi (As := [.int (xs (Int32.toNatClampNeg (v1 + (1 : Int32)))), .int (xs (Int32.toNatClampNeg (v1 + (2 : Int32)))), .int (xs (Int32.toNatClampNeg (v1 + (3 : Int32)))), .int (xs (Int32.toNatClampNeg (v1 + (4 : Int32))))]) (rest := []) (ci := 6) G 0 (by decide) (c_X6_event l D cI cZ ad (xs (Int32.toNatClampNeg (v1 + (1 : Int32)))) (xs (Int32.toNatClampNeg (v1 + (2 : Int32)))) (xs (Int32.toNatClampNeg (v1 + (3 : Int32)))) (xs (Int32.toNatClampNeg (v1 + (4 : Int32)))) M2 r48 M49 q50) (cwV 4 G.2.2.2.2.1 gL_law_X6_event rfl rfl rfl (by decide +kernel) ⟨Nat.le_of_ble_eq_true rfl, Nat.le_of_ble_eq_true rfl⟩) (ck0 cI cZ ad (M2 0)) rfl rfl rfl (Nat.le_of_ble_eq_true rfl) dL_law_254 ⟨by decide, by decide⟩ ?_
              refine wk_aload_n G 2 dL_law_257 rfl rfl ?_
              refine wk_aload_n G 0 dL_law_258 rfl rfl ?_
              refine wk_iload_n G 3 dL_law_259 rfl rfl ?_
              refine wk_iconst (v := (1 : Int32)) G dL_law_260 (by decide) ?_
              refine wk_iadd G dL_law_261 ?_
              obtain ⟨h51, hf⟩ := gd_of hf
              refine wk_sld G hX hbl hbA h51 dL_law_262 ?_
              refine wk_aload_n G 0 dL_law_263 rfl rfl ?_
              refine wk_iload_n G 3 dL_law_264 rfl rfl ?_
              refine wk_iconst (v := (2 : Int32)) G dL_law_265 (by decide) ?_
              refine wk_iadd G dL_law_266 ?_
              obtain ⟨h52, hf⟩ := gd_of hf
              refine wk_sld G hX hbl hbA h52 dL_law_267 ?_
              refine wk_aload_n G 0 dL_law_268 rfl rfl ?_
              refine wk_iload_n G 3 dL_law_269 rfl rfl ?_
              refine wk_iconst (v := (3 : Int32)) G dL_law_270 (by decide) ?_
              refine wk_iadd G dL_law_271 ?_
              obtain ⟨h53, hf⟩ := gd_of hf
              refine wk_sld G hX hbl hbA h53 dL_law_272 ?_
              refine wk_aload_n G 0 dL_law_273 rfl rfl ?_
              refine wk_iload_n G 3 dL_law_274 rfl rfl ?_
              refine wk_iconst (v := (4 : Int32)) G dL_law_275 (by decide) ?_
              refine wk_iadd G dL_law_276 ?_
              obtain ⟨h54, hf⟩ := gd_of hf
              refine wk_sld G hX hbl hbA h54 dL_law_277 ?_
              obtain ⟨⟨r55, M56⟩, q57, hf⟩ := bd_of hf
              replace hf := un2_of hf
              refine wk_callVi (As := [.int (xs (Int32.toNatClampNeg (v1 + (1 : Int32)))), .int (xs (Int32.toNatClampNeg (v1 + (2 : Int32)))), .int (xs (Int32.toNatClampNeg (v1 + (3 : Int32)))), .int (xs (Int32.toNatClampNeg (v1 + (4 : Int32))))]) (rest := [.int r48]) (ci := 7) G 56 (by decide) (c_X7_event l D cI cZ ad (xs (Int32.toNatClampNeg (v1 + (1 : Int32)))) (xs (Int32.toNatClampNeg (v1 + (2 : Int32)))) (xs (Int32.toNatClampNeg (v1 + (3 : Int32)))) (xs (Int32.toNatClampNeg (v1 + (4 : Int32)))) M49 r55 M56 q57) (cwV 4 G.2.2.2.2.1 gL_law_X7_event rfl rfl rfl (by decide +kernel) ⟨Nat.le_of_ble_eq_true rfl, Nat.le_of_ble_eq_true rfl⟩) (ck56 cI cZ ad (M49 56)) rfl rfl rfl (Nat.le_of_ble_eq_true rfl) dL_law_278 ⟨by decide, by decide⟩ ?_
              refine wk_icmp_eq (tgt := 585) G dL_law_281 (by decide) (fun c58 => ?_) (fun c58 => ?_)
              · replace hf := it_t c58 hf
                exact J585 M56 hf
              · replace hf := it_f c58 hf
                refine wk_iconst (v := (0 : Int32)) G dL_law_284 (by decide) ?_
                exact wk_lret G ha hAe hr hlocks dL_law_285 (hE _ (Option.some.inj hf).symm)
            · replace hf := it_f c8_3 hf
              by_cases c8_4 : v5 = (4 : Int32)
              · replace hf := it_t c8_4 hf
                refine wk_tableIn (off := 244) (tgt := 286) G dL_law_42 (by rw [c8_4]; decide) (by rw [c8_4]; decide) (by rw [c8_4]; rfl) (by decide) ?_
                refine wk_aload_n G 1 dL_law_286 rfl rfl ?_
                refine wk_aload_n G 0 dL_law_287 rfl rfl ?_
                refine wk_iload_n G 3 dL_law_288 rfl rfl ?_
                refine wk_iconst (v := (1 : Int32)) G dL_law_289 (by decide) ?_
                refine wk_iadd G dL_law_290 ?_
                obtain ⟨h59, hf⟩ := gd_of hf
                refine wk_sld G hX hbl hbA h59 dL_law_291 ?_
                obtain ⟨⟨r60, M61⟩, q62, hf⟩ := bd_of hf
                replace hf := un2_of hf
                refine wk_callVi (As := [.int (xs (Int32.toNatClampNeg (v1 + (1 : Int32))))]) (rest := []) (ci := 6) G 0 (by decide) (c_X6_drop l D cI cZ ad (xs (Int32.toNatClampNeg (v1 + (1 : Int32)))) M2 r60 M61 q62) (cwV 1 G.2.2.2.2.1 gL_law_X6_drop rfl rfl rfl (by decide +kernel) ⟨Nat.le_of_ble_eq_true rfl, Nat.le_of_ble_eq_true rfl⟩) (ck0 cI cZ ad (M2 0)) rfl rfl rfl (Nat.le_of_ble_eq_true rfl) dL_law_292 ⟨by decide, by decide⟩ ?_
                refine wk_aload_n G 2 dL_law_295 rfl rfl ?_
                refine wk_aload_n G 0 dL_law_296 rfl rfl ?_
                refine wk_iload_n G 3 dL_law_297 rfl rfl ?_
                refine wk_iconst (v := (1 : Int32)) G dL_law_298 (by decide) ?_
                refine wk_iadd G dL_law_299 ?_
                obtain ⟨h63, hf⟩ := gd_of hf
                refine wk_sld G hX hbl hbA h63 dL_law_300 ?_
                obtain ⟨⟨r64, M65⟩, q66, hf⟩ := bd_of hf
                replace hf := un2_of hf
                refine wk_callVi (As := [.int (xs (Int32.toNatClampNeg (v1 + (1 : Int32))))]) (rest := [.int r60]) (ci := 7) G 56 (by decide) (c_X7_drop l D cI cZ ad (xs (Int32.toNatClampNeg (v1 + (1 : Int32)))) M61 r64 M65 q66) (cwV 1 G.2.2.2.2.1 gL_law_X7_drop rfl rfl rfl (by decide +kernel) ⟨Nat.le_of_ble_eq_true rfl, Nat.le_of_ble_eq_true rfl⟩) (ck56 cI cZ ad (M61 56)) rfl rfl rfl (Nat.le_of_ble_eq_true rfl) dL_law_301 ⟨by decide, by decide⟩ ?_
                refine wk_icmp_eq (tgt := 585) G dL_law_304 (by decide) (fun c67 => ?_) (fun c67 => ?_)
                · replace hf := it_t c67 hf
                  exact J585 M65 hf
                · replace hf := it_f c67 hf
                  refine wk_iconst (v := (0 : Int32)) G dL_law_307 (by decide) ?_
                  exact wk_lret G ha hAe hr hlocks dL_law_308 (hE _ (Option.some.inj hf).symm)
              · replace hf := it_f c8_4 hf
                by_cases c8_5 : v5 = (5 : Int32)
                · replace hf := it_t c8_5 hf
                  refine wk_tableIn (off := 267) (tgt := 309) G dL_law_42 (by rw [c8_5]; decide) (by rw [c8_5]; decide) (by rw [c8_5]; rfl) (by decide) ?_
                  refine wk_aload_n G 1 dL_law_309 rfl rfl ?_
                  refine wk_aload_n G 0 dL_law_310 rfl rfl ?_
                  refine wk_iload_n G 3 dL_law_311 rfl rfl ?_
                  refine wk_iconst (v := (1 : Int32)) G dL_law_312 (by decide) ?_
                  refine wk_iadd G dL_law_313 ?_
                  obtain ⟨h68, hf⟩ := gd_of hf
                  refine wk_sld G hX hbl hbA h68 dL_law_314 ?_
                  refine wk_aload_n G 0 dL_law_315 rfl rfl ?_
                  refine wk_iload_n G 3 dL_law_316 rfl rfl ?_
                  refine wk_iconst (v := (2 : Int32)) G dL_law_317 (by decide) ?_
                  refine wk_iadd G dL_law_318 ?_
                  obtain ⟨h69, hf⟩ := gd_of hf
                  refine wk_sld G hX hbl hbA h69 dL_law_319 ?_
                  obtain ⟨r70, q71, hf⟩ := bd_of hf
                  refine wk_callVi (As := [.int (xs (Int32.toNatClampNeg (v1 + (1 : Int32)))), .int (xs (Int32.toNatClampNeg (v1 + (2 : Int32))))]) (rest := []) (ci := 6) G 0 (by decide) (c_X6_told l D cI cZ ad (xs (Int32.toNatClampNeg (v1 + (1 : Int32)))) (xs (Int32.toNatClampNeg (v1 + (2 : Int32)))) M2 r70 q71) (cwV 2 G.2.2.2.2.1 gL_law_X6_told rfl rfl rfl (by decide +kernel) ⟨Nat.le_of_ble_eq_true rfl, Nat.le_of_ble_eq_true rfl⟩) (ck0 cI cZ ad (M2 0)) rfl rfl rfl (Nat.le_of_ble_eq_true rfl) dL_law_320 ⟨by decide, by decide⟩ ?_
                  refine wk_aload_n G 2 dL_law_323 rfl rfl ?_
                  refine wk_aload_n G 0 dL_law_324 rfl rfl ?_
                  refine wk_iload_n G 3 dL_law_325 rfl rfl ?_
                  refine wk_iconst (v := (1 : Int32)) G dL_law_326 (by decide) ?_
                  refine wk_iadd G dL_law_327 ?_
                  obtain ⟨h72, hf⟩ := gd_of hf
                  refine wk_sld G hX hbl hbA h72 dL_law_328 ?_
                  refine wk_aload_n G 0 dL_law_329 rfl rfl ?_
                  refine wk_iload_n G 3 dL_law_330 rfl rfl ?_
                  refine wk_iconst (v := (2 : Int32)) G dL_law_331 (by decide) ?_
                  refine wk_iadd G dL_law_332 ?_
                  obtain ⟨h73, hf⟩ := gd_of hf
                  refine wk_sld G hX hbl hbA h73 dL_law_333 ?_
                  obtain ⟨r74, q75, hf⟩ := bd_of hf
                  refine wk_callVi (As := [.int (xs (Int32.toNatClampNeg (v1 + (1 : Int32)))), .int (xs (Int32.toNatClampNeg (v1 + (2 : Int32))))]) (rest := [.int r70]) (ci := 7) G 56 (by decide) (c_X7_told l D cI cZ ad (xs (Int32.toNatClampNeg (v1 + (1 : Int32)))) (xs (Int32.toNatClampNeg (v1 + (2 : Int32)))) M2 r74 q75) (cwV 2 G.2.2.2.2.1 gL_law_X7_told rfl rfl rfl (by decide +kernel) ⟨Nat.le_of_ble_eq_true rfl, Nat.le_of_ble_eq_true rfl⟩) (ck56 cI cZ ad (M2 56)) rfl rfl rfl (Nat.le_of_ble_eq_true rfl) dL_law_334 ⟨by decide, by decide⟩ ?_
                  refine wk_icmp_eq (tgt := 585) G dL_law_337 (by decide) (fun c76 => ?_) (fun c76 => ?_)
                  · replace hf := it_t c76 hf
                    exact J585 M2 hf
                  · replace hf := it_f c76 hf
                    refine wk_iconst (v := (0 : Int32)) G dL_law_340 (by decide) ?_
                    exact wk_lret G ha hAe hr hlocks dL_law_341 (hE _ (Option.some.inj hf).symm)
                · replace hf := it_f c8_5 hf
                  by_cases c8_6 : v5 = (6 : Int32)
                  · replace hf := it_t c8_6 hf
                    refine wk_tableIn (off := 300) (tgt := 342) G dL_law_42 (by rw [c8_6]; decide) (by rw [c8_6]; decide) (by rw [c8_6]; rfl) (by decide) ?_
                    refine wk_aload_n G 1 dL_law_342 rfl rfl ?_
                    refine wk_aload_n G 0 dL_law_343 rfl rfl ?_
                    refine wk_iload_n G 3 dL_law_344 rfl rfl ?_
                    refine wk_iconst (v := (1 : Int32)) G dL_law_345 (by decide) ?_
                    refine wk_iadd G dL_law_346 ?_
                    obtain ⟨h77, hf⟩ := gd_of hf
                    refine wk_sld G hX hbl hbA h77 dL_law_347 ?_
                    obtain ⟨⟨r78, M79⟩, q80, hf⟩ := bd_of hf
                    replace hf := un2_of hf
                    refine wk_callVi (As := [.int (xs (Int32.toNatClampNeg (v1 + (1 : Int32))))]) (rest := []) (ci := 6) G 0 (by decide) (c_X6_play l D cI cZ ad (xs (Int32.toNatClampNeg (v1 + (1 : Int32)))) M2 r78 M79 q80) (cwV 1 G.2.2.2.2.1 gL_law_X6_play rfl rfl rfl (by decide +kernel) ⟨Nat.le_of_ble_eq_true rfl, Nat.le_of_ble_eq_true rfl⟩) (ck0 cI cZ ad (M2 0)) rfl rfl rfl (Nat.le_of_ble_eq_true rfl) dL_law_348 ⟨by decide, by decide⟩ ?_
                    refine wk_aload_n G 2 dL_law_351 rfl rfl ?_
                    refine wk_aload_n G 0 dL_law_352 rfl rfl ?_
                    refine wk_iload_n G 3 dL_law_353 rfl rfl ?_
                    refine wk_iconst (v := (1 : Int32)) G dL_law_354 (by decide) ?_
                    refine wk_iadd G dL_law_355 ?_
                    obtain ⟨h81, hf⟩ := gd_of hf
                    refine wk_sld G hX hbl hbA h81 dL_law_356 ?_
                    obtain ⟨⟨r82, M83⟩, q84, hf⟩ := bd_of hf
                    replace hf := un2_of hf
                    refine wk_callVi (As := [.int (xs (Int32.toNatClampNeg (v1 + (1 : Int32))))]) (rest := [.int r78]) (ci := 7) G 56 (by decide) (c_X7_play l D cI cZ ad (xs (Int32.toNatClampNeg (v1 + (1 : Int32)))) M79 r82 M83 q84) (cwV 1 G.2.2.2.2.1 gL_law_X7_play rfl rfl rfl (by decide +kernel) ⟨Nat.le_of_ble_eq_true rfl, Nat.le_of_ble_eq_true rfl⟩) (ck56 cI cZ ad (M79 56)) rfl rfl rfl (Nat.le_of_ble_eq_true rfl) dL_law_357 ⟨by decide, by decide⟩ ?_
                    refine wk_icmp_eq (tgt := 585) G dL_law_360 (by decide) (fun c85 => ?_) (fun c85 => ?_)
                    · replace hf := it_t c85 hf
                      exact J585 M83 hf
                    · replace hf := it_f c85 hf
                      refine wk_iconst (v := (0 : Int32)) G dL_law_363 (by decide) ?_
                      exact wk_lret G ha hAe hr hlocks dL_law_364 (hE _ (Option.some.inj hf).symm)
                  · replace hf := it_f c8_6 hf
                    by_cases c8_7 : v5 = (7 : Int32)
                    · replace hf := it_t c8_7 hf
                      refine wk_tableIn (off := 323) (tgt := 365) G dL_law_42 (by rw [c8_7]; decide) (by rw [c8_7]; decide) (by rw [c8_7]; rfl) (by decide) ?_
                      refine wk_aload_n G 1 dL_law_365 rfl rfl ?_
                      refine wk_aload_n G 0 dL_law_366 rfl rfl ?_
                      refine wk_iload_n G 3 dL_law_367 rfl rfl ?_
                      refine wk_iconst (v := (1 : Int32)) G dL_law_368 (by decide) ?_
                      refine wk_iadd G dL_law_369 ?_
                      obtain ⟨h86, hf⟩ := gd_of hf
                      refine wk_sld G hX hbl hbA h86 dL_law_370 ?_
                      refine wk_aload_n G 0 dL_law_371 rfl rfl ?_
                      refine wk_iload_n G 3 dL_law_372 rfl rfl ?_
                      refine wk_iconst (v := (2 : Int32)) G dL_law_373 (by decide) ?_
                      refine wk_iadd G dL_law_374 ?_
                      obtain ⟨h87, hf⟩ := gd_of hf
                      refine wk_sld G hX hbl hbA h87 dL_law_375 ?_
                      obtain ⟨r88, q89, hf⟩ := bd_of hf
                      refine wk_callVi (As := [.int (xs (Int32.toNatClampNeg (v1 + (1 : Int32)))), .int (xs (Int32.toNatClampNeg (v1 + (2 : Int32))))]) (rest := []) (ci := 6) G 0 (by decide) (c_X6_height l D cI cZ ad (xs (Int32.toNatClampNeg (v1 + (1 : Int32)))) (xs (Int32.toNatClampNeg (v1 + (2 : Int32)))) M2 r88 q89) (cwV 2 G.2.2.2.2.1 gL_law_X6_height rfl rfl rfl (by decide +kernel) ⟨Nat.le_of_ble_eq_true rfl, Nat.le_of_ble_eq_true rfl⟩) (ck0 cI cZ ad (M2 0)) rfl rfl rfl (Nat.le_of_ble_eq_true rfl) dL_law_376 ⟨by decide, by decide⟩ ?_
                      refine wk_aload_n G 2 dL_law_379 rfl rfl ?_
                      refine wk_aload_n G 0 dL_law_380 rfl rfl ?_
                      refine wk_iload_n G 3 dL_law_381 rfl rfl ?_
                      refine wk_iconst (v := (1 : Int32)) G dL_law_382 (by decide) ?_
                      refine wk_iadd G dL_law_383 ?_
                      obtain ⟨h90, hf⟩ := gd_of hf
                      refine wk_sld G hX hbl hbA h90 dL_law_384 ?_
                      refine wk_aload_n G 0 dL_law_385 rfl rfl ?_
                      refine wk_iload_n G 3 dL_law_386 rfl rfl ?_
                      refine wk_iconst (v := (2 : Int32)) G dL_law_387 (by decide) ?_
                      refine wk_iadd G dL_law_388 ?_
                      obtain ⟨h91, hf⟩ := gd_of hf
                      refine wk_sld G hX hbl hbA h91 dL_law_389 ?_
                      obtain ⟨r92, q93, hf⟩ := bd_of hf
                      refine wk_callVi (As := [.int (xs (Int32.toNatClampNeg (v1 + (1 : Int32)))), .int (xs (Int32.toNatClampNeg (v1 + (2 : Int32))))]) (rest := [.int r88]) (ci := 7) G 56 (by decide) (c_X7_height l D cI cZ ad (xs (Int32.toNatClampNeg (v1 + (1 : Int32)))) (xs (Int32.toNatClampNeg (v1 + (2 : Int32)))) M2 r92 q93) (cwV 2 G.2.2.2.2.1 gL_law_X7_height rfl rfl rfl (by decide +kernel) ⟨Nat.le_of_ble_eq_true rfl, Nat.le_of_ble_eq_true rfl⟩) (ck56 cI cZ ad (M2 56)) rfl rfl rfl (Nat.le_of_ble_eq_true rfl) dL_law_390 ⟨by decide, by decide⟩ ?_
                      refine wk_icmp_eq (tgt := 585) G dL_law_393 (by decide) (fun c94 => ?_) (fun c94 => ?_)
                      · replace hf := it_t c94 hf
                        exact J585 M2 hf
                      · replace hf := it_f c94 hf
                        refine wk_iconst (v := (0 : Int32)) G dL_law_396 (by decide) ?_
                        exact wk_lret G ha hAe hr hlocks dL_law_397 (hE _ (Option.some.inj hf).symm)
                    · replace hf := it_f c8_7 hf
                      by_cases c8_8 : v5 = (8 : Int32)
                      · replace hf := it_t c8_8 hf
                        refine wk_tableIn (off := 356) (tgt := 398) G dL_law_42 (by rw [c8_8]; decide) (by rw [c8_8]; decide) (by rw [c8_8]; rfl) (by decide) ?_
                        refine wk_aload_n G 1 dL_law_398 rfl rfl ?_
                        refine wk_aload_n G 0 dL_law_399 rfl rfl ?_
                        refine wk_iload_n G 3 dL_law_400 rfl rfl ?_
                        refine wk_iconst (v := (1 : Int32)) G dL_law_401 (by decide) ?_
                        refine wk_iadd G dL_law_402 ?_
                        obtain ⟨h95, hf⟩ := gd_of hf
                        refine wk_sld G hX hbl hbA h95 dL_law_403 ?_
                        obtain ⟨r96, q97, hf⟩ := bd_of hf
                        refine wk_callVi (As := [.int (xs (Int32.toNatClampNeg (v1 + (1 : Int32))))]) (rest := []) (ci := 6) G 0 (by decide) (c_X6_holds l D cI cZ ad (xs (Int32.toNatClampNeg (v1 + (1 : Int32)))) M2 r96 q97) (cwV 1 G.2.2.2.2.1 gL_law_X6_holds rfl rfl rfl (by decide +kernel) ⟨Nat.le_of_ble_eq_true rfl, Nat.le_of_ble_eq_true rfl⟩) (ck0 cI cZ ad (M2 0)) rfl rfl rfl (Nat.le_of_ble_eq_true rfl) dL_law_404 ⟨by decide, by decide⟩ ?_
                        refine wk_aload_n G 2 dL_law_407 rfl rfl ?_
                        refine wk_aload_n G 0 dL_law_408 rfl rfl ?_
                        refine wk_iload_n G 3 dL_law_409 rfl rfl ?_
                        refine wk_iconst (v := (1 : Int32)) G dL_law_410 (by decide) ?_
                        refine wk_iadd G dL_law_411 ?_
                        obtain ⟨h98, hf⟩ := gd_of hf
                        refine wk_sld G hX hbl hbA h98 dL_law_412 ?_
                        obtain ⟨r99, q100, hf⟩ := bd_of hf
                        refine wk_callVi (As := [.int (xs (Int32.toNatClampNeg (v1 + (1 : Int32))))]) (rest := [.int r96]) (ci := 7) G 56 (by decide) (c_X7_holds l D cI cZ ad (xs (Int32.toNatClampNeg (v1 + (1 : Int32)))) M2 r99 q100) (cwV 1 G.2.2.2.2.1 gL_law_X7_holds rfl rfl rfl (by decide +kernel) ⟨Nat.le_of_ble_eq_true rfl, Nat.le_of_ble_eq_true rfl⟩) (ck56 cI cZ ad (M2 56)) rfl rfl rfl (Nat.le_of_ble_eq_true rfl) dL_law_413 ⟨by decide, by decide⟩ ?_
                        refine wk_icmp_eq (tgt := 585) G dL_law_416 (by decide) (fun c101 => ?_) (fun c101 => ?_)
                        · replace hf := it_t c101 hf
                          exact J585 M2 hf
                        · replace hf := it_f c101 hf
                          refine wk_iconst (v := (0 : Int32)) G dL_law_419 (by decide) ?_
                          exact wk_lret G ha hAe hr hlocks dL_law_420 (hE _ (Option.some.inj hf).symm)
                      · replace hf := it_f c8_8 hf
                        by_cases c8_9 : v5 = (9 : Int32)
                        · replace hf := it_t c8_9 hf
                          refine wk_tableIn (off := 379) (tgt := 421) G dL_law_42 (by rw [c8_9]; decide) (by rw [c8_9]; decide) (by rw [c8_9]; rfl) (by decide) ?_
                          refine wk_aload_n G 1 dL_law_421 rfl rfl ?_
                          obtain ⟨r102, q103, hf⟩ := bd_of hf
                          refine wk_callVi (As := []) (rest := []) (ci := 6) G 0 (by decide) (c_X6_fails l D cI cZ ad M2 r102 q103) (cwV 0 G.2.2.2.2.1 gL_law_X6_fails rfl rfl rfl (by decide +kernel) ⟨Nat.le_of_ble_eq_true rfl, Nat.le_of_ble_eq_true rfl⟩) (ck0 cI cZ ad (M2 0)) rfl rfl rfl (Nat.le_of_ble_eq_true rfl) dL_law_422 ⟨by decide, by decide⟩ ?_
                          refine wk_aload_n G 2 dL_law_425 rfl rfl ?_
                          obtain ⟨r104, q105, hf⟩ := bd_of hf
                          refine wk_callVi (As := []) (rest := [.int r102]) (ci := 7) G 56 (by decide) (c_X7_fails l D cI cZ ad M2 r104 q105) (cwV 0 G.2.2.2.2.1 gL_law_X7_fails rfl rfl rfl (by decide +kernel) ⟨Nat.le_of_ble_eq_true rfl, Nat.le_of_ble_eq_true rfl⟩) (ck56 cI cZ ad (M2 56)) rfl rfl rfl (Nat.le_of_ble_eq_true rfl) dL_law_426 ⟨by decide, by decide⟩ ?_
                          refine wk_icmp_eq (tgt := 585) G dL_law_429 (by decide) (fun c106 => ?_) (fun c106 => ?_)
                          · replace hf := it_t c106 hf
                            exact J585 M2 hf
                          · replace hf := it_f c106 hf
                            refine wk_iconst (v := (0 : Int32)) G dL_law_432 (by decide) ?_
                            exact wk_lret G ha hAe hr hlocks dL_law_433 (hE _ (Option.some.inj hf).symm)
                        · replace hf := it_f c8_9 hf
                          by_cases c8_10 : v5 = (10 : Int32)
                          · replace hf := it_t c8_10 hf
                            refine wk_tableIn (off := 392) (tgt := 434) G dL_law_42 (by rw [c8_10]; decide) (by rw [c8_10]; decide) (by rw [c8_10]; rfl) (by decide) ?_
                            refine wk_aload_n G 1 dL_law_434 rfl rfl ?_
                            refine wk_aload_n G 0 dL_law_435 rfl rfl ?_
                            refine wk_iload_n G 3 dL_law_436 rfl rfl ?_
                            refine wk_iconst (v := (1 : Int32)) G dL_law_437 (by decide) ?_
                            refine wk_iadd G dL_law_438 ?_
                            obtain ⟨h107, hf⟩ := gd_of hf
                            refine wk_sld G hX hbl hbA h107 dL_law_439 ?_
                            refine wk_aload_n G 0 dL_law_440 rfl rfl ?_
                            refine wk_iload_n G 3 dL_law_441 rfl rfl ?_
                            refine wk_iconst (v := (2 : Int32)) G dL_law_442 (by decide) ?_
                            refine wk_iadd G dL_law_443 ?_
                            obtain ⟨h108, hf⟩ := gd_of hf
                            refine wk_sld G hX hbl hbA h108 dL_law_444 ?_
                            obtain ⟨r109, q110, hf⟩ := bd_of hf
                            refine wk_callVi (As := [.int (xs (Int32.toNatClampNeg (v1 + (1 : Int32)))), .int (xs (Int32.toNatClampNeg (v1 + (2 : Int32))))]) (rest := []) (ci := 6) G 0 (by decide) (c_X6_letter l D cI cZ ad (xs (Int32.toNatClampNeg (v1 + (1 : Int32)))) (xs (Int32.toNatClampNeg (v1 + (2 : Int32)))) M2 r109 q110) (cwV 2 G.2.2.2.2.1 gL_law_X6_letter rfl rfl rfl (by decide +kernel) ⟨Nat.le_of_ble_eq_true rfl, Nat.le_of_ble_eq_true rfl⟩) (ck0 cI cZ ad (M2 0)) rfl rfl rfl (Nat.le_of_ble_eq_true rfl) dL_law_445 ⟨by decide, by decide⟩ ?_
                            refine wk_aload_n G 2 dL_law_448 rfl rfl ?_
                            refine wk_aload_n G 0 dL_law_449 rfl rfl ?_
                            refine wk_iload_n G 3 dL_law_450 rfl rfl ?_
                            refine wk_iconst (v := (1 : Int32)) G dL_law_451 (by decide) ?_
                            refine wk_iadd G dL_law_452 ?_
                            obtain ⟨h111, hf⟩ := gd_of hf
                            refine wk_sld G hX hbl hbA h111 dL_law_453 ?_
                            refine wk_aload_n G 0 dL_law_454 rfl rfl ?_
                            refine wk_iload_n G 3 dL_law_455 rfl rfl ?_
                            refine wk_iconst (v := (2 : Int32)) G dL_law_456 (by decide) ?_
                            refine wk_iadd G dL_law_457 ?_
                            obtain ⟨h112, hf⟩ := gd_of hf
                            refine wk_sld G hX hbl hbA h112 dL_law_458 ?_
                            obtain ⟨r113, q114, hf⟩ := bd_of hf
                            refine wk_callVi (As := [.int (xs (Int32.toNatClampNeg (v1 + (1 : Int32)))), .int (xs (Int32.toNatClampNeg (v1 + (2 : Int32))))]) (rest := [.int r109]) (ci := 7) G 56 (by decide) (c_X7_letter l D cI cZ ad (xs (Int32.toNatClampNeg (v1 + (1 : Int32)))) (xs (Int32.toNatClampNeg (v1 + (2 : Int32)))) M2 r113 q114) (cwV 2 G.2.2.2.2.1 gL_law_X7_letter rfl rfl rfl (by decide +kernel) ⟨Nat.le_of_ble_eq_true rfl, Nat.le_of_ble_eq_true rfl⟩) (ck56 cI cZ ad (M2 56)) rfl rfl rfl (Nat.le_of_ble_eq_true rfl) dL_law_459 ⟨by decide, by decide⟩ ?_
                            refine wk_icmp_eq (tgt := 585) G dL_law_462 (by decide) (fun c115 => ?_) (fun c115 => ?_)
                            · replace hf := it_t c115 hf
                              exact J585 M2 hf
                            · replace hf := it_f c115 hf
                              refine wk_iconst (v := (0 : Int32)) G dL_law_465 (by decide) ?_
                              exact wk_lret G ha hAe hr hlocks dL_law_466 (hE _ (Option.some.inj hf).symm)
                          · replace hf := it_f c8_10 hf
                            by_cases c8_11 : v5 = (11 : Int32)
                            · replace hf := it_t c8_11 hf
                              refine wk_tableIn (off := 425) (tgt := 467) G dL_law_42 (by rw [c8_11]; decide) (by rw [c8_11]; decide) (by rw [c8_11]; rfl) (by decide) ?_
                              refine wk_aload_n G 1 dL_law_467 rfl rfl ?_
                              refine wk_aload_n G 0 dL_law_468 rfl rfl ?_
                              refine wk_iload_n G 3 dL_law_469 rfl rfl ?_
                              refine wk_iconst (v := (1 : Int32)) G dL_law_470 (by decide) ?_
                              refine wk_iadd G dL_law_471 ?_
                              obtain ⟨h116, hf⟩ := gd_of hf
                              refine wk_sld G hX hbl hbA h116 dL_law_472 ?_
                              obtain ⟨r117, q118, hf⟩ := bd_of hf
                              refine wk_callVi (As := [.int (xs (Int32.toNatClampNeg (v1 + (1 : Int32))))]) (rest := []) (ci := 6) G 0 (by decide) (c_X6_reached l D cI cZ ad (xs (Int32.toNatClampNeg (v1 + (1 : Int32)))) M2 r117 q118) (cwV 1 G.2.2.2.2.1 gL_law_X6_reached rfl rfl rfl (by decide +kernel) ⟨Nat.le_of_ble_eq_true rfl, Nat.le_of_ble_eq_true rfl⟩) (ck0 cI cZ ad (M2 0)) rfl rfl rfl (Nat.le_of_ble_eq_true rfl) dL_law_473 ⟨by decide, by decide⟩ ?_
                              refine wk_aload_n G 2 dL_law_476 rfl rfl ?_
                              refine wk_aload_n G 0 dL_law_477 rfl rfl ?_
                              refine wk_iload_n G 3 dL_law_478 rfl rfl ?_
                              refine wk_iconst (v := (1 : Int32)) G dL_law_479 (by decide) ?_
                              refine wk_iadd G dL_law_480 ?_
                              obtain ⟨h119, hf⟩ := gd_of hf
                              refine wk_sld G hX hbl hbA h119 dL_law_481 ?_
                              obtain ⟨r120, q121, hf⟩ := bd_of hf
                              refine wk_callVi (As := [.int (xs (Int32.toNatClampNeg (v1 + (1 : Int32))))]) (rest := [.int r117]) (ci := 7) G 56 (by decide) (c_X7_reached l D cI cZ ad (xs (Int32.toNatClampNeg (v1 + (1 : Int32)))) M2 r120 q121) (cwV 1 G.2.2.2.2.1 gL_law_X7_reached rfl rfl rfl (by decide +kernel) ⟨Nat.le_of_ble_eq_true rfl, Nat.le_of_ble_eq_true rfl⟩) (ck56 cI cZ ad (M2 56)) rfl rfl rfl (Nat.le_of_ble_eq_true rfl) dL_law_482 ⟨by decide, by decide⟩ ?_
                              refine wk_icmp_eq (tgt := 585) G dL_law_485 (by decide) (fun c122 => ?_) (fun c122 => ?_)
                              · replace hf := it_t c122 hf
                                exact J585 M2 hf
                              · replace hf := it_f c122 hf
                                refine wk_iconst (v := (0 : Int32)) G dL_law_488 (by decide) ?_
                                exact wk_lret G ha hAe hr hlocks dL_law_489 (hE _ (Option.some.inj hf).symm)
                            · replace hf := it_f c8_11 hf
                              by_cases c8_12 : v5 = (12 : Int32)
                              · replace hf := it_t c8_12 hf
                                refine wk_tableIn (off := 448) (tgt := 490) G dL_law_42 (by rw [c8_12]; decide) (by rw [c8_12]; decide) (by rw [c8_12]; rfl) (by decide) ?_
                                refine wk_aload_n G 1 dL_law_490 rfl rfl ?_
                                refine wk_aload_n G 0 dL_law_491 rfl rfl ?_
                                refine wk_iload_n G 3 dL_law_492 rfl rfl ?_
                                refine wk_iconst (v := (1 : Int32)) G dL_law_493 (by decide) ?_
                                refine wk_iadd G dL_law_494 ?_
                                obtain ⟨h123, hf⟩ := gd_of hf
                                refine wk_sld G hX hbl hbA h123 dL_law_495 ?_
                                obtain ⟨r124, q125, hf⟩ := bd_of hf
                                refine wk_callVi (As := [.int (xs (Int32.toNatClampNeg (v1 + (1 : Int32))))]) (rest := []) (ci := 6) G 0 (by decide) (c_X6_bytes l D cI cZ ad (xs (Int32.toNatClampNeg (v1 + (1 : Int32)))) M2 r124 q125) (cwV 1 G.2.2.2.2.1 gL_law_X6_bytes rfl rfl rfl (by decide +kernel) ⟨Nat.le_of_ble_eq_true rfl, Nat.le_of_ble_eq_true rfl⟩) (ck0 cI cZ ad (M2 0)) rfl rfl rfl (Nat.le_of_ble_eq_true rfl) dL_law_496 ⟨by decide, by decide⟩ ?_
                                refine wk_aload_n G 2 dL_law_499 rfl rfl ?_
                                refine wk_aload_n G 0 dL_law_500 rfl rfl ?_
                                refine wk_iload_n G 3 dL_law_501 rfl rfl ?_
                                refine wk_iconst (v := (1 : Int32)) G dL_law_502 (by decide) ?_
                                refine wk_iadd G dL_law_503 ?_
                                obtain ⟨h126, hf⟩ := gd_of hf
                                refine wk_sld G hX hbl hbA h126 dL_law_504 ?_
                                obtain ⟨r127, q128, hf⟩ := bd_of hf
                                refine wk_callVi (As := [.int (xs (Int32.toNatClampNeg (v1 + (1 : Int32))))]) (rest := [.int r124]) (ci := 7) G 56 (by decide) (c_X7_bytes l D cI cZ ad (xs (Int32.toNatClampNeg (v1 + (1 : Int32)))) M2 r127 q128) (cwV 1 G.2.2.2.2.1 gL_law_X7_bytes rfl rfl rfl (by decide +kernel) ⟨Nat.le_of_ble_eq_true rfl, Nat.le_of_ble_eq_true rfl⟩) (ck56 cI cZ ad (M2 56)) rfl rfl rfl (Nat.le_of_ble_eq_true rfl) dL_law_505 ⟨by decide, by decide⟩ ?_
                                refine wk_icmp_eq (tgt := 585) G dL_law_508 (by decide) (fun c129 => ?_) (fun c129 => ?_)
                                · replace hf := it_t c129 hf
                                  exact J585 M2 hf
                                · replace hf := it_f c129 hf
                                  refine wk_iconst (v := (0 : Int32)) G dL_law_511 (by decide) ?_
                                  exact wk_lret G ha hAe hr hlocks dL_law_512 (hE _ (Option.some.inj hf).symm)
                              · replace hf := it_f c8_12 hf
                                by_cases c8_13 : v5 = (13 : Int32)
                                · replace hf := it_t c8_13 hf
                                  refine wk_tableIn (off := 471) (tgt := 513) G dL_law_42 (by rw [c8_13]; decide) (by rw [c8_13]; decide) (by rw [c8_13]; rfl) (by decide) ?_
                                  refine wk_aload_n G 1 dL_law_513 rfl rfl ?_
                                  obtain ⟨⟨r130, M131⟩, q132, hf⟩ := bd_of hf
                                  replace hf := un2_of hf
                                  refine wk_callVi (As := []) (rest := []) (ci := 6) G 0 (by decide) (c_X6_shrink l D cI cZ ad M2 r130 M131 q132) (cwV 0 G.2.2.2.2.1 gL_law_X6_shrink rfl rfl rfl (by decide +kernel) ⟨Nat.le_of_ble_eq_true rfl, Nat.le_of_ble_eq_true rfl⟩) (ck0 cI cZ ad (M2 0)) rfl rfl rfl (Nat.le_of_ble_eq_true rfl) dL_law_514 ⟨by decide, by decide⟩ ?_
                                  refine wk_aload_n G 2 dL_law_517 rfl rfl ?_
                                  obtain ⟨⟨r133, M134⟩, q135, hf⟩ := bd_of hf
                                  replace hf := un2_of hf
                                  refine wk_callVi (As := []) (rest := [.int r130]) (ci := 7) G 56 (by decide) (c_X7_shrink l D cI cZ ad M131 r133 M134 q135) (cwV 0 G.2.2.2.2.1 gL_law_X7_shrink rfl rfl rfl (by decide +kernel) ⟨Nat.le_of_ble_eq_true rfl, Nat.le_of_ble_eq_true rfl⟩) (ck56 cI cZ ad (M131 56)) rfl rfl rfl (Nat.le_of_ble_eq_true rfl) dL_law_518 ⟨by decide, by decide⟩ ?_
                                  refine wk_icmp_eq (tgt := 585) G dL_law_521 (by decide) (fun c136 => ?_) (fun c136 => ?_)
                                  · replace hf := it_t c136 hf
                                    exact J585 M134 hf
                                  · replace hf := it_f c136 hf
                                    refine wk_iconst (v := (0 : Int32)) G dL_law_524 (by decide) ?_
                                    exact wk_lret G ha hAe hr hlocks dL_law_525 (hE _ (Option.some.inj hf).symm)
                                · replace hf := it_f c8_13 hf
                                  by_cases c8_14 : v5 = (14 : Int32)
                                  · replace hf := it_t c8_14 hf
                                    refine wk_tableIn (off := 484) (tgt := 526) G dL_law_42 (by rw [c8_14]; decide) (by rw [c8_14]; decide) (by rw [c8_14]; rfl) (by decide) ?_
                                    refine wk_aload_n G 1 dL_law_526 rfl rfl ?_
                                    obtain ⟨⟨r137, M138⟩, q139, hf⟩ := bd_of hf
                                    replace hf := un2_of hf
                                    refine wk_callVi (As := []) (rest := []) (ci := 6) G 0 (by decide) (c_X6_minimal l D cI cZ ad M2 r137 M138 q139) (cwV 0 G.2.2.2.2.1 gL_law_X6_minimal rfl rfl rfl (by decide +kernel) ⟨Nat.le_of_ble_eq_true rfl, Nat.le_of_ble_eq_true rfl⟩) (ck0 cI cZ ad (M2 0)) rfl rfl rfl (Nat.le_of_ble_eq_true rfl) dL_law_527 ⟨by decide, by decide⟩ ?_
                                    refine wk_aload_n G 2 dL_law_530 rfl rfl ?_
                                    obtain ⟨⟨r140, M141⟩, q142, hf⟩ := bd_of hf
                                    replace hf := un2_of hf
                                    refine wk_callVi (As := []) (rest := [.int r137]) (ci := 7) G 56 (by decide) (c_X7_minimal l D cI cZ ad M138 r140 M141 q142) (cwV 0 G.2.2.2.2.1 gL_law_X7_minimal rfl rfl rfl (by decide +kernel) ⟨Nat.le_of_ble_eq_true rfl, Nat.le_of_ble_eq_true rfl⟩) (ck56 cI cZ ad (M138 56)) rfl rfl rfl (Nat.le_of_ble_eq_true rfl) dL_law_531 ⟨by decide, by decide⟩ ?_
                                    refine wk_icmp_eq (tgt := 585) G dL_law_534 (by decide) (fun c143 => ?_) (fun c143 => ?_)
                                    · replace hf := it_t c143 hf
                                      exact J585 M141 hf
                                    · replace hf := it_f c143 hf
                                      refine wk_iconst (v := (0 : Int32)) G dL_law_537 (by decide) ?_
                                      exact wk_lret G ha hAe hr hlocks dL_law_538 (hE _ (Option.some.inj hf).symm)
                                  · replace hf := it_f c8_14 hf
                                    by_cases c8_15 : v5 = (15 : Int32)
                                    · replace hf := it_t c8_15 hf
                                      refine wk_tableIn (off := 497) (tgt := 539) G dL_law_42 (by rw [c8_15]; decide) (by rw [c8_15]; decide) (by rw [c8_15]; rfl) (by decide) ?_
                                      refine wk_aload_n G 1 dL_law_539 rfl rfl ?_
                                      refine wk_aload_n G 0 dL_law_540 rfl rfl ?_
                                      refine wk_iload_n G 3 dL_law_541 rfl rfl ?_
                                      refine wk_iconst (v := (1 : Int32)) G dL_law_542 (by decide) ?_
                                      refine wk_iadd G dL_law_543 ?_
                                      obtain ⟨h144, hf⟩ := gd_of hf
                                      refine wk_sld G hX hbl hbA h144 dL_law_544 ?_
                                      obtain ⟨⟨r145, M146⟩, q147, hf⟩ := bd_of hf
                                      replace hf := un2_of hf
                                      refine wk_callVi (As := [.int (xs (Int32.toNatClampNeg (v1 + (1 : Int32))))]) (rest := []) (ci := 6) G 0 (by decide) (c_X6_sets l D cI cZ ad (xs (Int32.toNatClampNeg (v1 + (1 : Int32)))) M2 r145 M146 q147) (cwV 1 G.2.2.2.2.1 gL_law_X6_sets rfl rfl rfl (by decide +kernel) ⟨Nat.le_of_ble_eq_true rfl, Nat.le_of_ble_eq_true rfl⟩) (ck0 cI cZ ad (M2 0)) rfl rfl rfl (Nat.le_of_ble_eq_true rfl) dL_law_545 ⟨by decide, by decide⟩ ?_
                                      refine wk_aload_n G 2 dL_law_548 rfl rfl ?_
                                      refine wk_aload_n G 0 dL_law_549 rfl rfl ?_
                                      refine wk_iload_n G 3 dL_law_550 rfl rfl ?_
                                      refine wk_iconst (v := (1 : Int32)) G dL_law_551 (by decide) ?_
                                      refine wk_iadd G dL_law_552 ?_
                                      obtain ⟨h148, hf⟩ := gd_of hf
                                      refine wk_sld G hX hbl hbA h148 dL_law_553 ?_
                                      obtain ⟨⟨r149, M150⟩, q151, hf⟩ := bd_of hf
                                      replace hf := un2_of hf
                                      refine wk_callVi (As := [.int (xs (Int32.toNatClampNeg (v1 + (1 : Int32))))]) (rest := [.int r145]) (ci := 7) G 56 (by decide) (c_X7_sets l D cI cZ ad (xs (Int32.toNatClampNeg (v1 + (1 : Int32)))) M146 r149 M150 q151) (cwV 1 G.2.2.2.2.1 gL_law_X7_sets rfl rfl rfl (by decide +kernel) ⟨Nat.le_of_ble_eq_true rfl, Nat.le_of_ble_eq_true rfl⟩) (ck56 cI cZ ad (M146 56)) rfl rfl rfl (Nat.le_of_ble_eq_true rfl) dL_law_554 ⟨by decide, by decide⟩ ?_
                                      refine wk_icmp_eq (tgt := 585) G dL_law_557 (by decide) (fun c152 => ?_) (fun c152 => ?_)
                                      · replace hf := it_t c152 hf
                                        exact J585 M150 hf
                                      · replace hf := it_f c152 hf
                                        refine wk_iconst (v := (0 : Int32)) G dL_law_560 (by decide) ?_
                                        exact wk_lret G ha hAe hr hlocks dL_law_561 (hE _ (Option.some.inj hf).symm)
                                    · replace hf := it_f c8_15 hf
                                      by_cases c8_16 : v5 = (16 : Int32)
                                      · replace hf := it_t c8_16 hf
                                        refine wk_tableIn (off := 520) (tgt := 562) G dL_law_42 (by rw [c8_16]; decide) (by rw [c8_16]; decide) (by rw [c8_16]; rfl) (by decide) ?_
                                        refine wk_aload_n G 1 dL_law_562 rfl rfl ?_
                                        refine wk_aload_n G 0 dL_law_563 rfl rfl ?_
                                        refine wk_iload_n G 3 dL_law_564 rfl rfl ?_
                                        refine wk_iconst (v := (1 : Int32)) G dL_law_565 (by decide) ?_
                                        refine wk_iadd G dL_law_566 ?_
                                        obtain ⟨h153, hf⟩ := gd_of hf
                                        refine wk_sld G hX hbl hbA h153 dL_law_567 ?_
                                        obtain ⟨r154, q155, hf⟩ := bd_of hf
                                        refine wk_callVi (As := [.int (xs (Int32.toNatClampNeg (v1 + (1 : Int32))))]) (rest := []) (ci := 6) G 0 (by decide) (c_X6_count l D cI cZ ad (xs (Int32.toNatClampNeg (v1 + (1 : Int32)))) M2 r154 q155) (cwV 1 G.2.2.2.2.1 gL_law_X6_count rfl rfl rfl (by decide +kernel) ⟨Nat.le_of_ble_eq_true rfl, Nat.le_of_ble_eq_true rfl⟩) (ck0 cI cZ ad (M2 0)) rfl rfl rfl (Nat.le_of_ble_eq_true rfl) dL_law_568 ⟨by decide, by decide⟩ ?_
                                        refine wk_aload_n G 2 dL_law_571 rfl rfl ?_
                                        refine wk_aload_n G 0 dL_law_572 rfl rfl ?_
                                        refine wk_iload_n G 3 dL_law_573 rfl rfl ?_
                                        refine wk_iconst (v := (1 : Int32)) G dL_law_574 (by decide) ?_
                                        refine wk_iadd G dL_law_575 ?_
                                        obtain ⟨h156, hf⟩ := gd_of hf
                                        refine wk_sld G hX hbl hbA h156 dL_law_576 ?_
                                        obtain ⟨r157, q158, hf⟩ := bd_of hf
                                        refine wk_callVi (As := [.int (xs (Int32.toNatClampNeg (v1 + (1 : Int32))))]) (rest := [.int r154]) (ci := 7) G 56 (by decide) (c_X7_count l D cI cZ ad (xs (Int32.toNatClampNeg (v1 + (1 : Int32)))) M2 r157 q158) (cwV 1 G.2.2.2.2.1 gL_law_X7_count rfl rfl rfl (by decide +kernel) ⟨Nat.le_of_ble_eq_true rfl, Nat.le_of_ble_eq_true rfl⟩) (ck56 cI cZ ad (M2 56)) rfl rfl rfl (Nat.le_of_ble_eq_true rfl) dL_law_577 ⟨by decide, by decide⟩ ?_
                                        refine wk_icmp_eq (tgt := 585) G dL_law_580 (by decide) (fun c159 => ?_) (fun c159 => ?_)
                                        · replace hf := it_t c159 hf
                                          exact J585 M2 hf
                                        · replace hf := it_f c159 hf
                                          refine wk_iconst (v := (0 : Int32)) G dL_law_583 (by decide) ?_
                                          exact wk_lret G ha hAe hr hlocks dL_law_584 (hE _ (Option.some.inj hf).symm)
                                      · replace hf := it_f c8_16 hf
                                        have nc8_0 : ¬ v5.toInt = 0 := sw_ne c8_0
                                        have nc8_1 : ¬ v5.toInt = 1 := sw_ne c8_1
                                        have nc8_2 : ¬ v5.toInt = 2 := sw_ne c8_2
                                        have nc8_3 : ¬ v5.toInt = 3 := sw_ne c8_3
                                        have nc8_4 : ¬ v5.toInt = 4 := sw_ne c8_4
                                        have nc8_5 : ¬ v5.toInt = 5 := sw_ne c8_5
                                        have nc8_6 : ¬ v5.toInt = 6 := sw_ne c8_6
                                        have nc8_7 : ¬ v5.toInt = 7 := sw_ne c8_7
                                        have nc8_8 : ¬ v5.toInt = 8 := sw_ne c8_8
                                        have nc8_9 : ¬ v5.toInt = 9 := sw_ne c8_9
                                        have nc8_10 : ¬ v5.toInt = 10 := sw_ne c8_10
                                        have nc8_11 : ¬ v5.toInt = 11 := sw_ne c8_11
                                        have nc8_12 : ¬ v5.toInt = 12 := sw_ne c8_12
                                        have nc8_13 : ¬ v5.toInt = 13 := sw_ne c8_13
                                        have nc8_14 : ¬ v5.toInt = 14 := sw_ne c8_14
                                        have nc8_15 : ¬ v5.toInt = 15 := sw_ne c8_15
                                        have nc8_16 : ¬ v5.toInt = 16 := sw_ne c8_16
                                        refine wk_tableOut (tgt := 585) G dL_law_42 (by omega) (by decide) ?_
                                        exact J585 M2 hf
  exact Lq161
