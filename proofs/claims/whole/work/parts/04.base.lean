/-! ===== the memory, the world, the walk's judgement ===== -/
abbrev Mem : Type := Nat → Nat → Int32
def st (M : Mem) (c k : Nat) (v : Int32) : Mem := va_up M c (upd (M c) k v)
def gd {β : Type} (i : Int32) (n : Nat) (k : Option β) : Option β := if i < 0 ∨ n ≤ i.toNatClampNeg then none else k
def gz {β : Type} (v : Int32) (k : Option β) : Option β := if v = 0 ∨ v = 1 then k else none
def nm {α β : Type} (v : α) (k : α → β) : β := k v
theorem gd_of {β : Type} {i : Int32} {n : Nat} {k : Option β} {r : β} (h : gd i n k = some r) : vp_in i n ∧ k = some r := by
  unfold gd at h
  by_cases c : i < 0 ∨ n ≤ i.toNatClampNeg
  · rw [if_pos c] at h; cases h
  · rw [if_neg c] at h; exact ⟨c, h⟩
theorem gd_in {β : Type} {i : Int32} {n : Nat} {k : Option β} (h : vp_in i n) : gd i n k = k := by
  unfold gd; exact if_neg h
theorem gz_of {β : Type} {v : Int32} {k : Option β} {r : β} (h : gz v k = some r) : (v = 0 ∨ v = 1) ∧ k = some r := by
  unfold gz at h
  by_cases c : v = 0 ∨ v = 1
  · rw [if_pos c] at h; exact ⟨c, h⟩
  · rw [if_neg c] at h; cases h
theorem nm_of {α β : Type} {v x : α} {k : α → β} {r : β} (h : nm v k = r) (e : x = v) : k x = r := by rw [e]; exact h
theorem bd_of {α β : Type} {o : Option α} {k : α → Option β} {r : β} (h : o.bind k = some r) : ∃ q, o = some q ∧ k q = some r := by
  cases o with
  | none => cases h
  | some q => exact ⟨q, rfl, h⟩
theorem it_t {β : Type} {c : Prop} {x : Decidable c} {a b r : β} (hc : c) (h : (@ite β c x a b) = r) : a = r := by rw [if_pos hc] at h; exact h
theorem it_f {β : Type} {c : Prop} {x : Decidable c} {a b r : β} (hc : ¬ c) (h : (@ite β c x a b) = r) : b = r := by rw [if_neg hc] at h; exact h
theorem z_nar {v : Int32} (h : v = 0 ∨ v = 1) : narrow .boolean (.int v) = .int v := by
  rcases h with rfl | rfl <;> decide +kernel
def celk (cI cZ : ClassId) (ad : Nat → Nat) (j : Nat) (r : Nat → Int32) : va_E := match j with
  | 0 => .inr (6, [.ref (ad 1), .ref (ad 5), .ref (ad 12), .ref (ad 34)])
  | 1 => .inr (2, [.int (r 0), .ref (ad 2), .ref (ad 3), .ref (ad 4)])
  | 2 => .inl (cI, 6, .inl r)
  | 3 => .inl (cI, 36, .inl r)
  | 4 => .inl (cI, 6, .inl r)
  | 5 => .inr (5, [.int (r 0), .ref (ad 6), .ref (ad 7), .ref (ad 8), .ref (ad 9), .ref (ad 10), .ref (ad 11)])
  | 6 => .inl (cI, 20, .inl r)
  | 7 => .inl (cI, 20, .inl r)
  | 8 => .inl (cI, 20, .inl r)
  | 9 => .inl (cI, 20, .inl r)
  | 10 => .inl (cZ, 20, .inl r)
  | 11 => .inl (cI, 1200, .inl r)
  | 12 => .inr (4, [.ref (ad 1), .ref (ad 5), .int (r 2), .ref (ad 13), .ref (ad 18), .ref (ad 24), .ref (ad 32), .ref (ad 33), .int (r 8), .int (r 9), .int (r 10), .int (r 11), .int (r 12)])
  | 13 => .inr (0, [.int (r 0), .ref (ad 14), .ref (ad 15), .ref (ad 16), .ref (ad 17)])
  | 14 => .inl (cI, 1220, .inl r)
  | 15 => .inl (cI, 1220, .inl r)
  | 16 => .inl (cI, 40, .inl r)
  | 17 => .inl (cI, 40, .inl r)
  | 18 => .inr (3, [.ref (ad 1), .ref (ad 19), .ref (ad 20), .ref (ad 21), .ref (ad 22), .ref (ad 23), .int (r 6)])
  | 19 => .inl (cI, 6, .inl r)
  | 20 => .inl (cI, 6, .inl r)
  | 21 => .inl (cZ, 6, .inl r)
  | 22 => .inl (cZ, 6, .inl r)
  | 23 => .inl (cI, 36, .inl r)
  | 24 => .inr (1, [.int (r 0), .int (r 1), .ref (ad 25), .ref (ad 26), .ref (ad 27), .ref (ad 28), .ref (ad 29), .ref (ad 30), .ref (ad 31)])
  | 25 => .inl (cI, 1200, .inl r)
  | 26 => .inl (cI, 1200, .inl r)
  | 27 => .inl (cI, 1200, .inl r)
  | 28 => .inl (cI, 1200, .inl r)
  | 29 => .inl (cI, 1200, .inl r)
  | 30 => .inl (cI, 1200, .inl r)
  | 31 => .inl (cI, 1200, .inl r)
  | 32 => .inl (cI, 240, .inl r)
  | 33 => .inl (cZ, 40, .inl r)
  | 34 => .inr (4, [.ref (ad 1), .ref (ad 5), .int (r 2), .ref (ad 35), .ref (ad 40), .ref (ad 46), .ref (ad 54), .ref (ad 55), .int (r 8), .int (r 9), .int (r 10), .int (r 11), .int (r 12)])
  | 35 => .inr (0, [.int (r 0), .ref (ad 36), .ref (ad 37), .ref (ad 38), .ref (ad 39)])
  | 36 => .inl (cI, 1220, .inl r)
  | 37 => .inl (cI, 1220, .inl r)
  | 38 => .inl (cI, 40, .inl r)
  | 39 => .inl (cI, 40, .inl r)
  | 40 => .inr (3, [.ref (ad 1), .ref (ad 41), .ref (ad 42), .ref (ad 43), .ref (ad 44), .ref (ad 45), .int (r 6)])
  | 41 => .inl (cI, 6, .inl r)
  | 42 => .inl (cI, 6, .inl r)
  | 43 => .inl (cZ, 6, .inl r)
  | 44 => .inl (cZ, 6, .inl r)
  | 45 => .inl (cI, 36, .inl r)
  | 46 => .inr (1, [.int (r 0), .int (r 1), .ref (ad 47), .ref (ad 48), .ref (ad 49), .ref (ad 50), .ref (ad 51), .ref (ad 52), .ref (ad 53)])
  | 47 => .inl (cI, 1200, .inl r)
  | 48 => .inl (cI, 1200, .inl r)
  | 49 => .inl (cI, 1200, .inl r)
  | 50 => .inl (cI, 1200, .inl r)
  | 51 => .inl (cI, 1200, .inl r)
  | 52 => .inl (cI, 1200, .inl r)
  | 53 => .inl (cI, 1200, .inl r)
  | 54 => .inl (cI, 240, .inl r)
  | 55 => .inl (cZ, 40, .inl r)
  | 56 => .inr (7, [.int (r 0), .ref (ad 57), .ref (ad 58), .ref (ad 59), .int (r 4), .ref (ad 60), .ref (ad 61), .ref (ad 62), .ref (ad 63), .ref (ad 64), .int (r 10), .ref (ad 65), .ref (ad 66), .ref (ad 67), .ref (ad 68), .ref (ad 69), .ref (ad 70), .ref (ad 71), .ref (ad 72), .ref (ad 73), .ref (ad 74), .ref (ad 75), .ref (ad 76), .ref (ad 77), .ref (ad 78), .ref (ad 79), .ref (ad 80), .ref (ad 81), .ref (ad 82), .ref (ad 83), .ref (ad 84), .ref (ad 85), .ref (ad 86), .int (r 33)])
  | 57 => .inl (cI, 7, .inl r)
  | 58 => .inl (cI, 49, .inl r)
  | 59 => .inl (cI, 7, .inl r)
  | 60 => .inl (cI, 20, .inl r)
  | 61 => .inl (cI, 20, .inl r)
  | 62 => .inl (cI, 20, .inl r)
  | 63 => .inl (cI, 20, .inl r)
  | 64 => .inl (cZ, 20, .inl r)
  | 65 => .inl (cI, 2, .inl r)
  | 66 => .inl (cI, 2, .inl r)
  | 67 => .inl (cI, 2, .inl r)
  | 68 => .inl (cI, 2, .inl r)
  | 69 => .inl (cI, 2, .inl r)
  | 70 => .inl (cI, 2, .inl r)
  | 71 => .inl (cI, 840, .inl r)
  | 72 => .inl (cZ, 120, .inl r)
  | 73 => .inl (cI, 14, .inl r)
  | 74 => .inl (cI, 2400, .inl r)
  | 75 => .inl (cI, 2400, .inl r)
  | 76 => .inl (cI, 2400, .inl r)
  | 77 => .inl (cI, 2400, .inl r)
  | 78 => .inl (cI, 2400, .inl r)
  | 79 => .inl (cI, 2400, .inl r)
  | 80 => .inl (cI, 2400, .inl r)
  | 81 => .inl (cI, 14400, .inl r)
  | 82 => .inl (cI, 7, .inl r)
  | 83 => .inl (cI, 7, .inl r)
  | 84 => .inl (cI, 49, .inl r)
  | 85 => .inl (cZ, 7, .inl r)
  | 86 => .inl (cZ, 7, .inl r)
  | _ => .inr (0, [])
theorem ck0 (cI cZ : ClassId) (ad : Nat → Nat) (r : Nat → Int32) : celk cI cZ ad 0 r = .inr (6, [.ref (ad 1), .ref (ad 5), .ref (ad 12), .ref (ad 34)]) := rfl
theorem ck1 (cI cZ : ClassId) (ad : Nat → Nat) (r : Nat → Int32) : celk cI cZ ad 1 r = .inr (2, [.int (r 0), .ref (ad 2), .ref (ad 3), .ref (ad 4)]) := rfl
theorem cp1_0 (cI cZ : ClassId) (ad : Nat → Nat) (r : Nat → Int32) (v : Int32) : celk cI cZ ad 1 (upd r 0 v) = .inr (2, ([.int (r 0), .ref (ad 2), .ref (ad 3), .ref (ad 4)]).set 0 (.int v)) := rfl
theorem ck2 (cI cZ : ClassId) (ad : Nat → Nat) (r : Nat → Int32) : celk cI cZ ad 2 r = .inl (cI, 6, .inl r) := rfl
theorem ck3 (cI cZ : ClassId) (ad : Nat → Nat) (r : Nat → Int32) : celk cI cZ ad 3 r = .inl (cI, 36, .inl r) := rfl
theorem ck4 (cI cZ : ClassId) (ad : Nat → Nat) (r : Nat → Int32) : celk cI cZ ad 4 r = .inl (cI, 6, .inl r) := rfl
theorem ck5 (cI cZ : ClassId) (ad : Nat → Nat) (r : Nat → Int32) : celk cI cZ ad 5 r = .inr (5, [.int (r 0), .ref (ad 6), .ref (ad 7), .ref (ad 8), .ref (ad 9), .ref (ad 10), .ref (ad 11)]) := rfl
theorem cp5_0 (cI cZ : ClassId) (ad : Nat → Nat) (r : Nat → Int32) (v : Int32) : celk cI cZ ad 5 (upd r 0 v) = .inr (5, ([.int (r 0), .ref (ad 6), .ref (ad 7), .ref (ad 8), .ref (ad 9), .ref (ad 10), .ref (ad 11)]).set 0 (.int v)) := rfl
theorem ck6 (cI cZ : ClassId) (ad : Nat → Nat) (r : Nat → Int32) : celk cI cZ ad 6 r = .inl (cI, 20, .inl r) := rfl
theorem ck7 (cI cZ : ClassId) (ad : Nat → Nat) (r : Nat → Int32) : celk cI cZ ad 7 r = .inl (cI, 20, .inl r) := rfl
theorem ck8 (cI cZ : ClassId) (ad : Nat → Nat) (r : Nat → Int32) : celk cI cZ ad 8 r = .inl (cI, 20, .inl r) := rfl
theorem ck9 (cI cZ : ClassId) (ad : Nat → Nat) (r : Nat → Int32) : celk cI cZ ad 9 r = .inl (cI, 20, .inl r) := rfl
theorem ck10 (cI cZ : ClassId) (ad : Nat → Nat) (r : Nat → Int32) : celk cI cZ ad 10 r = .inl (cZ, 20, .inl r) := rfl
theorem ck11 (cI cZ : ClassId) (ad : Nat → Nat) (r : Nat → Int32) : celk cI cZ ad 11 r = .inl (cI, 1200, .inl r) := rfl
theorem ck12 (cI cZ : ClassId) (ad : Nat → Nat) (r : Nat → Int32) : celk cI cZ ad 12 r = .inr (4, [.ref (ad 1), .ref (ad 5), .int (r 2), .ref (ad 13), .ref (ad 18), .ref (ad 24), .ref (ad 32), .ref (ad 33), .int (r 8), .int (r 9), .int (r 10), .int (r 11), .int (r 12)]) := rfl
theorem cp12_2 (cI cZ : ClassId) (ad : Nat → Nat) (r : Nat → Int32) (v : Int32) : celk cI cZ ad 12 (upd r 2 v) = .inr (4, ([.ref (ad 1), .ref (ad 5), .int (r 2), .ref (ad 13), .ref (ad 18), .ref (ad 24), .ref (ad 32), .ref (ad 33), .int (r 8), .int (r 9), .int (r 10), .int (r 11), .int (r 12)]).set 2 (.int v)) := rfl
theorem cp12_8 (cI cZ : ClassId) (ad : Nat → Nat) (r : Nat → Int32) (v : Int32) : celk cI cZ ad 12 (upd r 8 v) = .inr (4, ([.ref (ad 1), .ref (ad 5), .int (r 2), .ref (ad 13), .ref (ad 18), .ref (ad 24), .ref (ad 32), .ref (ad 33), .int (r 8), .int (r 9), .int (r 10), .int (r 11), .int (r 12)]).set 8 (.int v)) := rfl
theorem cp12_9 (cI cZ : ClassId) (ad : Nat → Nat) (r : Nat → Int32) (v : Int32) : celk cI cZ ad 12 (upd r 9 v) = .inr (4, ([.ref (ad 1), .ref (ad 5), .int (r 2), .ref (ad 13), .ref (ad 18), .ref (ad 24), .ref (ad 32), .ref (ad 33), .int (r 8), .int (r 9), .int (r 10), .int (r 11), .int (r 12)]).set 9 (.int v)) := rfl
theorem cp12_10 (cI cZ : ClassId) (ad : Nat → Nat) (r : Nat → Int32) (v : Int32) : celk cI cZ ad 12 (upd r 10 v) = .inr (4, ([.ref (ad 1), .ref (ad 5), .int (r 2), .ref (ad 13), .ref (ad 18), .ref (ad 24), .ref (ad 32), .ref (ad 33), .int (r 8), .int (r 9), .int (r 10), .int (r 11), .int (r 12)]).set 10 (.int v)) := rfl
theorem cp12_11 (cI cZ : ClassId) (ad : Nat → Nat) (r : Nat → Int32) (v : Int32) : celk cI cZ ad 12 (upd r 11 v) = .inr (4, ([.ref (ad 1), .ref (ad 5), .int (r 2), .ref (ad 13), .ref (ad 18), .ref (ad 24), .ref (ad 32), .ref (ad 33), .int (r 8), .int (r 9), .int (r 10), .int (r 11), .int (r 12)]).set 11 (.int v)) := rfl
theorem cp12_12 (cI cZ : ClassId) (ad : Nat → Nat) (r : Nat → Int32) (v : Int32) : celk cI cZ ad 12 (upd r 12 v) = .inr (4, ([.ref (ad 1), .ref (ad 5), .int (r 2), .ref (ad 13), .ref (ad 18), .ref (ad 24), .ref (ad 32), .ref (ad 33), .int (r 8), .int (r 9), .int (r 10), .int (r 11), .int (r 12)]).set 12 (.int v)) := rfl
theorem ck13 (cI cZ : ClassId) (ad : Nat → Nat) (r : Nat → Int32) : celk cI cZ ad 13 r = .inr (0, [.int (r 0), .ref (ad 14), .ref (ad 15), .ref (ad 16), .ref (ad 17)]) := rfl
theorem cp13_0 (cI cZ : ClassId) (ad : Nat → Nat) (r : Nat → Int32) (v : Int32) : celk cI cZ ad 13 (upd r 0 v) = .inr (0, ([.int (r 0), .ref (ad 14), .ref (ad 15), .ref (ad 16), .ref (ad 17)]).set 0 (.int v)) := rfl
theorem ck14 (cI cZ : ClassId) (ad : Nat → Nat) (r : Nat → Int32) : celk cI cZ ad 14 r = .inl (cI, 1220, .inl r) := rfl
theorem ck15 (cI cZ : ClassId) (ad : Nat → Nat) (r : Nat → Int32) : celk cI cZ ad 15 r = .inl (cI, 1220, .inl r) := rfl
theorem ck16 (cI cZ : ClassId) (ad : Nat → Nat) (r : Nat → Int32) : celk cI cZ ad 16 r = .inl (cI, 40, .inl r) := rfl
theorem ck17 (cI cZ : ClassId) (ad : Nat → Nat) (r : Nat → Int32) : celk cI cZ ad 17 r = .inl (cI, 40, .inl r) := rfl
theorem ck18 (cI cZ : ClassId) (ad : Nat → Nat) (r : Nat → Int32) : celk cI cZ ad 18 r = .inr (3, [.ref (ad 1), .ref (ad 19), .ref (ad 20), .ref (ad 21), .ref (ad 22), .ref (ad 23), .int (r 6)]) := rfl
theorem cp18_6 (cI cZ : ClassId) (ad : Nat → Nat) (r : Nat → Int32) (v : Int32) : celk cI cZ ad 18 (upd r 6 v) = .inr (3, ([.ref (ad 1), .ref (ad 19), .ref (ad 20), .ref (ad 21), .ref (ad 22), .ref (ad 23), .int (r 6)]).set 6 (.int v)) := rfl
theorem ck19 (cI cZ : ClassId) (ad : Nat → Nat) (r : Nat → Int32) : celk cI cZ ad 19 r = .inl (cI, 6, .inl r) := rfl
theorem ck20 (cI cZ : ClassId) (ad : Nat → Nat) (r : Nat → Int32) : celk cI cZ ad 20 r = .inl (cI, 6, .inl r) := rfl
theorem ck21 (cI cZ : ClassId) (ad : Nat → Nat) (r : Nat → Int32) : celk cI cZ ad 21 r = .inl (cZ, 6, .inl r) := rfl
theorem ck22 (cI cZ : ClassId) (ad : Nat → Nat) (r : Nat → Int32) : celk cI cZ ad 22 r = .inl (cZ, 6, .inl r) := rfl
theorem ck23 (cI cZ : ClassId) (ad : Nat → Nat) (r : Nat → Int32) : celk cI cZ ad 23 r = .inl (cI, 36, .inl r) := rfl
theorem ck24 (cI cZ : ClassId) (ad : Nat → Nat) (r : Nat → Int32) : celk cI cZ ad 24 r = .inr (1, [.int (r 0), .int (r 1), .ref (ad 25), .ref (ad 26), .ref (ad 27), .ref (ad 28), .ref (ad 29), .ref (ad 30), .ref (ad 31)]) := rfl
theorem cp24_0 (cI cZ : ClassId) (ad : Nat → Nat) (r : Nat → Int32) (v : Int32) : celk cI cZ ad 24 (upd r 0 v) = .inr (1, ([.int (r 0), .int (r 1), .ref (ad 25), .ref (ad 26), .ref (ad 27), .ref (ad 28), .ref (ad 29), .ref (ad 30), .ref (ad 31)]).set 0 (.int v)) := rfl
theorem cp24_1 (cI cZ : ClassId) (ad : Nat → Nat) (r : Nat → Int32) (v : Int32) : celk cI cZ ad 24 (upd r 1 v) = .inr (1, ([.int (r 0), .int (r 1), .ref (ad 25), .ref (ad 26), .ref (ad 27), .ref (ad 28), .ref (ad 29), .ref (ad 30), .ref (ad 31)]).set 1 (.int v)) := rfl
theorem ck25 (cI cZ : ClassId) (ad : Nat → Nat) (r : Nat → Int32) : celk cI cZ ad 25 r = .inl (cI, 1200, .inl r) := rfl
theorem ck26 (cI cZ : ClassId) (ad : Nat → Nat) (r : Nat → Int32) : celk cI cZ ad 26 r = .inl (cI, 1200, .inl r) := rfl
theorem ck27 (cI cZ : ClassId) (ad : Nat → Nat) (r : Nat → Int32) : celk cI cZ ad 27 r = .inl (cI, 1200, .inl r) := rfl
theorem ck28 (cI cZ : ClassId) (ad : Nat → Nat) (r : Nat → Int32) : celk cI cZ ad 28 r = .inl (cI, 1200, .inl r) := rfl
theorem ck29 (cI cZ : ClassId) (ad : Nat → Nat) (r : Nat → Int32) : celk cI cZ ad 29 r = .inl (cI, 1200, .inl r) := rfl
theorem ck30 (cI cZ : ClassId) (ad : Nat → Nat) (r : Nat → Int32) : celk cI cZ ad 30 r = .inl (cI, 1200, .inl r) := rfl
theorem ck31 (cI cZ : ClassId) (ad : Nat → Nat) (r : Nat → Int32) : celk cI cZ ad 31 r = .inl (cI, 1200, .inl r) := rfl
theorem ck32 (cI cZ : ClassId) (ad : Nat → Nat) (r : Nat → Int32) : celk cI cZ ad 32 r = .inl (cI, 240, .inl r) := rfl
theorem ck33 (cI cZ : ClassId) (ad : Nat → Nat) (r : Nat → Int32) : celk cI cZ ad 33 r = .inl (cZ, 40, .inl r) := rfl
theorem ck34 (cI cZ : ClassId) (ad : Nat → Nat) (r : Nat → Int32) : celk cI cZ ad 34 r = .inr (4, [.ref (ad 1), .ref (ad 5), .int (r 2), .ref (ad 35), .ref (ad 40), .ref (ad 46), .ref (ad 54), .ref (ad 55), .int (r 8), .int (r 9), .int (r 10), .int (r 11), .int (r 12)]) := rfl
theorem cp34_2 (cI cZ : ClassId) (ad : Nat → Nat) (r : Nat → Int32) (v : Int32) : celk cI cZ ad 34 (upd r 2 v) = .inr (4, ([.ref (ad 1), .ref (ad 5), .int (r 2), .ref (ad 35), .ref (ad 40), .ref (ad 46), .ref (ad 54), .ref (ad 55), .int (r 8), .int (r 9), .int (r 10), .int (r 11), .int (r 12)]).set 2 (.int v)) := rfl
theorem cp34_8 (cI cZ : ClassId) (ad : Nat → Nat) (r : Nat → Int32) (v : Int32) : celk cI cZ ad 34 (upd r 8 v) = .inr (4, ([.ref (ad 1), .ref (ad 5), .int (r 2), .ref (ad 35), .ref (ad 40), .ref (ad 46), .ref (ad 54), .ref (ad 55), .int (r 8), .int (r 9), .int (r 10), .int (r 11), .int (r 12)]).set 8 (.int v)) := rfl
theorem cp34_9 (cI cZ : ClassId) (ad : Nat → Nat) (r : Nat → Int32) (v : Int32) : celk cI cZ ad 34 (upd r 9 v) = .inr (4, ([.ref (ad 1), .ref (ad 5), .int (r 2), .ref (ad 35), .ref (ad 40), .ref (ad 46), .ref (ad 54), .ref (ad 55), .int (r 8), .int (r 9), .int (r 10), .int (r 11), .int (r 12)]).set 9 (.int v)) := rfl
theorem cp34_10 (cI cZ : ClassId) (ad : Nat → Nat) (r : Nat → Int32) (v : Int32) : celk cI cZ ad 34 (upd r 10 v) = .inr (4, ([.ref (ad 1), .ref (ad 5), .int (r 2), .ref (ad 35), .ref (ad 40), .ref (ad 46), .ref (ad 54), .ref (ad 55), .int (r 8), .int (r 9), .int (r 10), .int (r 11), .int (r 12)]).set 10 (.int v)) := rfl
theorem cp34_11 (cI cZ : ClassId) (ad : Nat → Nat) (r : Nat → Int32) (v : Int32) : celk cI cZ ad 34 (upd r 11 v) = .inr (4, ([.ref (ad 1), .ref (ad 5), .int (r 2), .ref (ad 35), .ref (ad 40), .ref (ad 46), .ref (ad 54), .ref (ad 55), .int (r 8), .int (r 9), .int (r 10), .int (r 11), .int (r 12)]).set 11 (.int v)) := rfl
theorem cp34_12 (cI cZ : ClassId) (ad : Nat → Nat) (r : Nat → Int32) (v : Int32) : celk cI cZ ad 34 (upd r 12 v) = .inr (4, ([.ref (ad 1), .ref (ad 5), .int (r 2), .ref (ad 35), .ref (ad 40), .ref (ad 46), .ref (ad 54), .ref (ad 55), .int (r 8), .int (r 9), .int (r 10), .int (r 11), .int (r 12)]).set 12 (.int v)) := rfl
theorem ck35 (cI cZ : ClassId) (ad : Nat → Nat) (r : Nat → Int32) : celk cI cZ ad 35 r = .inr (0, [.int (r 0), .ref (ad 36), .ref (ad 37), .ref (ad 38), .ref (ad 39)]) := rfl
theorem cp35_0 (cI cZ : ClassId) (ad : Nat → Nat) (r : Nat → Int32) (v : Int32) : celk cI cZ ad 35 (upd r 0 v) = .inr (0, ([.int (r 0), .ref (ad 36), .ref (ad 37), .ref (ad 38), .ref (ad 39)]).set 0 (.int v)) := rfl
theorem ck36 (cI cZ : ClassId) (ad : Nat → Nat) (r : Nat → Int32) : celk cI cZ ad 36 r = .inl (cI, 1220, .inl r) := rfl
theorem ck37 (cI cZ : ClassId) (ad : Nat → Nat) (r : Nat → Int32) : celk cI cZ ad 37 r = .inl (cI, 1220, .inl r) := rfl
theorem ck38 (cI cZ : ClassId) (ad : Nat → Nat) (r : Nat → Int32) : celk cI cZ ad 38 r = .inl (cI, 40, .inl r) := rfl
theorem ck39 (cI cZ : ClassId) (ad : Nat → Nat) (r : Nat → Int32) : celk cI cZ ad 39 r = .inl (cI, 40, .inl r) := rfl
theorem ck40 (cI cZ : ClassId) (ad : Nat → Nat) (r : Nat → Int32) : celk cI cZ ad 40 r = .inr (3, [.ref (ad 1), .ref (ad 41), .ref (ad 42), .ref (ad 43), .ref (ad 44), .ref (ad 45), .int (r 6)]) := rfl
theorem cp40_6 (cI cZ : ClassId) (ad : Nat → Nat) (r : Nat → Int32) (v : Int32) : celk cI cZ ad 40 (upd r 6 v) = .inr (3, ([.ref (ad 1), .ref (ad 41), .ref (ad 42), .ref (ad 43), .ref (ad 44), .ref (ad 45), .int (r 6)]).set 6 (.int v)) := rfl
theorem ck41 (cI cZ : ClassId) (ad : Nat → Nat) (r : Nat → Int32) : celk cI cZ ad 41 r = .inl (cI, 6, .inl r) := rfl
theorem ck42 (cI cZ : ClassId) (ad : Nat → Nat) (r : Nat → Int32) : celk cI cZ ad 42 r = .inl (cI, 6, .inl r) := rfl
theorem ck43 (cI cZ : ClassId) (ad : Nat → Nat) (r : Nat → Int32) : celk cI cZ ad 43 r = .inl (cZ, 6, .inl r) := rfl
theorem ck44 (cI cZ : ClassId) (ad : Nat → Nat) (r : Nat → Int32) : celk cI cZ ad 44 r = .inl (cZ, 6, .inl r) := rfl
theorem ck45 (cI cZ : ClassId) (ad : Nat → Nat) (r : Nat → Int32) : celk cI cZ ad 45 r = .inl (cI, 36, .inl r) := rfl
theorem ck46 (cI cZ : ClassId) (ad : Nat → Nat) (r : Nat → Int32) : celk cI cZ ad 46 r = .inr (1, [.int (r 0), .int (r 1), .ref (ad 47), .ref (ad 48), .ref (ad 49), .ref (ad 50), .ref (ad 51), .ref (ad 52), .ref (ad 53)]) := rfl
theorem cp46_0 (cI cZ : ClassId) (ad : Nat → Nat) (r : Nat → Int32) (v : Int32) : celk cI cZ ad 46 (upd r 0 v) = .inr (1, ([.int (r 0), .int (r 1), .ref (ad 47), .ref (ad 48), .ref (ad 49), .ref (ad 50), .ref (ad 51), .ref (ad 52), .ref (ad 53)]).set 0 (.int v)) := rfl
theorem cp46_1 (cI cZ : ClassId) (ad : Nat → Nat) (r : Nat → Int32) (v : Int32) : celk cI cZ ad 46 (upd r 1 v) = .inr (1, ([.int (r 0), .int (r 1), .ref (ad 47), .ref (ad 48), .ref (ad 49), .ref (ad 50), .ref (ad 51), .ref (ad 52), .ref (ad 53)]).set 1 (.int v)) := rfl
theorem ck47 (cI cZ : ClassId) (ad : Nat → Nat) (r : Nat → Int32) : celk cI cZ ad 47 r = .inl (cI, 1200, .inl r) := rfl
theorem ck48 (cI cZ : ClassId) (ad : Nat → Nat) (r : Nat → Int32) : celk cI cZ ad 48 r = .inl (cI, 1200, .inl r) := rfl
theorem ck49 (cI cZ : ClassId) (ad : Nat → Nat) (r : Nat → Int32) : celk cI cZ ad 49 r = .inl (cI, 1200, .inl r) := rfl
theorem ck50 (cI cZ : ClassId) (ad : Nat → Nat) (r : Nat → Int32) : celk cI cZ ad 50 r = .inl (cI, 1200, .inl r) := rfl
theorem ck51 (cI cZ : ClassId) (ad : Nat → Nat) (r : Nat → Int32) : celk cI cZ ad 51 r = .inl (cI, 1200, .inl r) := rfl
theorem ck52 (cI cZ : ClassId) (ad : Nat → Nat) (r : Nat → Int32) : celk cI cZ ad 52 r = .inl (cI, 1200, .inl r) := rfl
theorem ck53 (cI cZ : ClassId) (ad : Nat → Nat) (r : Nat → Int32) : celk cI cZ ad 53 r = .inl (cI, 1200, .inl r) := rfl
theorem ck54 (cI cZ : ClassId) (ad : Nat → Nat) (r : Nat → Int32) : celk cI cZ ad 54 r = .inl (cI, 240, .inl r) := rfl
theorem ck55 (cI cZ : ClassId) (ad : Nat → Nat) (r : Nat → Int32) : celk cI cZ ad 55 r = .inl (cZ, 40, .inl r) := rfl
theorem ck56 (cI cZ : ClassId) (ad : Nat → Nat) (r : Nat → Int32) : celk cI cZ ad 56 r = .inr (7, [.int (r 0), .ref (ad 57), .ref (ad 58), .ref (ad 59), .int (r 4), .ref (ad 60), .ref (ad 61), .ref (ad 62), .ref (ad 63), .ref (ad 64), .int (r 10), .ref (ad 65), .ref (ad 66), .ref (ad 67), .ref (ad 68), .ref (ad 69), .ref (ad 70), .ref (ad 71), .ref (ad 72), .ref (ad 73), .ref (ad 74), .ref (ad 75), .ref (ad 76), .ref (ad 77), .ref (ad 78), .ref (ad 79), .ref (ad 80), .ref (ad 81), .ref (ad 82), .ref (ad 83), .ref (ad 84), .ref (ad 85), .ref (ad 86), .int (r 33)]) := rfl
theorem cp56_0 (cI cZ : ClassId) (ad : Nat → Nat) (r : Nat → Int32) (v : Int32) : celk cI cZ ad 56 (upd r 0 v) = .inr (7, ([.int (r 0), .ref (ad 57), .ref (ad 58), .ref (ad 59), .int (r 4), .ref (ad 60), .ref (ad 61), .ref (ad 62), .ref (ad 63), .ref (ad 64), .int (r 10), .ref (ad 65), .ref (ad 66), .ref (ad 67), .ref (ad 68), .ref (ad 69), .ref (ad 70), .ref (ad 71), .ref (ad 72), .ref (ad 73), .ref (ad 74), .ref (ad 75), .ref (ad 76), .ref (ad 77), .ref (ad 78), .ref (ad 79), .ref (ad 80), .ref (ad 81), .ref (ad 82), .ref (ad 83), .ref (ad 84), .ref (ad 85), .ref (ad 86), .int (r 33)]).set 0 (.int v)) := rfl
theorem cp56_4 (cI cZ : ClassId) (ad : Nat → Nat) (r : Nat → Int32) (v : Int32) : celk cI cZ ad 56 (upd r 4 v) = .inr (7, ([.int (r 0), .ref (ad 57), .ref (ad 58), .ref (ad 59), .int (r 4), .ref (ad 60), .ref (ad 61), .ref (ad 62), .ref (ad 63), .ref (ad 64), .int (r 10), .ref (ad 65), .ref (ad 66), .ref (ad 67), .ref (ad 68), .ref (ad 69), .ref (ad 70), .ref (ad 71), .ref (ad 72), .ref (ad 73), .ref (ad 74), .ref (ad 75), .ref (ad 76), .ref (ad 77), .ref (ad 78), .ref (ad 79), .ref (ad 80), .ref (ad 81), .ref (ad 82), .ref (ad 83), .ref (ad 84), .ref (ad 85), .ref (ad 86), .int (r 33)]).set 4 (.int v)) := rfl
theorem cp56_10 (cI cZ : ClassId) (ad : Nat → Nat) (r : Nat → Int32) (v : Int32) : celk cI cZ ad 56 (upd r 10 v) = .inr (7, ([.int (r 0), .ref (ad 57), .ref (ad 58), .ref (ad 59), .int (r 4), .ref (ad 60), .ref (ad 61), .ref (ad 62), .ref (ad 63), .ref (ad 64), .int (r 10), .ref (ad 65), .ref (ad 66), .ref (ad 67), .ref (ad 68), .ref (ad 69), .ref (ad 70), .ref (ad 71), .ref (ad 72), .ref (ad 73), .ref (ad 74), .ref (ad 75), .ref (ad 76), .ref (ad 77), .ref (ad 78), .ref (ad 79), .ref (ad 80), .ref (ad 81), .ref (ad 82), .ref (ad 83), .ref (ad 84), .ref (ad 85), .ref (ad 86), .int (r 33)]).set 10 (.int v)) := rfl
theorem cp56_33 (cI cZ : ClassId) (ad : Nat → Nat) (r : Nat → Int32) (v : Int32) : celk cI cZ ad 56 (upd r 33 v) = .inr (7, ([.int (r 0), .ref (ad 57), .ref (ad 58), .ref (ad 59), .int (r 4), .ref (ad 60), .ref (ad 61), .ref (ad 62), .ref (ad 63), .ref (ad 64), .int (r 10), .ref (ad 65), .ref (ad 66), .ref (ad 67), .ref (ad 68), .ref (ad 69), .ref (ad 70), .ref (ad 71), .ref (ad 72), .ref (ad 73), .ref (ad 74), .ref (ad 75), .ref (ad 76), .ref (ad 77), .ref (ad 78), .ref (ad 79), .ref (ad 80), .ref (ad 81), .ref (ad 82), .ref (ad 83), .ref (ad 84), .ref (ad 85), .ref (ad 86), .int (r 33)]).set 33 (.int v)) := rfl
theorem ck57 (cI cZ : ClassId) (ad : Nat → Nat) (r : Nat → Int32) : celk cI cZ ad 57 r = .inl (cI, 7, .inl r) := rfl
theorem ck58 (cI cZ : ClassId) (ad : Nat → Nat) (r : Nat → Int32) : celk cI cZ ad 58 r = .inl (cI, 49, .inl r) := rfl
theorem ck59 (cI cZ : ClassId) (ad : Nat → Nat) (r : Nat → Int32) : celk cI cZ ad 59 r = .inl (cI, 7, .inl r) := rfl
theorem ck60 (cI cZ : ClassId) (ad : Nat → Nat) (r : Nat → Int32) : celk cI cZ ad 60 r = .inl (cI, 20, .inl r) := rfl
theorem ck61 (cI cZ : ClassId) (ad : Nat → Nat) (r : Nat → Int32) : celk cI cZ ad 61 r = .inl (cI, 20, .inl r) := rfl
theorem ck62 (cI cZ : ClassId) (ad : Nat → Nat) (r : Nat → Int32) : celk cI cZ ad 62 r = .inl (cI, 20, .inl r) := rfl
theorem ck63 (cI cZ : ClassId) (ad : Nat → Nat) (r : Nat → Int32) : celk cI cZ ad 63 r = .inl (cI, 20, .inl r) := rfl
theorem ck64 (cI cZ : ClassId) (ad : Nat → Nat) (r : Nat → Int32) : celk cI cZ ad 64 r = .inl (cZ, 20, .inl r) := rfl
theorem ck65 (cI cZ : ClassId) (ad : Nat → Nat) (r : Nat → Int32) : celk cI cZ ad 65 r = .inl (cI, 2, .inl r) := rfl
theorem ck66 (cI cZ : ClassId) (ad : Nat → Nat) (r : Nat → Int32) : celk cI cZ ad 66 r = .inl (cI, 2, .inl r) := rfl
theorem ck67 (cI cZ : ClassId) (ad : Nat → Nat) (r : Nat → Int32) : celk cI cZ ad 67 r = .inl (cI, 2, .inl r) := rfl
theorem ck68 (cI cZ : ClassId) (ad : Nat → Nat) (r : Nat → Int32) : celk cI cZ ad 68 r = .inl (cI, 2, .inl r) := rfl
theorem ck69 (cI cZ : ClassId) (ad : Nat → Nat) (r : Nat → Int32) : celk cI cZ ad 69 r = .inl (cI, 2, .inl r) := rfl
theorem ck70 (cI cZ : ClassId) (ad : Nat → Nat) (r : Nat → Int32) : celk cI cZ ad 70 r = .inl (cI, 2, .inl r) := rfl
theorem ck71 (cI cZ : ClassId) (ad : Nat → Nat) (r : Nat → Int32) : celk cI cZ ad 71 r = .inl (cI, 840, .inl r) := rfl
theorem ck72 (cI cZ : ClassId) (ad : Nat → Nat) (r : Nat → Int32) : celk cI cZ ad 72 r = .inl (cZ, 120, .inl r) := rfl
theorem ck73 (cI cZ : ClassId) (ad : Nat → Nat) (r : Nat → Int32) : celk cI cZ ad 73 r = .inl (cI, 14, .inl r) := rfl
theorem ck74 (cI cZ : ClassId) (ad : Nat → Nat) (r : Nat → Int32) : celk cI cZ ad 74 r = .inl (cI, 2400, .inl r) := rfl
theorem ck75 (cI cZ : ClassId) (ad : Nat → Nat) (r : Nat → Int32) : celk cI cZ ad 75 r = .inl (cI, 2400, .inl r) := rfl
theorem ck76 (cI cZ : ClassId) (ad : Nat → Nat) (r : Nat → Int32) : celk cI cZ ad 76 r = .inl (cI, 2400, .inl r) := rfl
theorem ck77 (cI cZ : ClassId) (ad : Nat → Nat) (r : Nat → Int32) : celk cI cZ ad 77 r = .inl (cI, 2400, .inl r) := rfl
theorem ck78 (cI cZ : ClassId) (ad : Nat → Nat) (r : Nat → Int32) : celk cI cZ ad 78 r = .inl (cI, 2400, .inl r) := rfl
theorem ck79 (cI cZ : ClassId) (ad : Nat → Nat) (r : Nat → Int32) : celk cI cZ ad 79 r = .inl (cI, 2400, .inl r) := rfl
theorem ck80 (cI cZ : ClassId) (ad : Nat → Nat) (r : Nat → Int32) : celk cI cZ ad 80 r = .inl (cI, 2400, .inl r) := rfl
theorem ck81 (cI cZ : ClassId) (ad : Nat → Nat) (r : Nat → Int32) : celk cI cZ ad 81 r = .inl (cI, 14400, .inl r) := rfl
theorem ck82 (cI cZ : ClassId) (ad : Nat → Nat) (r : Nat → Int32) : celk cI cZ ad 82 r = .inl (cI, 7, .inl r) := rfl
theorem ck83 (cI cZ : ClassId) (ad : Nat → Nat) (r : Nat → Int32) : celk cI cZ ad 83 r = .inl (cI, 7, .inl r) := rfl
theorem ck84 (cI cZ : ClassId) (ad : Nat → Nat) (r : Nat → Int32) : celk cI cZ ad 84 r = .inl (cI, 49, .inl r) := rfl
theorem ck85 (cI cZ : ClassId) (ad : Nat → Nat) (r : Nat → Int32) : celk cI cZ ad 85 r = .inl (cZ, 7, .inl r) := rfl
theorem ck86 (cI cZ : ClassId) (ad : Nat → Nat) (r : Nat → Int32) : celk cI cZ ad 86 r = .inl (cZ, 7, .inl r) := rfl
theorem ckb0 (cI cZ : ClassId) (ad : Nat → Nat) {b : Nat} (hb : b = 12 ∨ b = 34) (r : Nat → Int32) : celk cI cZ ad b r = .inr (4, [.ref (ad 1), .ref (ad 5), .int (r 2), .ref (ad (b + 1)), .ref (ad (b + 6)), .ref (ad (b + 12)), .ref (ad (b + 20)), .ref (ad (b + 21)), .int (r 8), .int (r 9), .int (r 10), .int (r 11), .int (r 12)]) := by rcases hb with rfl | rfl <;> rfl
theorem cpb0_2 (cI cZ : ClassId) (ad : Nat → Nat) {b : Nat} (hb : b = 12 ∨ b = 34) (r : Nat → Int32) (v : Int32) : celk cI cZ ad b (upd r 2 v) = .inr (4, ([.ref (ad 1), .ref (ad 5), .int (r 2), .ref (ad (b + 1)), .ref (ad (b + 6)), .ref (ad (b + 12)), .ref (ad (b + 20)), .ref (ad (b + 21)), .int (r 8), .int (r 9), .int (r 10), .int (r 11), .int (r 12)]).set 2 (.int v)) := by rcases hb with rfl | rfl <;> rfl
theorem cpb0_8 (cI cZ : ClassId) (ad : Nat → Nat) {b : Nat} (hb : b = 12 ∨ b = 34) (r : Nat → Int32) (v : Int32) : celk cI cZ ad b (upd r 8 v) = .inr (4, ([.ref (ad 1), .ref (ad 5), .int (r 2), .ref (ad (b + 1)), .ref (ad (b + 6)), .ref (ad (b + 12)), .ref (ad (b + 20)), .ref (ad (b + 21)), .int (r 8), .int (r 9), .int (r 10), .int (r 11), .int (r 12)]).set 8 (.int v)) := by rcases hb with rfl | rfl <;> rfl
theorem cpb0_9 (cI cZ : ClassId) (ad : Nat → Nat) {b : Nat} (hb : b = 12 ∨ b = 34) (r : Nat → Int32) (v : Int32) : celk cI cZ ad b (upd r 9 v) = .inr (4, ([.ref (ad 1), .ref (ad 5), .int (r 2), .ref (ad (b + 1)), .ref (ad (b + 6)), .ref (ad (b + 12)), .ref (ad (b + 20)), .ref (ad (b + 21)), .int (r 8), .int (r 9), .int (r 10), .int (r 11), .int (r 12)]).set 9 (.int v)) := by rcases hb with rfl | rfl <;> rfl
theorem cpb0_10 (cI cZ : ClassId) (ad : Nat → Nat) {b : Nat} (hb : b = 12 ∨ b = 34) (r : Nat → Int32) (v : Int32) : celk cI cZ ad b (upd r 10 v) = .inr (4, ([.ref (ad 1), .ref (ad 5), .int (r 2), .ref (ad (b + 1)), .ref (ad (b + 6)), .ref (ad (b + 12)), .ref (ad (b + 20)), .ref (ad (b + 21)), .int (r 8), .int (r 9), .int (r 10), .int (r 11), .int (r 12)]).set 10 (.int v)) := by rcases hb with rfl | rfl <;> rfl
theorem cpb0_11 (cI cZ : ClassId) (ad : Nat → Nat) {b : Nat} (hb : b = 12 ∨ b = 34) (r : Nat → Int32) (v : Int32) : celk cI cZ ad b (upd r 11 v) = .inr (4, ([.ref (ad 1), .ref (ad 5), .int (r 2), .ref (ad (b + 1)), .ref (ad (b + 6)), .ref (ad (b + 12)), .ref (ad (b + 20)), .ref (ad (b + 21)), .int (r 8), .int (r 9), .int (r 10), .int (r 11), .int (r 12)]).set 11 (.int v)) := by rcases hb with rfl | rfl <;> rfl
theorem cpb0_12 (cI cZ : ClassId) (ad : Nat → Nat) {b : Nat} (hb : b = 12 ∨ b = 34) (r : Nat → Int32) (v : Int32) : celk cI cZ ad b (upd r 12 v) = .inr (4, ([.ref (ad 1), .ref (ad 5), .int (r 2), .ref (ad (b + 1)), .ref (ad (b + 6)), .ref (ad (b + 12)), .ref (ad (b + 20)), .ref (ad (b + 21)), .int (r 8), .int (r 9), .int (r 10), .int (r 11), .int (r 12)]).set 12 (.int v)) := by rcases hb with rfl | rfl <;> rfl
theorem ckb1 (cI cZ : ClassId) (ad : Nat → Nat) {b : Nat} (hb : b = 12 ∨ b = 34) (r : Nat → Int32) : celk cI cZ ad (b + 1) r = .inr (0, [.int (r 0), .ref (ad (b + 2)), .ref (ad (b + 3)), .ref (ad (b + 4)), .ref (ad (b + 5))]) := by rcases hb with rfl | rfl <;> rfl
theorem cpb1_0 (cI cZ : ClassId) (ad : Nat → Nat) {b : Nat} (hb : b = 12 ∨ b = 34) (r : Nat → Int32) (v : Int32) : celk cI cZ ad (b + 1) (upd r 0 v) = .inr (0, ([.int (r 0), .ref (ad (b + 2)), .ref (ad (b + 3)), .ref (ad (b + 4)), .ref (ad (b + 5))]).set 0 (.int v)) := by rcases hb with rfl | rfl <;> rfl
theorem ckb2 (cI cZ : ClassId) (ad : Nat → Nat) {b : Nat} (hb : b = 12 ∨ b = 34) (r : Nat → Int32) : celk cI cZ ad (b + 2) r = .inl (cI, 1220, .inl r) := by rcases hb with rfl | rfl <;> rfl
theorem ckb3 (cI cZ : ClassId) (ad : Nat → Nat) {b : Nat} (hb : b = 12 ∨ b = 34) (r : Nat → Int32) : celk cI cZ ad (b + 3) r = .inl (cI, 1220, .inl r) := by rcases hb with rfl | rfl <;> rfl
theorem ckb4 (cI cZ : ClassId) (ad : Nat → Nat) {b : Nat} (hb : b = 12 ∨ b = 34) (r : Nat → Int32) : celk cI cZ ad (b + 4) r = .inl (cI, 40, .inl r) := by rcases hb with rfl | rfl <;> rfl
theorem ckb5 (cI cZ : ClassId) (ad : Nat → Nat) {b : Nat} (hb : b = 12 ∨ b = 34) (r : Nat → Int32) : celk cI cZ ad (b + 5) r = .inl (cI, 40, .inl r) := by rcases hb with rfl | rfl <;> rfl
theorem ckb6 (cI cZ : ClassId) (ad : Nat → Nat) {b : Nat} (hb : b = 12 ∨ b = 34) (r : Nat → Int32) : celk cI cZ ad (b + 6) r = .inr (3, [.ref (ad 1), .ref (ad (b + 7)), .ref (ad (b + 8)), .ref (ad (b + 9)), .ref (ad (b + 10)), .ref (ad (b + 11)), .int (r 6)]) := by rcases hb with rfl | rfl <;> rfl
theorem cpb6_6 (cI cZ : ClassId) (ad : Nat → Nat) {b : Nat} (hb : b = 12 ∨ b = 34) (r : Nat → Int32) (v : Int32) : celk cI cZ ad (b + 6) (upd r 6 v) = .inr (3, ([.ref (ad 1), .ref (ad (b + 7)), .ref (ad (b + 8)), .ref (ad (b + 9)), .ref (ad (b + 10)), .ref (ad (b + 11)), .int (r 6)]).set 6 (.int v)) := by rcases hb with rfl | rfl <;> rfl
theorem ckb7 (cI cZ : ClassId) (ad : Nat → Nat) {b : Nat} (hb : b = 12 ∨ b = 34) (r : Nat → Int32) : celk cI cZ ad (b + 7) r = .inl (cI, 6, .inl r) := by rcases hb with rfl | rfl <;> rfl
theorem ckb8 (cI cZ : ClassId) (ad : Nat → Nat) {b : Nat} (hb : b = 12 ∨ b = 34) (r : Nat → Int32) : celk cI cZ ad (b + 8) r = .inl (cI, 6, .inl r) := by rcases hb with rfl | rfl <;> rfl
theorem ckb9 (cI cZ : ClassId) (ad : Nat → Nat) {b : Nat} (hb : b = 12 ∨ b = 34) (r : Nat → Int32) : celk cI cZ ad (b + 9) r = .inl (cZ, 6, .inl r) := by rcases hb with rfl | rfl <;> rfl
theorem ckb10 (cI cZ : ClassId) (ad : Nat → Nat) {b : Nat} (hb : b = 12 ∨ b = 34) (r : Nat → Int32) : celk cI cZ ad (b + 10) r = .inl (cZ, 6, .inl r) := by rcases hb with rfl | rfl <;> rfl
theorem ckb11 (cI cZ : ClassId) (ad : Nat → Nat) {b : Nat} (hb : b = 12 ∨ b = 34) (r : Nat → Int32) : celk cI cZ ad (b + 11) r = .inl (cI, 36, .inl r) := by rcases hb with rfl | rfl <;> rfl
theorem ckb12 (cI cZ : ClassId) (ad : Nat → Nat) {b : Nat} (hb : b = 12 ∨ b = 34) (r : Nat → Int32) : celk cI cZ ad (b + 12) r = .inr (1, [.int (r 0), .int (r 1), .ref (ad (b + 13)), .ref (ad (b + 14)), .ref (ad (b + 15)), .ref (ad (b + 16)), .ref (ad (b + 17)), .ref (ad (b + 18)), .ref (ad (b + 19))]) := by rcases hb with rfl | rfl <;> rfl
theorem cpb12_0 (cI cZ : ClassId) (ad : Nat → Nat) {b : Nat} (hb : b = 12 ∨ b = 34) (r : Nat → Int32) (v : Int32) : celk cI cZ ad (b + 12) (upd r 0 v) = .inr (1, ([.int (r 0), .int (r 1), .ref (ad (b + 13)), .ref (ad (b + 14)), .ref (ad (b + 15)), .ref (ad (b + 16)), .ref (ad (b + 17)), .ref (ad (b + 18)), .ref (ad (b + 19))]).set 0 (.int v)) := by rcases hb with rfl | rfl <;> rfl
theorem cpb12_1 (cI cZ : ClassId) (ad : Nat → Nat) {b : Nat} (hb : b = 12 ∨ b = 34) (r : Nat → Int32) (v : Int32) : celk cI cZ ad (b + 12) (upd r 1 v) = .inr (1, ([.int (r 0), .int (r 1), .ref (ad (b + 13)), .ref (ad (b + 14)), .ref (ad (b + 15)), .ref (ad (b + 16)), .ref (ad (b + 17)), .ref (ad (b + 18)), .ref (ad (b + 19))]).set 1 (.int v)) := by rcases hb with rfl | rfl <;> rfl
theorem ckb13 (cI cZ : ClassId) (ad : Nat → Nat) {b : Nat} (hb : b = 12 ∨ b = 34) (r : Nat → Int32) : celk cI cZ ad (b + 13) r = .inl (cI, 1200, .inl r) := by rcases hb with rfl | rfl <;> rfl
theorem ckb14 (cI cZ : ClassId) (ad : Nat → Nat) {b : Nat} (hb : b = 12 ∨ b = 34) (r : Nat → Int32) : celk cI cZ ad (b + 14) r = .inl (cI, 1200, .inl r) := by rcases hb with rfl | rfl <;> rfl
theorem ckb15 (cI cZ : ClassId) (ad : Nat → Nat) {b : Nat} (hb : b = 12 ∨ b = 34) (r : Nat → Int32) : celk cI cZ ad (b + 15) r = .inl (cI, 1200, .inl r) := by rcases hb with rfl | rfl <;> rfl
theorem ckb16 (cI cZ : ClassId) (ad : Nat → Nat) {b : Nat} (hb : b = 12 ∨ b = 34) (r : Nat → Int32) : celk cI cZ ad (b + 16) r = .inl (cI, 1200, .inl r) := by rcases hb with rfl | rfl <;> rfl
theorem ckb17 (cI cZ : ClassId) (ad : Nat → Nat) {b : Nat} (hb : b = 12 ∨ b = 34) (r : Nat → Int32) : celk cI cZ ad (b + 17) r = .inl (cI, 1200, .inl r) := by rcases hb with rfl | rfl <;> rfl
theorem ckb18 (cI cZ : ClassId) (ad : Nat → Nat) {b : Nat} (hb : b = 12 ∨ b = 34) (r : Nat → Int32) : celk cI cZ ad (b + 18) r = .inl (cI, 1200, .inl r) := by rcases hb with rfl | rfl <;> rfl
theorem ckb19 (cI cZ : ClassId) (ad : Nat → Nat) {b : Nat} (hb : b = 12 ∨ b = 34) (r : Nat → Int32) : celk cI cZ ad (b + 19) r = .inl (cI, 1200, .inl r) := by rcases hb with rfl | rfl <;> rfl
theorem ckb20 (cI cZ : ClassId) (ad : Nat → Nat) {b : Nat} (hb : b = 12 ∨ b = 34) (r : Nat → Int32) : celk cI cZ ad (b + 20) r = .inl (cI, 240, .inl r) := by rcases hb with rfl | rfl <;> rfl
theorem ckb21 (cI cZ : ClassId) (ad : Nat → Nat) {b : Nat} (hb : b = 12 ∨ b = 34) (r : Nat → Int32) : celk cI cZ ad (b + 21) r = .inl (cZ, 40, .inl r) := by rcases hb with rfl | rfl <;> rfl
theorem lb {b : Nat} (hb : b = 12 ∨ b = 34) {k : Nat} (hk : k < 22) : b + k < 87 := by omega
theorem lb0 {b : Nat} (hb : b = 12 ∨ b = 34) : b < 87 := by omega
def wl (cI cZ : ClassId) (ad : Nat → Nat) (M : Mem) : va_W := (List.range 87).map (fun i => (ad i, celk cI cZ ad i (M i)))
theorem wl_get {cI cZ : ClassId} {ad : Nat → Nat} {M : Mem} {j : Nat} (h : j < 87) : (wl cI cZ ad M)[j]? = some (ad j, celk cI cZ ad j (M j)) := by
  simp [wl, h]
theorem wl_set {cI cZ : ClassId} {ad : Nat → Nat} {M : Mem} {j : Nat} (f : Nat → Int32) (h : j < 87) : (wl cI cZ ad M).set j (ad j, celk cI cZ ad j f) = wl cI cZ ad (va_up M j f) := by
  apply List.ext_getElem?
  intro k
  by_cases hk : k < 87
  · by_cases e : k = j
    · subst e
      rw [List.getElem?_set_self (by simp [wl]; exact hk), wl_get hk, va_up_self]
    · rw [List.getElem?_set_ne (Ne.symm e), wl_get hk, wl_get hk, va_up_ne _ _ e]
  · rw [List.getElem?_eq_none (by simp [wl]; omega), List.getElem?_eq_none (by simp [wl]; omega)]
theorem wl_D {cI cZ : ClassId} {ad : Nat → Nat} {A : Nat → Prop} {M : Mem} (h : va_D A (wl cI cZ ad M)) (M2 : Mem) : va_D A (wl cI cZ ad M2) := by
  have key : ∀ (k : Nat) (q : Nat × va_E), (wl cI cZ ad M2)[k]? = some q → ∃ e, (wl cI cZ ad M)[k]? = some (q.1, e) := by
    intro k q hq
    have hk : k < 87 := by
      have := (List.getElem?_eq_some_iff.mp hq).1
      simpa [wl] using this
    rw [wl_get hk] at hq
    cases hq
    exact ⟨_, wl_get hk⟩
  refine ⟨fun i j x y hx hy hxy => ?_, fun k q hq => ?_⟩
  · obtain ⟨e1, h1⟩ := key i x hx
    obtain ⟨e2, h2⟩ := key j y hy
    exact h.1 i j _ _ h1 h2 hxy
  · obtain ⟨e1, h1⟩ := key k q hq
    exact h.2 k (q.1, e1) h1
theorem wl_A {cI cZ : ClassId} {ad : Nat → Nat} {A : Nat → Prop} {M : Mem} {H0 H : Heap} {locs : List Loc} (hD : va_D A (wl cI cZ ad M)) (hS : va_S A H0 H locs) (hA : ∀ q, H0.size ≤ q → A q) : ∀ q, va_A (wl cI cZ ad M) H.size q → A q := by
  intro q h
  rcases h with ⟨k, e, h⟩ | h
  · exact hD.2 k (q, e) h
  · exact hA q (Nat.le_trans hS.1 h)
/-- the nest mates' links -/
def NW (U : State) : Prop := va_Nw (.methodLinkNest RX5 47 yX6_namesLetter RX6) U ∧ va_Nw (.methodLinkNest RX5 50 yX6_isLetter RX6) U ∧ va_Nw (.methodLinkNest RX5 53 yX6_isTimed RX6) U ∧ va_Nw (.methodLinkNest RX3 58 yX6_pair RX6) U ∧ va_Nw (.methodLinkNest RX0 34 yX6_isTurn RX6) U ∧ va_Nw (.methodLinkNest RX4 185 yX6_pair RX6) U ∧ va_Nw (.methodLinkNest RX4 221 yX6_place RX6) U
theorem NW.warm {s U : State} (hW : s.WarmedH U.vm) (h : NW s) : NW U := ⟨h.1.warmM hW, h.2.1.warmM hW, h.2.2.1.warmM hW, h.2.2.2.1.warmM hW, h.2.2.2.2.1.warmM hW, h.2.2.2.2.2.1.warmM hW, h.2.2.2.2.2.2.warmM hW⟩
theorem NW.same {u U : State} (e : u.vm = U.vm) (h : NW u) : NW U := ⟨h.1.same rfl e, h.2.1.same rfl e, h.2.2.1.same rfl e, h.2.2.2.1.same rfl e, h.2.2.2.2.1.same rfl e, h.2.2.2.2.2.1.same rfl e, h.2.2.2.2.2.2.same rfl e⟩
abbrev tyc (cI cZ : ClassId) : List (ClassId × FieldType) := [(cI, .int), (cZ, .boolean)]
def PreW (D : va_G) (cI cZ : ClassId) (ad : Nat → Nat) (M : Mem) (sz : Nat) (U : State) : Prop := U.heap.size = sz ∧ va_P D vwCl (wl cI cZ ad M) U.heap ∧ va_K D vwCl (tyc cI cZ) U ∧ va_D (fun _ => True) (wl cI cZ ad M) ∧ NW U
def MetI (l : Launch) (y : MethodName) (ws : List Cond) (rm : Room) (D : va_G) (cI cZ : ClassId) (ad : Nat → Nat) (av : List Value) (M : Mem) (r : Int32) (M' : Mem) : Prop := ∀ sz : Nat, Met l y ws rm (va_Pc av (PreW D cI cZ ad M sz)) (va_Qi (fun (r' : Int32) (_ : Unit) => r' = r) (fun _ t => va_P D vwCl (wl cI cZ ad M') t.heap) (va_A (wl cI cZ ad M) sz)) 0 0 (va_A (wl cI cZ ad M) sz)
def MetV (l : Launch) (y : MethodName) (ws : List Cond) (rm : Room) (D : va_G) (cI cZ : ClassId) (ad : Nat → Nat) (av : List Value) (M M' : Mem) : Prop := ∀ sz : Nat, Met l y ws rm (va_Pc av (PreW D cI cZ ad M sz)) (va_Qv (fun (_ : Unit) => True) (fun _ t => va_P D vwCl (wl cI cZ ad M') t.heap) (va_A (wl cI cZ ad M) sz)) 0 0 (va_A (wl cI cZ ad M) sz)
def Cx (p : Program) (s : State) (m : MethodId) (args : Array Value) (c : Code) (cc : ByteArray) (nL : Nat) (own : String) (Ts : List Cond) (D : va_G) (cI cZ : ClassId) (ad : Nat → Nat) (A : Nat → Prop) : Prop :=
  p.tables.exec = Jvm.exec ∧ c.code = cc ∧ c.maxLocals = nL ∧ s.vm.findClass own = some m.cls ∧ (∀ w ∈ Ts, w.before args s = true) ∧ va_K D vwCl (tyc cI cZ) s ∧ (∀ M, va_D A (wl cI cZ ad M)) ∧ (∀ q, s.heap.size ≤ q → A q) ∧ NW s
def Wk (p : Program) (l : Launch) (e : Env) (R : Room) (s : State) (m : MethodId) (args : Array Value) (below : List Frame) (meth : Method) (c : Code) (D : va_G) (cI cZ : ClassId) (ad : Nat → Nat) (A : Nat → Prop) (nL nc ns : Nat) (Q : State → Prop) (M : Mem) (pc : Nat) (lv : List (Nat × Value)) (st : List Value) : Prop :=
  ∀ (H : Heap) (locs : List Loc) (ls : Array Slot), va_P D vwCl (wl cI cZ ad M) H → va_S A s.heap H locs → lv_has ls nL lv → W p l e R s m args below meth c H locs nc ns Q (F0 m pc ls st)
theorem pre_blind {av : List Value} {D : va_G} {cI cZ : ClassId} {ad : Nat → Nat} {M : Mem} {sz : Nat} : FrameBlind (va_Pc av (PreW D cI cZ ad M sz)) := fun a U g mk q => by
  obtain ⟨q0, q1, qP, qK, qD, qN⟩ := q
  exact ⟨q0, q1, qP, va_K.moved (u := U) (U := U.calling g mk a) (Vm.Alike.refl U.vm) qK, qD, qN.same rfl⟩
section WK
variable {p : Program} {l : Launch} {e : Env} {R : Room} {s : State} {m : MethodId} {args : Array Value} {below : List Frame} {meth : Method} {c : Code} {D : va_G} {cI cZ : ClassId} {ad : Nat → Nat} {A : Nat → Prop} {nL nc ns : Nat} {Q : State → Prop} {M : Mem} {pc : Nat} {lv : List (Nat × Value)} {rest : List Value}
variable {cc : ByteArray} {own : String} {Ts : List Cond}
theorem wk_iconst (G : Cx p s m args c cc nL own Ts D cI cZ ad A) {n : Int} {v : Int32} (d : decode cc pc = .ok (.iconst n, 1)) (hv : Int32.ofInt n = v) (k : Wk p l e R s m args below meth c D cI cZ ad A nL nc ns Q M (pc + 1) lv (.int v :: rest)) : Wk p l e R s m args below meth c D cI cZ ad A nL nc ns Q M pc lv (rest) := fun H locs ls hP hS hl => lv_iconst G.1 G.2.1 d hv (k H locs ls hP hS hl)
theorem wk_bipush (G : Cx p s m args c cc nL own Ts D cI cZ ad A) {n : Int} {v : Int32} (d : decode cc pc = .ok (.bipush n, 2)) (hv : (Int8.ofInt n).toInt32 = v) (k : Wk p l e R s m args below meth c D cI cZ ad A nL nc ns Q M (pc + 2) lv (.int v :: rest)) : Wk p l e R s m args below meth c D cI cZ ad A nL nc ns Q M pc lv (rest) := fun H locs ls hP hS hl => lv_bipush G.1 G.2.1 d hv (k H locs ls hP hS hl)
theorem wk_sipush (G : Cx p s m args c cc nL own Ts D cI cZ ad A) {n : Int} {v : Int32} (d : decode cc pc = .ok (.sipush n, 3)) (hv : (Int16.ofInt n).toInt32 = v) (k : Wk p l e R s m args below meth c D cI cZ ad A nL nc ns Q M (pc + 3) lv (.int v :: rest)) : Wk p l e R s m args below meth c D cI cZ ad A nL nc ns Q M pc lv (rest) := fun H locs ls hP hS hl => lv_sipush G.1 G.2.1 d hv (k H locs ls hP hS hl)
theorem wk_iadd (G : Cx p s m args c cc nL own Ts D cI cZ ad A) {x y : Int32} (d : decode cc pc = .ok (.iadd, 1))  (k : Wk p l e R s m args below meth c D cI cZ ad A nL nc ns Q M (pc + 1) lv (.int (x + y) :: rest)) : Wk p l e R s m args below meth c D cI cZ ad A nL nc ns Q M pc lv (.int y :: .int x :: rest) := fun H locs ls hP hS hl => lv_iadd G.1 G.2.1 d  (k H locs ls hP hS hl)
theorem wk_isub (G : Cx p s m args c cc nL own Ts D cI cZ ad A) {x y : Int32} (d : decode cc pc = .ok (.isub, 1))  (k : Wk p l e R s m args below meth c D cI cZ ad A nL nc ns Q M (pc + 1) lv (.int (x - y) :: rest)) : Wk p l e R s m args below meth c D cI cZ ad A nL nc ns Q M pc lv (.int y :: .int x :: rest) := fun H locs ls hP hS hl => lv_isub G.1 G.2.1 d  (k H locs ls hP hS hl)
theorem wk_imul (G : Cx p s m args c cc nL own Ts D cI cZ ad A) {x y : Int32} (d : decode cc pc = .ok (.imul, 1))  (k : Wk p l e R s m args below meth c D cI cZ ad A nL nc ns Q M (pc + 1) lv (.int (x * y) :: rest)) : Wk p l e R s m args below meth c D cI cZ ad A nL nc ns Q M pc lv (.int y :: .int x :: rest) := fun H locs ls hP hS hl => lv_imul G.1 G.2.1 d  (k H locs ls hP hS hl)
theorem wk_iand (G : Cx p s m args c cc nL own Ts D cI cZ ad A) {x y : Int32} (d : decode cc pc = .ok (.iand, 1))  (k : Wk p l e R s m args below meth c D cI cZ ad A nL nc ns Q M (pc + 1) lv (.int (x &&& y) :: rest)) : Wk p l e R s m args below meth c D cI cZ ad A nL nc ns Q M pc lv (.int y :: .int x :: rest) := fun H locs ls hP hS hl => lv_iand G.1 G.2.1 d  (k H locs ls hP hS hl)
theorem wk_ior (G : Cx p s m args c cc nL own Ts D cI cZ ad A) {x y : Int32} (d : decode cc pc = .ok (.ior, 1))  (k : Wk p l e R s m args below meth c D cI cZ ad A nL nc ns Q M (pc + 1) lv (.int (x ||| y) :: rest)) : Wk p l e R s m args below meth c D cI cZ ad A nL nc ns Q M pc lv (.int y :: .int x :: rest) := fun H locs ls hP hS hl => lv_ior G.1 G.2.1 d  (k H locs ls hP hS hl)
theorem wk_ishl (G : Cx p s m args c cc nL own Ts D cI cZ ad A) {x y : Int32} (d : decode cc pc = .ok (.ishl, 1))  (k : Wk p l e R s m args below meth c D cI cZ ad A nL nc ns Q M (pc + 1) lv (.int (x <<< (y &&& 31)) :: rest)) : Wk p l e R s m args below meth c D cI cZ ad A nL nc ns Q M pc lv (.int y :: .int x :: rest) := fun H locs ls hP hS hl => lv_ishl G.1 G.2.1 d  (k H locs ls hP hS hl)
theorem wk_ishr (G : Cx p s m args c cc nL own Ts D cI cZ ad A) {x y : Int32} (d : decode cc pc = .ok (.ishr, 1))  (k : Wk p l e R s m args below meth c D cI cZ ad A nL nc ns Q M (pc + 1) lv (.int (x >>> (y &&& 31)) :: rest)) : Wk p l e R s m args below meth c D cI cZ ad A nL nc ns Q M pc lv (.int y :: .int x :: rest) := fun H locs ls hP hS hl => lv_ishr G.1 G.2.1 d  (k H locs ls hP hS hl)
theorem wk_iushr (G : Cx p s m args c cc nL own Ts D cI cZ ad A) {x y : Int32} (d : decode cc pc = .ok (.iushr, 1))  (k : Wk p l e R s m args below meth c D cI cZ ad A nL nc ns Q M (pc + 1) lv (.int ((x.toUInt32 >>> (y.toUInt32 &&& Int32.toUInt32 31)).toInt32) :: rest)) : Wk p l e R s m args below meth c D cI cZ ad A nL nc ns Q M pc lv (.int y :: .int x :: rest) := fun H locs ls hP hS hl => lv_iushr G.1 G.2.1 d rfl (k H locs ls hP hS hl)
theorem wk_ineg (G : Cx p s m args c cc nL own Ts D cI cZ ad A) {x : Int32} (d : decode cc pc = .ok (.ineg, 1))  (k : Wk p l e R s m args below meth c D cI cZ ad A nL nc ns Q M (pc + 1) lv (.int (-x) :: rest)) : Wk p l e R s m args below meth c D cI cZ ad A nL nc ns Q M pc lv (.int x :: rest) := fun H locs ls hP hS hl => lv_ineg G.1 G.2.1 d  (k H locs ls hP hS hl)
theorem wk_irem (G : Cx p s m args c cc nL own Ts D cI cZ ad A) {x y : Int32} (d : decode cc pc = .ok (.irem, 1)) (hne : ¬ y = 0) (k : Wk p l e R s m args below meth c D cI cZ ad A nL nc ns Q M (pc + 1) lv (.int (x - x / y * y) :: rest)) : Wk p l e R s m args below meth c D cI cZ ad A nL nc ns Q M pc lv (.int y :: .int x :: rest) := fun H locs ls hP hS hl => lv_irem G.1 G.2.1 d hne (k H locs ls hP hS hl)
theorem wk_dup (G : Cx p s m args c cc nL own Ts D cI cZ ad A) {va : Value} (d : decode cc pc = .ok (.dup, 1)) (h1 : va.category = 1) (k : Wk p l e R s m args below meth c D cI cZ ad A nL nc ns Q M (pc + 1) lv (va :: va :: rest)) : Wk p l e R s m args below meth c D cI cZ ad A nL nc ns Q M pc lv (va :: rest) := fun H locs ls hP hS hl => lv_dup G.1 G.2.1 d h1 (k H locs ls hP hS hl)
theorem wk_pop (G : Cx p s m args c cc nL own Ts D cI cZ ad A) {va : Value} (d : decode cc pc = .ok (.pop, 1)) (h1 : va.category = 1) (k : Wk p l e R s m args below meth c D cI cZ ad A nL nc ns Q M (pc + 1) lv (rest)) : Wk p l e R s m args below meth c D cI cZ ad A nL nc ns Q M pc lv (va :: rest) := fun H locs ls hP hS hl => lv_pop G.1 G.2.1 d h1 (k H locs ls hP hS hl)
theorem wk_dup2 (G : Cx p s m args c cc nL own Ts D cI cZ ad A) {va vb : Value} (d : decode cc pc = .ok (.dup2, 1)) (h1 : va.category = 1) (h2 : vb.category = 1) (k : Wk p l e R s m args below meth c D cI cZ ad A nL nc ns Q M (pc + 1) lv (va :: vb :: va :: vb :: rest)) : Wk p l e R s m args below meth c D cI cZ ad A nL nc ns Q M pc lv (va :: vb :: rest) := fun H locs ls hP hS hl => lv_dup2_11 G.1 G.2.1 d h1 h2 (k H locs ls hP hS hl)
theorem wk_dup_x1 (G : Cx p s m args c cc nL own Ts D cI cZ ad A) {va vb : Value} (d : decode cc pc = .ok (.dup_x1, 1)) (h1 : va.category = 1) (h2 : vb.category = 1) (k : Wk p l e R s m args below meth c D cI cZ ad A nL nc ns Q M (pc + 1) lv (va :: vb :: va :: rest)) : Wk p l e R s m args below meth c D cI cZ ad A nL nc ns Q M pc lv (va :: vb :: rest) := fun H locs ls hP hS hl => lv_dup_x1 G.1 G.2.1 d h1 h2 (k H locs ls hP hS hl)
theorem wk_dup_x2 (G : Cx p s m args c cc nL own Ts D cI cZ ad A) {va vb vd : Value} (d : decode cc pc = .ok (.dup_x2, 1)) (h1 : va.category = 1) (h2 : vb.category = 1) (h3 : vd.category = 1) (k : Wk p l e R s m args below meth c D cI cZ ad A nL nc ns Q M (pc + 1) lv (va :: vb :: vd :: va :: rest)) : Wk p l e R s m args below meth c D cI cZ ad A nL nc ns Q M pc lv (va :: vb :: vd :: rest) := fun H locs ls hP hS hl => lv_dup_x2 G.1 G.2.1 d h1 h2 h3 (k H locs ls hP hS hl)
theorem wk_iload_n (G : Cx p s m args c cc nL own Ts D cI cZ ad A) {k0 : Fin 4} (k : Nat) {i : Nat} {x : Int32} (d : decode cc pc = .ok (.iload_n k0, 1)) (hi : (k0 : Nat) = i) (hk : lv[k]? = some (i, .int x)) (kk : Wk p l e R s m args below meth c D cI cZ ad A nL nc ns Q M (pc + 1) lv (.int x :: rest)) : Wk p l e R s m args below meth c D cI cZ ad A nL nc ns Q M pc lv rest := fun H locs ls hP hS hl => lv_iload_n G.1 G.2.1 d hi (lv_at hl k hk) (kk H locs ls hP hS hl)
theorem wk_iload (G : Cx p s m args c cc nL own Ts D cI cZ ad A) (k : Nat) {i : Nat} {x : Int32} (d : decode cc pc = .ok (.iload i, 2)) (hk : lv[k]? = some (i, .int x)) (kk : Wk p l e R s m args below meth c D cI cZ ad A nL nc ns Q M (pc + 2) lv (.int x :: rest)) : Wk p l e R s m args below meth c D cI cZ ad A nL nc ns Q M pc lv rest := fun H locs ls hP hS hl => lv_iload G.1 G.2.1 d (lv_at hl k hk) (kk H locs ls hP hS hl)
theorem wk_istore_n (G : Cx p s m args c cc nL own Ts D cI cZ ad A) {k0 : Fin 4} {i : Nat} {x : Int32} {lv' : List (Nat × Value)} (d : decode cc pc = .ok (.istore_n k0, 1)) (hi : (k0 : Nat) = i) (hn : i < nL) (hv : (i, Value.int x) :: lv.filter (fun q => !(q.1 == i) && !(q.1 + 1 == i && q.2.category == 2)) = lv') (kk : Wk p l e R s m args below meth c D cI cZ ad A nL nc ns Q M (pc + 1) lv' rest) : Wk p l e R s m args below meth c D cI cZ ad A nL nc ns Q M pc lv (.int x :: rest) := fun H locs ls hP hS hl => lv_istore_n G.1 G.2.1 d hi hl hn hv (fun ls' hl' => kk H locs ls' hP hS hl')
theorem wk_istore (G : Cx p s m args c cc nL own Ts D cI cZ ad A) {i : Nat} {x : Int32} {lv' : List (Nat × Value)} (d : decode cc pc = .ok (.istore i, 2)) (hn : i < nL) (hv : (i, Value.int x) :: lv.filter (fun q => !(q.1 == i) && !(q.1 + 1 == i && q.2.category == 2)) = lv') (kk : Wk p l e R s m args below meth c D cI cZ ad A nL nc ns Q M (pc + 2) lv' rest) : Wk p l e R s m args below meth c D cI cZ ad A nL nc ns Q M pc lv (.int x :: rest) := fun H locs ls hP hS hl => lv_istore G.1 G.2.1 d hl hn hv (fun ls' hl' => kk H locs ls' hP hS hl')
theorem wk_aload_n (G : Cx p s m args c cc nL own Ts D cI cZ ad A) {k0 : Fin 4} (k : Nat) {i : Nat} {x : Nat} (d : decode cc pc = .ok (.aload_n k0, 1)) (hi : (k0 : Nat) = i) (hk : lv[k]? = some (i, .ref x)) (kk : Wk p l e R s m args below meth c D cI cZ ad A nL nc ns Q M (pc + 1) lv (.ref x :: rest)) : Wk p l e R s m args below meth c D cI cZ ad A nL nc ns Q M pc lv rest := fun H locs ls hP hS hl => lv_aload_n G.1 G.2.1 d hi (lv_at hl k hk) (kk H locs ls hP hS hl)
theorem wk_aload (G : Cx p s m args c cc nL own Ts D cI cZ ad A) (k : Nat) {i : Nat} {x : Nat} (d : decode cc pc = .ok (.aload i, 2)) (hk : lv[k]? = some (i, .ref x)) (kk : Wk p l e R s m args below meth c D cI cZ ad A nL nc ns Q M (pc + 2) lv (.ref x :: rest)) : Wk p l e R s m args below meth c D cI cZ ad A nL nc ns Q M pc lv rest := fun H locs ls hP hS hl => lv_aload G.1 G.2.1 d (lv_at hl k hk) (kk H locs ls hP hS hl)
theorem wk_astore_n (G : Cx p s m args c cc nL own Ts D cI cZ ad A) {k0 : Fin 4} {i : Nat} {x : Nat} {lv' : List (Nat × Value)} (d : decode cc pc = .ok (.astore_n k0, 1)) (hi : (k0 : Nat) = i) (hn : i < nL) (hv : (i, Value.ref x) :: lv.filter (fun q => !(q.1 == i) && !(q.1 + 1 == i && q.2.category == 2)) = lv') (kk : Wk p l e R s m args below meth c D cI cZ ad A nL nc ns Q M (pc + 1) lv' rest) : Wk p l e R s m args below meth c D cI cZ ad A nL nc ns Q M pc lv (.ref x :: rest) := fun H locs ls hP hS hl => lv_astore_n G.1 G.2.1 d hi hl hn hv (fun ls' hl' => kk H locs ls' hP hS hl')
theorem wk_astore (G : Cx p s m args c cc nL own Ts D cI cZ ad A) {i : Nat} {x : Nat} {lv' : List (Nat × Value)} (d : decode cc pc = .ok (.astore i, 2)) (hn : i < nL) (hv : (i, Value.ref x) :: lv.filter (fun q => !(q.1 == i) && !(q.1 + 1 == i && q.2.category == 2)) = lv') (kk : Wk p l e R s m args below meth c D cI cZ ad A nL nc ns Q M (pc + 2) lv' rest) : Wk p l e R s m args below meth c D cI cZ ad A nL nc ns Q M pc lv (.ref x :: rest) := fun H locs ls hP hS hl => lv_astore G.1 G.2.1 d hl hn hv (fun ls' hl' => kk H locs ls' hP hS hl')
theorem wk_iinc (G : Cx p s m args c cc nL own Ts D cI cZ ad A) {i : Nat} (k : Nat) {n : Int} {x v : Int32} {lv' : List (Nat × Value)} (d : decode cc pc = .ok (.iinc i n, 3)) (hk : lv[k]? = some (i, .int x)) (hx : v = x + Int32.ofInt n) (hn : i < nL) (hv : (i, Value.int v) :: lv.filter (fun q => !(q.1 == i) && !(q.1 + 1 == i && q.2.category == 2)) = lv') (kk : Wk p l e R s m args below meth c D cI cZ ad A nL nc ns Q M (pc + 3) lv' rest) : Wk p l e R s m args below meth c D cI cZ ad A nL nc ns Q M pc lv rest := fun H locs ls hP hS hl => lv_iinc G.1 G.2.1 d hl hk hx.symm hn hv (fun ls' hl' => kk H locs ls' hP hS hl')
theorem wk_if_eq (G : Cx p s m args c cc nL own Ts D cI cZ ad A) {x : Int32} {off : Int} {tgt : Nat} (d : decode cc pc = .ok (.ifCond .eq off, 3)) (ht : (pc : Int) + off = (tgt : Int)) (kt : x = 0 → Wk p l e R s m args below meth c D cI cZ ad A nL nc ns Q M tgt lv rest) (kf : ¬ x = 0 → Wk p l e R s m args below meth c D cI cZ ad A nL nc ns Q M (pc + 3) lv rest) : Wk p l e R s m args below meth c D cI cZ ad A nL nc ns Q M pc lv (.int x :: rest) := fun H locs ls hP hS hl => lv_if_eq G.1 G.2.1 d ht (fun h => kt h H locs ls hP hS hl) (fun h => kf h H locs ls hP hS hl)
theorem wk_icmp_eq (G : Cx p s m args c cc nL own Ts D cI cZ ad A) {x y : Int32} {off : Int} {tgt : Nat} (d : decode cc pc = .ok (.if_icmp .eq off, 3)) (ht : (pc : Int) + off = (tgt : Int)) (kt : x = y → Wk p l e R s m args below meth c D cI cZ ad A nL nc ns Q M tgt lv rest) (kf : ¬ x = y → Wk p l e R s m args below meth c D cI cZ ad A nL nc ns Q M (pc + 3) lv rest) : Wk p l e R s m args below meth c D cI cZ ad A nL nc ns Q M pc lv (.int y :: .int x :: rest) := fun H locs ls hP hS hl => lv_icmp_eq G.1 G.2.1 d ht (fun h => kt h H locs ls hP hS hl) (fun h => kf h H locs ls hP hS hl)
theorem wk_if_lt (G : Cx p s m args c cc nL own Ts D cI cZ ad A) {x : Int32} {off : Int} {tgt : Nat} (d : decode cc pc = .ok (.ifCond .lt off, 3)) (ht : (pc : Int) + off = (tgt : Int)) (kt : x < 0 → Wk p l e R s m args below meth c D cI cZ ad A nL nc ns Q M tgt lv rest) (kf : ¬ x < 0 → Wk p l e R s m args below meth c D cI cZ ad A nL nc ns Q M (pc + 3) lv rest) : Wk p l e R s m args below meth c D cI cZ ad A nL nc ns Q M pc lv (.int x :: rest) := fun H locs ls hP hS hl => lv_if_lt G.1 G.2.1 d ht (fun h => kt h H locs ls hP hS hl) (fun h => kf h H locs ls hP hS hl)
theorem wk_icmp_lt (G : Cx p s m args c cc nL own Ts D cI cZ ad A) {x y : Int32} {off : Int} {tgt : Nat} (d : decode cc pc = .ok (.if_icmp .lt off, 3)) (ht : (pc : Int) + off = (tgt : Int)) (kt : x < y → Wk p l e R s m args below meth c D cI cZ ad A nL nc ns Q M tgt lv rest) (kf : ¬ x < y → Wk p l e R s m args below meth c D cI cZ ad A nL nc ns Q M (pc + 3) lv rest) : Wk p l e R s m args below meth c D cI cZ ad A nL nc ns Q M pc lv (.int y :: .int x :: rest) := fun H locs ls hP hS hl => lv_icmp_lt G.1 G.2.1 d ht (fun h => kt h H locs ls hP hS hl) (fun h => kf h H locs ls hP hS hl)
theorem wk_if_ge (G : Cx p s m args c cc nL own Ts D cI cZ ad A) {x : Int32} {off : Int} {tgt : Nat} (d : decode cc pc = .ok (.ifCond .ge off, 3)) (ht : (pc : Int) + off = (tgt : Int)) (kt : 0 ≤ x → Wk p l e R s m args below meth c D cI cZ ad A nL nc ns Q M tgt lv rest) (kf : ¬ 0 ≤ x → Wk p l e R s m args below meth c D cI cZ ad A nL nc ns Q M (pc + 3) lv rest) : Wk p l e R s m args below meth c D cI cZ ad A nL nc ns Q M pc lv (.int x :: rest) := fun H locs ls hP hS hl => lv_if_ge G.1 G.2.1 d ht (fun h => kt h H locs ls hP hS hl) (fun h => kf h H locs ls hP hS hl)
theorem wk_icmp_ge (G : Cx p s m args c cc nL own Ts D cI cZ ad A) {x y : Int32} {off : Int} {tgt : Nat} (d : decode cc pc = .ok (.if_icmp .ge off, 3)) (ht : (pc : Int) + off = (tgt : Int)) (kt : y ≤ x → Wk p l e R s m args below meth c D cI cZ ad A nL nc ns Q M tgt lv rest) (kf : ¬ y ≤ x → Wk p l e R s m args below meth c D cI cZ ad A nL nc ns Q M (pc + 3) lv rest) : Wk p l e R s m args below meth c D cI cZ ad A nL nc ns Q M pc lv (.int y :: .int x :: rest) := fun H locs ls hP hS hl => lv_icmp_ge G.1 G.2.1 d ht (fun h => kt h H locs ls hP hS hl) (fun h => kf h H locs ls hP hS hl)
theorem wk_if_gt (G : Cx p s m args c cc nL own Ts D cI cZ ad A) {x : Int32} {off : Int} {tgt : Nat} (d : decode cc pc = .ok (.ifCond .gt off, 3)) (ht : (pc : Int) + off = (tgt : Int)) (kt : 0 < x → Wk p l e R s m args below meth c D cI cZ ad A nL nc ns Q M tgt lv rest) (kf : ¬ 0 < x → Wk p l e R s m args below meth c D cI cZ ad A nL nc ns Q M (pc + 3) lv rest) : Wk p l e R s m args below meth c D cI cZ ad A nL nc ns Q M pc lv (.int x :: rest) := fun H locs ls hP hS hl => lv_if_gt G.1 G.2.1 d ht (fun h => kt h H locs ls hP hS hl) (fun h => kf h H locs ls hP hS hl)
theorem wk_icmp_gt (G : Cx p s m args c cc nL own Ts D cI cZ ad A) {x y : Int32} {off : Int} {tgt : Nat} (d : decode cc pc = .ok (.if_icmp .gt off, 3)) (ht : (pc : Int) + off = (tgt : Int)) (kt : y < x → Wk p l e R s m args below meth c D cI cZ ad A nL nc ns Q M tgt lv rest) (kf : ¬ y < x → Wk p l e R s m args below meth c D cI cZ ad A nL nc ns Q M (pc + 3) lv rest) : Wk p l e R s m args below meth c D cI cZ ad A nL nc ns Q M pc lv (.int y :: .int x :: rest) := fun H locs ls hP hS hl => lv_icmp_gt G.1 G.2.1 d ht (fun h => kt h H locs ls hP hS hl) (fun h => kf h H locs ls hP hS hl)
theorem wk_if_le (G : Cx p s m args c cc nL own Ts D cI cZ ad A) {x : Int32} {off : Int} {tgt : Nat} (d : decode cc pc = .ok (.ifCond .le off, 3)) (ht : (pc : Int) + off = (tgt : Int)) (kt : x ≤ 0 → Wk p l e R s m args below meth c D cI cZ ad A nL nc ns Q M tgt lv rest) (kf : ¬ x ≤ 0 → Wk p l e R s m args below meth c D cI cZ ad A nL nc ns Q M (pc + 3) lv rest) : Wk p l e R s m args below meth c D cI cZ ad A nL nc ns Q M pc lv (.int x :: rest) := fun H locs ls hP hS hl => lv_if_le G.1 G.2.1 d ht (fun h => kt h H locs ls hP hS hl) (fun h => kf h H locs ls hP hS hl)
theorem wk_icmp_le (G : Cx p s m args c cc nL own Ts D cI cZ ad A) {x y : Int32} {off : Int} {tgt : Nat} (d : decode cc pc = .ok (.if_icmp .le off, 3)) (ht : (pc : Int) + off = (tgt : Int)) (kt : x ≤ y → Wk p l e R s m args below meth c D cI cZ ad A nL nc ns Q M tgt lv rest) (kf : ¬ x ≤ y → Wk p l e R s m args below meth c D cI cZ ad A nL nc ns Q M (pc + 3) lv rest) : Wk p l e R s m args below meth c D cI cZ ad A nL nc ns Q M pc lv (.int y :: .int x :: rest) := fun H locs ls hP hS hl => lv_icmp_le G.1 G.2.1 d ht (fun h => kt h H locs ls hP hS hl) (fun h => kf h H locs ls hP hS hl)
theorem wk_if_ne (G : Cx p s m args c cc nL own Ts D cI cZ ad A) {x : Int32} {off : Int} {tgt : Nat} (d : decode cc pc = .ok (.ifCond .ne off, 3)) (ht : (pc : Int) + off = (tgt : Int)) (kt : ¬ x = 0 → Wk p l e R s m args below meth c D cI cZ ad A nL nc ns Q M tgt lv rest) (kf : x = 0 → Wk p l e R s m args below meth c D cI cZ ad A nL nc ns Q M (pc + 3) lv rest) : Wk p l e R s m args below meth c D cI cZ ad A nL nc ns Q M pc lv (.int x :: rest) := fun H locs ls hP hS hl => lv_if_ne G.1 G.2.1 d ht (fun h => kt h H locs ls hP hS hl) (fun h => kf h H locs ls hP hS hl)
theorem wk_icmp_ne (G : Cx p s m args c cc nL own Ts D cI cZ ad A) {x y : Int32} {off : Int} {tgt : Nat} (d : decode cc pc = .ok (.if_icmp .ne off, 3)) (ht : (pc : Int) + off = (tgt : Int)) (kt : ¬ x = y → Wk p l e R s m args below meth c D cI cZ ad A nL nc ns Q M tgt lv rest) (kf : x = y → Wk p l e R s m args below meth c D cI cZ ad A nL nc ns Q M (pc + 3) lv rest) : Wk p l e R s m args below meth c D cI cZ ad A nL nc ns Q M pc lv (.int y :: .int x :: rest) := fun H locs ls hP hS hl => lv_icmp_ne G.1 G.2.1 d ht (fun h => kt h H locs ls hP hS hl) (fun h => kf h H locs ls hP hS hl)
theorem wk_goto (G : Cx p s m args c cc nL own Ts D cI cZ ad A) {off : Int} {tgt : Nat} (d : decode cc pc = .ok (.goto off, 3)) (ht : (pc : Int) + off = (tgt : Int)) (k : Wk p l e R s m args below meth c D cI cZ ad A nL nc ns Q M tgt lv rest) : Wk p l e R s m args below meth c D cI cZ ad A nL nc ns Q M pc lv rest := fun H locs ls hP hS hl => lv_goto G.1 G.2.1 d ht (k H locs ls hP hS hl)
theorem wk_sub {lv' : List (Nat × Value)} (ks : List Nat) (h : lv_pick lv ks = lv') (k : Wk p l e R s m args below meth c D cI cZ ad A nL nc ns Q M pc lv' rest) : Wk p l e R s m args below meth c D cI cZ ad A nL nc ns Q M pc lv rest := fun H locs ls hP hS hl => k H locs ls hP hS (lv_sub hl ks h)
theorem wk_nm {v : Int32} (k : ∀ x : Int32, x = v → Wk p l e R s m args below meth c D cI cZ ad A nL nc ns Q M pc lv (.int x :: rest)) : Wk p l e R s m args below meth c D cI cZ ad A nL nc ns Q M pc lv (.int v :: rest) := k v rfl
theorem wk_tableOut (G : Cx p s m args c cc nL own Ts D cI cZ ad A) {dflt lo hi : Int} {offs : Array Int} {len : Nat} {x : Int32} {tgt : Nat} (d : decode cc pc = .ok (.tableswitch dflt lo hi offs, len)) (h : x.toInt < lo ∨ hi < x.toInt) (ht : (pc : Int) + dflt = (tgt : Int)) (k : Wk p l e R s m args below meth c D cI cZ ad A nL nc ns Q M tgt lv rest) : Wk p l e R s m args below meth c D cI cZ ad A nL nc ns Q M pc lv (.int x :: rest) := fun H locs ls hP hS hl => lv_tableOut G.1 G.2.1 d h ht (k H locs ls hP hS hl)
theorem wk_tableIn (G : Cx p s m args c cc nL own Ts D cI cZ ad A) {dflt lo hi : Int} {offs : Array Int} {len : Nat} {x : Int32} {off : Int} {tgt : Nat} (d : decode cc pc = .ok (.tableswitch dflt lo hi offs, len)) (h1 : ¬ x.toInt < lo) (h2 : ¬ hi < x.toInt) (ho : offs[(x.toInt - lo).toNat]? = some off) (ht : (pc : Int) + off = (tgt : Int)) (k : Wk p l e R s m args below meth c D cI cZ ad A nL nc ns Q M tgt lv rest) : Wk p l e R s m args below meth c D cI cZ ad A nL nc ns Q M pc lv (.int x :: rest) := fun H locs ls hP hS hl => lv_tableIn G.1 G.2.1 d h1 h2 ho ht (k H locs ls hP hS hl)
theorem wk_lookup (G : Cx p s m args c cc nL own Ts D cI cZ ad A) {dflt : Int} {ps : Array (Int × Int)} {len : Nat} {x : Int32} {off : Int} {tgt : Nat} (d : decode cc pc = .ok (.lookupswitch dflt ps, len)) (hp : (ps.toList.zip (ps.toList.drop 1)).all (fun (a, next) => a.1 < next.1) = true) (ho : Op.lookupswitch.offset ps.toList dflt x.toInt = off) (ht : (pc : Int) + off = (tgt : Int)) (k : Wk p l e R s m args below meth c D cI cZ ad A nL nc ns Q M tgt lv rest) : Wk p l e R s m args below meth c D cI cZ ad A nL nc ns Q M pc lv (.int x :: rest) := fun H locs ls hP hS hl => lv_lookup G.1 G.2.1 d hp ho ht (k H locs ls hP hS hl)
theorem wk_get (G : Cx p s m args c cc nL own Ts D cI cZ ad A) {C : String} {T : u_T} {N ci index : Nat} (hin : ∀ w ∈ u_ws C T N, w ∈ Ts) (q0 : Nat) (hq : q0 < 87) {fs : List Value} (he : celk cI cZ ad q0 (M q0) = .inr (ci, fs)) (hc : vwCl[ci]? = some (C, T, N)) (k : Nat) (hk : k < N) (hlink : Cond.fieldLink own index (T k).1 (T k).2.1 (T k).2.2.1 ∈ Ts) {v : Value} (hv : fs[k]? = some v) (d : decode cc pc = .ok (.getfield index, 3)) (kk : Wk p l e R s m args below meth c D cI cZ ad A nL nc ns Q M (pc + 3) lv (v :: rest)) : Wk p l e R s m args below meth c D cI cZ ad A nL nc ns Q M pc lv (.ref (ad q0) :: rest) := fun H locs ls hP hS hl => va_get G.1 G.2.1 G.2.2.2.2.1 hin G.2.2.2.1 G.2.2.2.2.2.1 hP q0 (by rw [wl_get hq, he]) hc k hk (G.2.2.2.2.1 _ hlink) (fun _ h => h) hv d (kk H locs ls hP hS hl)
theorem wk_put (G : Cx p s m args c cc nL own Ts D cI cZ ad A) {C : String} {T : u_T} {N ci index : Nat} (hin : ∀ w ∈ u_ws C T N, w ∈ Ts) (ty0 : Nat → FieldType) (hty : ∀ k, k < N → parseFieldDescriptor (T k).2.2.1 = some (ty0 k)) (hnm : ∀ a, a < N → ∀ b, b < N → a ≠ b → (T a).2.1 ≠ (T b).2.1) (q0 : Nat) (hq : q0 < 87) {fs : List Value} (he : celk cI cZ ad q0 (M q0) = .inr (ci, fs)) (hc : vwCl[ci]? = some (C, T, N)) (k : Nat) (hk : k < N) (hlink : Cond.fieldLink own index (T k).1 (T k).2.1 (T k).2.2.1 ∈ Ts) (hfin : (T k).2.2.2 = false) (hd : parseFieldDescriptor (T k).2.2.1 = some .int) (hl0 : k < fs.length) {v : Int32} (he2 : celk cI cZ ad q0 (upd (M q0) k v) = .inr (ci, fs.set k (.int v))) (d : decode cc pc = .ok (.putfield index, 3)) {M1 : Mem} (hM : M1 = st M q0 k v) (kk : Wk p l e R s m args below meth c D cI cZ ad A nL nc ns Q M1 (pc + 3) lv rest) : Wk p l e R s m args below meth c D cI cZ ad A nL nc ns Q M pc lv (.int v :: .ref (ad q0) :: rest) := fun H locs ls hP hS hl => va_put G.1 G.2.1 G.2.2.2.2.1 hin ty0 hty hnm G.2.2.2.1 G.2.2.2.2.2.1 hP (G.2.2.2.2.2.2.1 M) hS q0 (by rw [wl_get hq, he]) hc k hk (G.2.2.2.2.1 _ hlink) (fun _ h => h) hfin hd rfl rfl hl0 d (fun H1 locs1 hP1 _ hS1 => kk H1 locs1 ls (by rw [hM]; rw [← he2, wl_set _ hq] at hP1; exact hP1) hS1 hl)
theorem wk_iald (G : Cx p s m args c cc nL own Ts D cI cZ ad A) (q0 : Nat) (hq : q0 < 87) {n : Nat} (he : ∀ r, celk cI cZ ad q0 r = .inl (cI, n, .inl r)) {i : Int32} (hin : vp_in i n) (d : decode cc pc = .ok (.iaload, 1)) (kk : Wk p l e R s m args below meth c D cI cZ ad A nL nc ns Q M (pc + 1) lv (.int (M q0 i.toNatClampNeg) :: rest)) : Wk p l e R s m args below meth c D cI cZ ad A nL nc ns Q M pc lv (.int i :: .ref (ad q0) :: rest) := fun H locs ls hP hS hl => va_iald G.1 G.2.1 G.2.2.2.2.2.1 hP q0 0 (by rw [wl_get hq, he]) rfl hin d (kk H locs ls hP hS hl)
theorem wk_iast (G : Cx p s m args c cc nL own Ts D cI cZ ad A) (q0 : Nat) (hq : q0 < 87) {n : Nat} (he : ∀ r, celk cI cZ ad q0 r = .inl (cI, n, .inl r)) {i x : Int32} (hin : vp_in i n) (d : decode cc pc = .ok (.iastore, 1)) {M1 : Mem} (hM : M1 = st M q0 i.toNatClampNeg x) (kk : Wk p l e R s m args below meth c D cI cZ ad A nL nc ns Q M1 (pc + 1) lv rest) : Wk p l e R s m args below meth c D cI cZ ad A nL nc ns Q M pc lv (.int x :: .int i :: .ref (ad q0) :: rest) := fun H locs ls hP hS hl => va_iast G.1 G.2.1 G.2.2.2.2.2.1 hP (G.2.2.2.2.2.2.1 M) hS q0 0 (by rw [wl_get hq, he]) rfl hin d (fun H1 locs1 hP1 _ hS1 => kk H1 locs1 ls (by rw [hM]; rw [← he, wl_set _ hq] at hP1; exact hP1) hS1 hl)
theorem wk_zald (G : Cx p s m args c cc nL own Ts D cI cZ ad A) (q0 : Nat) (hq : q0 < 87) {n : Nat} (he : ∀ r, celk cI cZ ad q0 r = .inl (cZ, n, .inl r)) {i : Int32} (hin : vp_in i n) (d : decode cc pc = .ok (.baload, 1)) (kk : Wk p l e R s m args below meth c D cI cZ ad A nL nc ns Q M (pc + 1) lv (.int (M q0 i.toNatClampNeg) :: rest)) : Wk p l e R s m args below meth c D cI cZ ad A nL nc ns Q M pc lv (.int i :: .ref (ad q0) :: rest) := fun H locs ls hP hS hl => va_zald G.1 G.2.1 G.2.2.2.2.2.1 hP q0 1 (by rw [wl_get hq, he]) rfl hin d (kk H locs ls hP hS hl)
theorem wk_zast (G : Cx p s m args c cc nL own Ts D cI cZ ad A) (q0 : Nat) (hq : q0 < 87) {n : Nat} (he : ∀ r, celk cI cZ ad q0 r = .inl (cZ, n, .inl r)) {i x : Int32} (hin : vp_in i n) (d : decode cc pc = .ok (.bastore, 1)) {M1 : Mem} (hM : M1 = st M q0 i.toNatClampNeg (vp_nar .boolean x)) (kk : Wk p l e R s m args below meth c D cI cZ ad A nL nc ns Q M1 (pc + 1) lv rest) : Wk p l e R s m args below meth c D cI cZ ad A nL nc ns Q M pc lv (.int x :: .int i :: .ref (ad q0) :: rest) := fun H locs ls hP hS hl => va_zast G.1 G.2.1 G.2.2.2.2.2.1 hP (G.2.2.2.2.2.2.1 M) hS q0 1 (by rw [wl_get hq, he]) rfl hin d (fun H1 locs1 hP1 _ hS1 => kk H1 locs1 ls (by rw [hM]; rw [← he, wl_set _ hq] at hP1; exact hP1) hS1 hl)
theorem wk_alen (G : Cx p s m args c cc nL own Ts D cI cZ ad A) (q0 : Nat) (hq : q0 < 87) {n : Nat} (he : ∀ r, celk cI cZ ad q0 r = .inl (cI, n, .inl r)) {v : Int32} (hv : Int32.ofNat n = v) (d : decode cc pc = .ok (.arraylength, 1)) (kk : Wk p l e R s m args below meth c D cI cZ ad A nL nc ns Q M (pc + 1) lv (.int v :: rest)) : Wk p l e R s m args below meth c D cI cZ ad A nL nc ns Q M pc lv (.ref (ad q0) :: rest) := fun H locs ls hP hS hl => va_alen G.1 G.2.1 G.2.2.2.2.2.1 hP q0 0 (by rw [wl_get hq, he]) rfl hv d (kk H locs ls hP hS hl)
theorem wk_callVi (G : Cx p s m args c cc nL own Ts D cI cZ ad A) {y : MethodName} {bytes : ByteArray} {maxL n index : Nat} {ret : Option FieldType} {ws : List Cond} {rm : Room} {As : List Value} {M' : Mem} {r : Int32} {C : String} {T : u_T} {N ci : Nat} {fs : List Value} {st0 : List Value} (q0 : Nat) (hq : q0 < 87) (hM : MetI l y ws rm D cI cZ ad (.ref (ad q0) :: As) M r M') (cw : CallW R s args own C index y bytes maxL ret ws rm 0 0 n) (he : celk cI cZ ad q0 (M q0) = .inr (ci, fs)) (hc : vwCl[ci]? = some (C, T, N)) (hn : As.length = n) (hst : st0 = As.reverse ++ .ref (ad q0) :: rest) (hW : (rest.map fun v => v.category).sum ≤ 8) (d : decode cc pc = .ok (.invokevirtual index, 3)) (hR : nc + 0 ≤ R.cells ∧ ns + 0 ≤ R.slots) (kk : Wk p l e R s m args below meth c D cI cZ ad A nL nc ns Q M' (pc + 3) lv (.int r :: rest)) : Wk p l e R s m args below meth c D cI cZ ad A nL nc ns Q M pc lv st0 := fun H locs ls hP hS hl => va_calli (va_runV (As := As) (rest := rest) ⟨G.1, G.2.1, G.2.2.1, G.2.2.2.1, G.2.2.2.2.1⟩ (hM H.size) cw ⟨pre_blind, va_recv G.2.2.2.2.2.1 hP (ci := ci) (q0 := q0) hc (by rw [wl_get hq, he]), fun U hU hW' => ⟨rfl, by rw [hU], by rw [hU]; exact hP, va_K.moved hW'.alike G.2.2.2.2.2.1, (G.2.2.2.2.2.2.1 M).weaken (fun _ _ _ _ => trivial), G.2.2.2.2.2.2.2.2.warm hW'⟩⟩ rfl hn hl.1 hst (lv_room hW) d hR) hS (fun q _ h => wl_A (G.2.2.2.2.2.2.1 M) hS G.2.2.2.2.2.2.2.1 q h) (fun q h => wl_A (G.2.2.2.2.2.2.1 M) hS G.2.2.2.2.2.2.2.1 q h) (fun r1 u t H1 locs1 ht hvm hw hB hz1 hk1 hS1 => by cases hw; exact kk H1 locs1 ls (by rw [← ht]; exact hB) hS1 hl)
theorem wk_callSi (G : Cx p s m args c cc nL own Ts D cI cZ ad A) {y : MethodName} {bytes : ByteArray} {maxL n index : Nat} {ret : Option FieldType} {ws : List Cond} {rm : Room} {As : List Value} {M' : Mem} {r : Int32} {st0 : List Value} (hM : MetI l y ws rm D cI cZ ad As M r M') (cw : CallB R s args own index y bytes maxL ret ws rm 0 0 n ∧ (Cond.static y).before args s = true) (hn : As.length = n) (hst : st0 = As.reverse ++ rest) (hW : (rest.map fun v => v.category).sum ≤ 8) (d : decode cc pc = .ok (.invokestatic index, 3)) (hR : nc + 0 ≤ R.cells ∧ ns + 0 ≤ R.slots) (kk : Wk p l e R s m args below meth c D cI cZ ad A nL nc ns Q M' (pc + 3) lv (.int r :: rest)) : Wk p l e R s m args below meth c D cI cZ ad A nL nc ns Q M pc lv st0 := fun H locs ls hP hS hl => va_calli (va_runS (As := As) (rest := rest) ⟨G.1, G.2.1, G.2.2.1, G.2.2.2.1, G.2.2.2.2.1⟩ (hM H.size) cw ⟨pre_blind, fun U hU hW' => ⟨rfl, by rw [hU], by rw [hU]; exact hP, va_K.moved hW'.alike G.2.2.2.2.2.1, (G.2.2.2.2.2.2.1 M).weaken (fun _ _ _ _ => trivial), G.2.2.2.2.2.2.2.2.warm hW'⟩⟩ rfl hn hl.1 hst (lv_room hW) d hR) hS (fun q _ h => wl_A (G.2.2.2.2.2.2.1 M) hS G.2.2.2.2.2.2.2.1 q h) (fun q h => wl_A (G.2.2.2.2.2.2.1 M) hS G.2.2.2.2.2.2.2.1 q h) (fun r1 u t H1 locs1 ht hvm hw hB hz1 hk1 hS1 => by cases hw; exact kk H1 locs1 ls (by rw [← ht]; exact hB) hS1 hl)
theorem wk_callNi (G : Cx p s m args c cc nL own Ts D cI cZ ad A) {y : MethodName} {bytes : ByteArray} {maxL n index : Nat} {ret : Option FieldType} {ws : List Cond} {rm : Room} {As : List Value} {M' : Mem} {r : Int32} {host : String} {st0 : List Value} (hM : MetI l y ws rm D cI cZ ad As M r M') (cw : va_CN R s args own index y host bytes maxL ret ws rm 0 0 n ∧ (Cond.static y).before args s = true ∧ True) (hn : As.length = n) (hst : st0 = As.reverse ++ rest) (hW : (rest.map fun v => v.category).sum ≤ 8) (d : decode cc pc = .ok (.invokestatic index, 3)) (hR : nc + 0 ≤ R.cells ∧ ns + 0 ≤ R.slots) (kk : Wk p l e R s m args below meth c D cI cZ ad A nL nc ns Q M' (pc + 3) lv (.int r :: rest)) : Wk p l e R s m args below meth c D cI cZ ad A nL nc ns Q M pc lv st0 := fun H locs ls hP hS hl => va_calli (va_runSN (As := As) (rest := rest) ⟨G.1, G.2.1, G.2.2.1, G.2.2.2.1, G.2.2.2.2.1⟩ (hM H.size) cw ⟨pre_blind, fun U hU hW' => ⟨rfl, by rw [hU], by rw [hU]; exact hP, va_K.moved hW'.alike G.2.2.2.2.2.1, (G.2.2.2.2.2.2.1 M).weaken (fun _ _ _ _ => trivial), G.2.2.2.2.2.2.2.2.warm hW'⟩⟩ rfl hn hl.1 hst (lv_room hW) d hR) hS (fun q _ h => wl_A (G.2.2.2.2.2.2.1 M) hS G.2.2.2.2.2.2.2.1 q h) (fun q h => wl_A (G.2.2.2.2.2.2.1 M) hS G.2.2.2.2.2.2.2.1 q h) (fun r1 u t H1 locs1 ht hvm hw hB hz1 hk1 hS1 => by cases hw; exact kk H1 locs1 ls (by rw [← ht]; exact hB) hS1 hl)
theorem wk_callVv (G : Cx p s m args c cc nL own Ts D cI cZ ad A) {y : MethodName} {bytes : ByteArray} {maxL n index : Nat} {ret : Option FieldType} {ws : List Cond} {rm : Room} {As : List Value} {M' : Mem}  {C : String} {T : u_T} {N ci : Nat} {fs : List Value} {st0 : List Value} (q0 : Nat) (hq : q0 < 87) (hM : MetV l y ws rm D cI cZ ad (.ref (ad q0) :: As) M  M') (cw : CallW R s args own C index y bytes maxL ret ws rm 0 0 n) (he : celk cI cZ ad q0 (M q0) = .inr (ci, fs)) (hc : vwCl[ci]? = some (C, T, N)) (hn : As.length = n) (hst : st0 = As.reverse ++ .ref (ad q0) :: rest) (hW : (rest.map fun v => v.category).sum ≤ 8) (d : decode cc pc = .ok (.invokevirtual index, 3)) (hR : nc + 0 ≤ R.cells ∧ ns + 0 ≤ R.slots) (kk : Wk p l e R s m args below meth c D cI cZ ad A nL nc ns Q M' (pc + 3) lv rest) : Wk p l e R s m args below meth c D cI cZ ad A nL nc ns Q M pc lv st0 := fun H locs ls hP hS hl => va_callv (va_runV (As := As) (rest := rest) ⟨G.1, G.2.1, G.2.2.1, G.2.2.2.1, G.2.2.2.2.1⟩ (hM H.size) cw ⟨pre_blind, va_recv G.2.2.2.2.2.1 hP (ci := ci) (q0 := q0) hc (by rw [wl_get hq, he]), fun U hU hW' => ⟨rfl, by rw [hU], by rw [hU]; exact hP, va_K.moved hW'.alike G.2.2.2.2.2.1, (G.2.2.2.2.2.2.1 M).weaken (fun _ _ _ _ => trivial), G.2.2.2.2.2.2.2.2.warm hW'⟩⟩ rfl hn hl.1 hst (lv_room hW) d hR) hS (fun q _ h => wl_A (G.2.2.2.2.2.2.1 M) hS G.2.2.2.2.2.2.2.1 q h) (fun q h => wl_A (G.2.2.2.2.2.2.1 M) hS G.2.2.2.2.2.2.2.1 q h) (fun u t H1 locs1 ht hvm hw hB hz1 hk1 hS1 => kk H1 locs1 ls (by rw [← ht]; exact hB) hS1 hl)
theorem wk_callSv (G : Cx p s m args c cc nL own Ts D cI cZ ad A) {y : MethodName} {bytes : ByteArray} {maxL n index : Nat} {ret : Option FieldType} {ws : List Cond} {rm : Room} {As : List Value} {M' : Mem}  {st0 : List Value} (hM : MetV l y ws rm D cI cZ ad As M  M') (cw : CallB R s args own index y bytes maxL ret ws rm 0 0 n ∧ (Cond.static y).before args s = true) (hn : As.length = n) (hst : st0 = As.reverse ++ rest) (hW : (rest.map fun v => v.category).sum ≤ 8) (d : decode cc pc = .ok (.invokestatic index, 3)) (hR : nc + 0 ≤ R.cells ∧ ns + 0 ≤ R.slots) (kk : Wk p l e R s m args below meth c D cI cZ ad A nL nc ns Q M' (pc + 3) lv rest) : Wk p l e R s m args below meth c D cI cZ ad A nL nc ns Q M pc lv st0 := fun H locs ls hP hS hl => va_callv (va_runS (As := As) (rest := rest) ⟨G.1, G.2.1, G.2.2.1, G.2.2.2.1, G.2.2.2.2.1⟩ (hM H.size) cw ⟨pre_blind, fun U hU hW' => ⟨rfl, by rw [hU], by rw [hU]; exact hP, va_K.moved hW'.alike G.2.2.2.2.2.1, (G.2.2.2.2.2.2.1 M).weaken (fun _ _ _ _ => trivial), G.2.2.2.2.2.2.2.2.warm hW'⟩⟩ rfl hn hl.1 hst (lv_room hW) d hR) hS (fun q _ h => wl_A (G.2.2.2.2.2.2.1 M) hS G.2.2.2.2.2.2.2.1 q h) (fun q h => wl_A (G.2.2.2.2.2.2.1 M) hS G.2.2.2.2.2.2.2.1 q h) (fun u t H1 locs1 ht hvm hw hB hz1 hk1 hS1 => kk H1 locs1 ls (by rw [← ht]; exact hB) hS1 hl)
theorem wk_callNv (G : Cx p s m args c cc nL own Ts D cI cZ ad A) {y : MethodName} {bytes : ByteArray} {maxL n index : Nat} {ret : Option FieldType} {ws : List Cond} {rm : Room} {As : List Value} {M' : Mem}  {host : String} {st0 : List Value} (hM : MetV l y ws rm D cI cZ ad As M  M') (cw : va_CN R s args own index y host bytes maxL ret ws rm 0 0 n ∧ (Cond.static y).before args s = true ∧ True) (hn : As.length = n) (hst : st0 = As.reverse ++ rest) (hW : (rest.map fun v => v.category).sum ≤ 8) (d : decode cc pc = .ok (.invokestatic index, 3)) (hR : nc + 0 ≤ R.cells ∧ ns + 0 ≤ R.slots) (kk : Wk p l e R s m args below meth c D cI cZ ad A nL nc ns Q M' (pc + 3) lv rest) : Wk p l e R s m args below meth c D cI cZ ad A nL nc ns Q M pc lv st0 := fun H locs ls hP hS hl => va_callv (va_runSN (As := As) (rest := rest) ⟨G.1, G.2.1, G.2.2.1, G.2.2.2.1, G.2.2.2.2.1⟩ (hM H.size) cw ⟨pre_blind, fun U hU hW' => ⟨rfl, by rw [hU], by rw [hU]; exact hP, va_K.moved hW'.alike G.2.2.2.2.2.1, (G.2.2.2.2.2.2.1 M).weaken (fun _ _ _ _ => trivial), G.2.2.2.2.2.2.2.2.warm hW'⟩⟩ rfl hn hl.1 hst (lv_room hW) d hR) hS (fun q _ h => wl_A (G.2.2.2.2.2.2.1 M) hS G.2.2.2.2.2.2.2.1 q h) (fun q h => wl_A (G.2.2.2.2.2.2.1 M) hS G.2.2.2.2.2.2.2.1 q h) (fun u t H1 locs1 ht hvm hw hB hz1 hk1 hS1 => kk H1 locs1 ls (by rw [← ht]; exact hB) hS1 hl)
theorem wk_mmax (G : Cx p s m args c cc nL own Ts D cI cZ ad A) {index : Nat} {x y : Int32} (h1 : Cond.methodLink own index Lib.Math.max.name ∈ Ts) (h2 : Cond.static Lib.Math.max.name ∈ Ts) (h3 : Cond.initialized "java/lang/Math" ∈ Ts) (h4 : Cond.code Lib.Math.max.name Lib.Math.max.code 2 (some .int) ∈ Ts) (hf : 1 ≤ R.frames) (hlo : (rest.map fun v => v.category).sum + 13 ≤ R.locals) (hc : nc ≤ R.cells) (hs : ns ≤ R.slots) (d : decode cc pc = .ok (.invokestatic index, 3)) (kk : Wk p l e R s m args below meth c D cI cZ ad A nL nc ns Q M (pc + 3) lv (.int (if x < y then y else x) :: rest)) : Wk p l e R s m args below meth c D cI cZ ad A nL nc ns Q M pc lv (.int y :: .int x :: rest) := fun H locs ls hP hS hl => va_mmax G.1 G.2.1 (G.2.2.1.trans hl.1.symm) G.2.2.2.1 (G.2.2.2.2.1 _ h1) (G.2.2.2.2.1 _ h2) (G.2.2.2.2.1 _ h3) (G.2.2.2.2.1 _ h4) hf hlo hc hs d (kk H locs ls hP hS hl)
theorem wk_mmin (G : Cx p s m args c cc nL own Ts D cI cZ ad A) {index : Nat} {x y : Int32} (h1 : Cond.methodLink own index Lib.Math.min.name ∈ Ts) (h2 : Cond.static Lib.Math.min.name ∈ Ts) (h3 : Cond.initialized "java/lang/Math" ∈ Ts) (h4 : Cond.code Lib.Math.min.name Lib.Math.min.code 2 (some .int) ∈ Ts) (hf : 1 ≤ R.frames) (hlo : (rest.map fun v => v.category).sum + 13 ≤ R.locals) (hc : nc ≤ R.cells) (hs : ns ≤ R.slots) (d : decode cc pc = .ok (.invokestatic index, 3)) (kk : Wk p l e R s m args below meth c D cI cZ ad A nL nc ns Q M (pc + 3) lv (.int (if y < x then y else x) :: rest)) : Wk p l e R s m args below meth c D cI cZ ad A nL nc ns Q M pc lv (.int y :: .int x :: rest) := fun H locs ls hP hS hl => va_mmin G.1 G.2.1 (G.2.2.1.trans hl.1.symm) G.2.2.2.1 (G.2.2.2.2.1 _ h1) (G.2.2.2.2.1 _ h2) (G.2.2.2.2.1 _ h3) (G.2.2.2.2.1 _ h4) hf hlo hc hs d (kk H locs ls hP hS hl)
theorem wk_ldcw (G : Cx p s m args c cc nL own Ts D cI cZ ad A) {index : Nat} {v : Int32} (h1 : Cond.constant own index v ∈ Ts) (d : decode cc pc = .ok (.ldc_w index, 3)) (kk : Wk p l e R s m args below meth c D cI cZ ad A nL nc ns Q M (pc + 3) lv (.int v :: rest)) : Wk p l e R s m args below meth c D cI cZ ad A nL nc ns Q M pc lv rest := fun H locs ls hP hS hl => lv_ldcw G.1 G.2.1 G.2.2.2.1 (G.2.2.2.2.1 _ h1) d (kk H locs ls hP hS hl)
end WK
/-! ===== loops, names, returns ===== -/
def fu : Nat := 3000
def loop {σ β : Type} : Nat → (σ → Option (σ ⊕ β)) → σ → Option β
  | 0, _, _ => none
  | n + 1, f, s => (f s).bind (Sum.elim (fun s' => loop n f s') some)
theorem loop_P {σ β : Type} {f : σ → Option (σ ⊕ β)} {P : σ → Prop} {C : β → Prop} (body : ∀ s o, f s = some o → (∀ s', o = .inl s' → P s') → (∀ b', o = .inr b' → C b') → P s) : ∀ (n : Nat) (s : σ) (b : β), loop n f s = some b → C b → P s
  | 0, _, _, h, _ => by cases h
  | n + 1, s, b, h, hC => by
    obtain ⟨o, ho, h2⟩ := bd_of h
    refine body s o ho (fun s' e => ?_) (fun b' e => ?_)
    · subst e; exact loop_P body n s' b h2 hC
    · subst e; cases h2; exact hC
def un1 {α : Type} {δ : Type} (f : α → δ) (s : α) : δ := f s
def up1 {α : Type} (f : α → Prop) (s : α) : Prop := f s
def un2 {α β : Type} {δ : Type} (f : α → β → δ) (s : α × β) : δ := f s.1 s.2
def up2 {α β : Type} (f : α → β → Prop) (s : α × β) : Prop := f s.1 s.2
def un3 {α β γ : Type} {δ : Type} (f : α → β → γ → δ) (s : α × β × γ) : δ := f s.1 s.2.1 s.2.2
def up3 {α β γ : Type} (f : α → β → γ → Prop) (s : α × β × γ) : Prop := f s.1 s.2.1 s.2.2
def un4 {α β γ ε : Type} {δ : Type} (f : α → β → γ → ε → δ) (s : α × β × γ × ε) : δ := f s.1 s.2.1 s.2.2.1 s.2.2.2
def up4 {α β γ ε : Type} (f : α → β → γ → ε → Prop) (s : α × β × γ × ε) : Prop := f s.1 s.2.1 s.2.2.1 s.2.2.2
def un5 {α β γ ε ζ : Type} {δ : Type} (f : α → β → γ → ε → ζ → δ) (s : α × β × γ × ε × ζ) : δ := f s.1 s.2.1 s.2.2.1 s.2.2.2.1 s.2.2.2.2
def up5 {α β γ ε ζ : Type} (f : α → β → γ → ε → ζ → Prop) (s : α × β × γ × ε × ζ) : Prop := f s.1 s.2.1 s.2.2.1 s.2.2.2.1 s.2.2.2.2
theorem nm_ex {α β : Type} {v : α} {k : α → β} {r : β} (h : nm v k = r) : ∃ x, x = v ∧ k x = r := ⟨v, rfl, h⟩
theorem jn1 {α δ : Type} {j K : α → δ} {a : α} {r : δ} (e : j = K) (h : j a = r) : K a = r := by rw [← e]; exact h
theorem jn2 {α β δ : Type} {j K : α → β → δ} {a : α} {b : β} {r : δ} (e : j = K) (h : j a b = r) : K a b = r := by rw [← e]; exact h
theorem jn3 {α β γ δ : Type} {j K : α → β → γ → δ} {a : α} {b : β} {c : γ} {r : δ} (e : j = K) (h : j a b c = r) : K a b c = r := by rw [← e]; exact h
theorem jn4 {α β γ ε δ : Type} {j K : α → β → γ → ε → δ} {a : α} {b : β} {c : γ} {d : ε} {r : δ} (e : j = K) (h : j a b c d = r) : K a b c d = r := by rw [← e]; exact h
theorem sw_ne {x : Int32} {k : Int32} (h : ¬ x = k) : ¬ x.toInt = k.toInt := fun e => h (Int32.toInt_inj.mp e)
section WR
variable {p : Program} {l : Launch} {e : Env} {R : Room} {s : State} {m : MethodId} {args : Array Value} {below : List Frame} {meth : Method} {c : Code} {D : va_G} {cI cZ : ClassId} {ad : Nat → Nat} {A : Nat → Prop} {nL : Nat} {M M' : Mem} {pc : Nat} {lv : List (Nat × Value)}
variable {cc : ByteArray} {own : String} {Ts : List Cond}
abbrev QI (below : List Frame) (D : va_G) (cI cZ : ClassId) (ad : Nat → Nat) (A : Nat → Prop) (args : Array Value) (s : State) (r : Int32) (M' : Mem) : State → Prop := MQ below (va_Qi (fun (r' : Int32) (_ : Unit) => r' = r) (fun _ t => va_P D vwCl (wl cI cZ ad M') t.heap) A) args s 0 0 A
abbrev QV (below : List Frame) (D : va_G) (cI cZ : ClassId) (ad : Nat → Nat) (A : Nat → Prop) (args : Array Value) (s : State) (M' : Mem) : State → Prop := MQ below (va_Qv (fun (_ : Unit) => True) (fun _ t => va_P D vwCl (wl cI cZ ad M') t.heap) A) args s 0 0 A
theorem wk_ri {v r : Int32} (G : Cx p s m args c cc nL own Ts D cI cZ ad A) (hr : meth.sig.returnType = some .int) (hlocks : meth.locks = false) (d : decode cc pc = .ok (.ireturn, 1)) (hf : (v, M) = (r, M')) : Wk p l e R s m args below meth c D cI cZ ad A nL 0 0 (QI below D cI cZ ad A args s r M') M pc lv [.int v] := by
  cases hf
  exact fun H locs ls hP hS hl => W.iret G.1 G.2.1 hr (fun t ht hW => ⟨⟨v, (), rfl, rfl, by show va_P _ _ _ t.heap; rw [ht]; exact hP⟩, hS.F ht⟩) hS.2.2 d hlocks
theorem wk_rz {v r : Int32} (G : Cx p s m args c cc nL own Ts D cI cZ ad A) (hr : meth.sig.returnType = some .boolean) (hlocks : meth.locks = false) (hz : v = 0 ∨ v = 1) (d : decode cc pc = .ok (.ireturn, 1)) (hf : (v, M) = (r, M')) : Wk p l e R s m args below meth c D cI cZ ad A nL 0 0 (QI below D cI cZ ad A args s r M') M pc lv [.int v] := by
  cases hf
  exact fun H locs ls hP hS hl => W.zret G.1 G.2.1 hr (z_nar hz) (fun t ht hW => ⟨⟨v, (), rfl, rfl, by show va_P _ _ _ t.heap; rw [ht]; exact hP⟩, hS.F ht⟩) hS.2.2 d hlocks
theorem wk_rv (G : Cx p s m args c cc nL own Ts D cI cZ ad A) (hr : meth.sig.returnType = none) (hlocks : meth.locks = false) (d : decode cc pc = .ok (.return_, 1)) (hf : M = M') : Wk p l e R s m args below meth c D cI cZ ad A nL 0 0 (QV below D cI cZ ad A args s M') M pc lv [] := by
  cases hf
  exact fun H locs ls hP hS hl => W.vret G.1 G.2.1 hr (fun t ht hW => ⟨⟨(), rfl, trivial, by show va_P _ _ _ t.heap; rw [ht]; exact hP⟩, hS.F ht⟩) hS.2.2 d hlocks
end WR
theorem met_i {l : Launch} {y : MethodName} {ws ws' : List Cond} {rm : Room} {cc : ByteArray} {nL : Nat} {ret : Option FieldType} {own : String} {D : va_G} {cI cZ : ClassId} {ad : Nat → Nat} {av : List Value} {M M' : Mem} {r : Int32} (hy : plainName y.cls = true) (hw : ws = Cond.code y cc nL ret :: ws') (ho : y.cls = own) (hn : (lg_sl av).length ≤ nL)
    (body : ∀ (p : Program) (e : Env) (s : State) (m : MethodId) (args : Array Value) (below : List Frame) (meth : Method) (c : Code) (A : Nat → Prop), Cx p s m args c cc nL own ws D cI cZ ad A → meth.sig.returnType = ret → meth.locks = false → Wk p l e (headSpec ws rm).room s m args below meth c D cI cZ ad A nL 0 0 (QI below D cI cZ ad A args s r M') M 0 (lv_args 0 av) []) : MetI l y ws rm D cI cZ ad av M r M' := by
  intro sz
  refine Met.ofW (cc := cc) (maxL := nL) (ret := ret) hy hw ?_
  intro p e s m args below meth c s₁ B hml hv
  obtain ⟨rfl, hsz, hP, hK, hD0, hN⟩ := hv
  have hts := atoms_spec (ws := ws) B.pre
  have hown : s.vm.findClass own = some m.cls := by rw [← ho]; exact findClass_of_methodNamed B.named
  subst hsz
  have hD := hD0.self (sz := s.heap.size)
  generalize hAe : va_A (wl cI cZ ad M) s.heap.size = A at hD ⊢
  have hA : ∀ q : Nat, s.heap.size ≤ q → A q := fun q h => by rw [← hAe]; exact Or.inr h
  rw [lg_entry_eq]
  exact body p e s m _ below meth c A ⟨B.exec, B.bytes, hml, hown, hts, hK, wl_D hD, hA, hN⟩ B.returns B.notSynchronized s.heap [] _ hP va_S.rf (lv_entry av hn)
theorem met_v {l : Launch} {y : MethodName} {ws ws' : List Cond} {rm : Room} {cc : ByteArray} {nL : Nat} {ret : Option FieldType} {own : String} {D : va_G} {cI cZ : ClassId} {ad : Nat → Nat} {av : List Value} {M M' : Mem} (hy : plainName y.cls = true) (hw : ws = Cond.code y cc nL ret :: ws') (ho : y.cls = own) (hn : (lg_sl av).length ≤ nL)
    (body : ∀ (p : Program) (e : Env) (s : State) (m : MethodId) (args : Array Value) (below : List Frame) (meth : Method) (c : Code) (A : Nat → Prop), Cx p s m args c cc nL own ws D cI cZ ad A → meth.sig.returnType = ret → meth.locks = false → Wk p l e (headSpec ws rm).room s m args below meth c D cI cZ ad A nL 0 0 (QV below D cI cZ ad A args s M') M 0 (lv_args 0 av) []) : MetV l y ws rm D cI cZ ad av M M' := by
  intro sz
  refine Met.ofW (cc := cc) (maxL := nL) (ret := ret) hy hw ?_
  intro p e s m args below meth c s₁ B hml hv
  obtain ⟨rfl, hsz, hP, hK, hD0, hN⟩ := hv
  have hts := atoms_spec (ws := ws) B.pre
  have hown : s.vm.findClass own = some m.cls := by rw [← ho]; exact findClass_of_methodNamed B.named
  subst hsz
  have hD := hD0.self (sz := s.heap.size)
  generalize hAe : va_A (wl cI cZ ad M) s.heap.size = A at hD ⊢
  have hA : ∀ q : Nat, s.heap.size ≤ q → A q := fun q h => by rw [← hAe]; exact Or.inr h
  rw [lg_entry_eq]
  exact body p e s m _ below meth c A ⟨B.exec, B.bytes, hml, hown, hts, hK, wl_D hD, hA, hN⟩ B.returns B.notSynchronized s.heap [] _ hP va_S.rf (lv_entry av hn)
theorem un1_of {α : Type} {δ : Type} {f : α → δ} {a : α} {r : δ} (h : un1 f a = r) : f a = r := h
theorem un2_of {α β : Type} {δ : Type} {f : α → β → δ} {a : α} {b : β} {r : δ} (h : un2 f (a, b) = r) : f a b = r := h
theorem un3_of {α β γ : Type} {δ : Type} {f : α → β → γ → δ} {a : α} {b : β} {c : γ} {r : δ} (h : un3 f (a, b, c) = r) : f a b c = r := h
theorem un4_of {α β γ ε : Type} {δ : Type} {f : α → β → γ → ε → δ} {a : α} {b : β} {c : γ} {d : ε} {r : δ} (h : un4 f (a, b, c, d) = r) : f a b c d = r := h
theorem un5_of {α β γ ε ζ : Type} {δ : Type} {f : α → β → γ → ε → ζ → δ} {a : α} {b : β} {c : γ} {d : ε} {g : ζ} {r : δ} (h : un5 f (a, b, c, d, g) = r) : f a b c d g = r := h
theorem wk_nme {p : Program} {l : Launch} {e : Env} {R : Room} {s : State} {m : MethodId} {args : Array Value} {below : List Frame} {meth : Method} {c : Code} {D : va_G} {cI cZ : ClassId} {ad : Nat → Nat} {A : Nat → Prop} {nL nc ns : Nat} {Q : State → Prop} {M : Mem} {pc : Nat} {lv : List (Nat × Value)} {rest : List Value} {v x : Int32} (h : x = v) (k : Wk p l e R s m args below meth c D cI cZ ad A nL nc ns Q M pc lv (.int x :: rest)) : Wk p l e R s m args below meth c D cI cZ ad A nL nc ns Q M pc lv (.int v :: rest) := h ▸ k
