section
-- ===== PART A: goes FIRST, ahead of the names: the tables' words, and 'selects' of the private methods out of them =====
/-- a private method of a class that the tables say can be made, by its rows of tables_1 -/
def lw_okq (q : MethodName × Nat) : Prop := (q.1.cls ≠ "java/lang/invoke/MethodHandle" ∧ q.1.cls ≠ "java/lang/invoke/VarHandle") ∧ Cond.instantiable q.1.cls q.2 ∈ tables_1 ∧ Cond.privateMethod q.1 ∈ tables_1 ∧ Cond.instanceMethod q.1 ∈ tables_1
theorem lw_p0 : lw_okq (⟨"PartitionPlay$Schedule", "countNaming", "(II)V"⟩, 7) := ⟨⟨by decide +kernel, by decide +kernel⟩, List.mem_of_getElem? (i := 60) (by decide +kernel), List.mem_of_getElem? (i := 331) (by decide +kernel), List.mem_of_getElem? (i := 332) (by decide +kernel)⟩
theorem lw_p1 : lw_okq (⟨"PartitionPlay$Play", "begin", "(II)V"⟩, 13) := ⟨⟨by decide +kernel, by decide +kernel⟩, List.mem_of_getElem? (i := 99) (by decide +kernel), List.mem_of_getElem? (i := 362) (by decide +kernel), List.mem_of_getElem? (i := 363) (by decide +kernel)⟩
theorem lw_p2 : lw_okq (⟨"PartitionPlay$Play", "meetEvents", "(I)V"⟩, 13) := ⟨⟨by decide +kernel, by decide +kernel⟩, List.mem_of_getElem? (i := 99) (by decide +kernel), List.mem_of_getElem? (i := 381) (by decide +kernel), List.mem_of_getElem? (i := 382) (by decide +kernel)⟩
theorem lw_p3 : lw_okq (⟨"PartitionPlay$Nodes", "forgetShown", "(I)V"⟩, 7) := ⟨⟨by decide +kernel, by decide +kernel⟩, List.mem_of_getElem? (i := 177) (by decide +kernel), List.mem_of_getElem? (i := 395) (by decide +kernel), List.mem_of_getElem? (i := 396) (by decide +kernel)⟩
theorem lw_p4 : lw_okq (⟨"PartitionPlay$Play", "takeInComings", "(I)V"⟩, 13) := ⟨⟨by decide +kernel, by decide +kernel⟩, List.mem_of_getElem? (i := 99) (by decide +kernel), List.mem_of_getElem? (i := 400) (by decide +kernel), List.mem_of_getElem? (i := 401) (by decide +kernel)⟩
theorem lw_p5 : lw_okq (⟨"PartitionPlay$Play", "takeIn", "(I)V"⟩, 13) := ⟨⟨by decide +kernel, by decide +kernel⟩, List.mem_of_getElem? (i := 99) (by decide +kernel), List.mem_of_getElem? (i := 417) (by decide +kernel), List.mem_of_getElem? (i := 418) (by decide +kernel)⟩
theorem lw_p6 : lw_okq (⟨"PartitionPlay$Nodes", "thatShowedEnoughTo", "(I)I"⟩, 7) := ⟨⟨by decide +kernel, by decide +kernel⟩, List.mem_of_getElem? (i := 177) (by decide +kernel), List.mem_of_getElem? (i := 442) (by decide +kernel), List.mem_of_getElem? (i := 443) (by decide +kernel)⟩
theorem lw_p7 : lw_okq (⟨"PartitionPlay$Play", "sendLetters", "(I)V"⟩, 13) := ⟨⟨by decide +kernel, by decide +kernel⟩, List.mem_of_getElem? (i := 99) (by decide +kernel), List.mem_of_getElem? (i := 450) (by decide +kernel), List.mem_of_getElem? (i := 451) (by decide +kernel)⟩
theorem lw_p8 : lw_okq (⟨"PartitionPlay$Play", "sendFrom", "(II)V"⟩, 13) := ⟨⟨by decide +kernel, by decide +kernel⟩, List.mem_of_getElem? (i := 99) (by decide +kernel), List.mem_of_getElem? (i := 454) (by decide +kernel), List.mem_of_getElem? (i := 455) (by decide +kernel)⟩
theorem lw_p9 : lw_okq (⟨"PartitionPlay$Play", "post", "(II)V"⟩, 13) := ⟨⟨by decide +kernel, by decide +kernel⟩, List.mem_of_getElem? (i := 99) (by decide +kernel), List.mem_of_getElem? (i := 467) (by decide +kernel), List.mem_of_getElem? (i := 468) (by decide +kernel)⟩
theorem lw_p10 : lw_okq (⟨"PartitionPlay$Play", "isAlsoLost", "(I)Z"⟩, 13) := ⟨⟨by decide +kernel, by decide +kernel⟩, List.mem_of_getElem? (i := 99) (by decide +kernel), List.mem_of_getElem? (i := 475) (by decide +kernel), List.mem_of_getElem? (i := 476) (by decide +kernel)⟩
theorem lw_p11 : lw_okq (⟨"PartitionPlay$Play", "postDoubles", "(II)V"⟩, 13) := ⟨⟨by decide +kernel, by decide +kernel⟩, List.mem_of_getElem? (i := 99) (by decide +kernel), List.mem_of_getElem? (i := 495) (by decide +kernel), List.mem_of_getElem? (i := 496) (by decide +kernel)⟩
theorem lw_p12 : lw_okq (⟨"PartitionPlay$Play", "keepRecord", "(I)V"⟩, 13) := ⟨⟨by decide +kernel, by decide +kernel⟩, List.mem_of_getElem? (i := 99) (by decide +kernel), List.mem_of_getElem? (i := 500) (by decide +kernel), List.mem_of_getElem? (i := 501) (by decide +kernel)⟩
theorem lw_p13 : lw_okq (⟨"PartitionPlay$Nodes", "noLowerThan", "(I)I"⟩, 7) := ⟨⟨by decide +kernel, by decide +kernel⟩, List.mem_of_getElem? (i := 177) (by decide +kernel), List.mem_of_getElem? (i := 511) (by decide +kernel), List.mem_of_getElem? (i := 512) (by decide +kernel)⟩
theorem lw_p14 : lw_okq (⟨"PartitionPlayModel", "isNode", "(I)Z"⟩, 34) := ⟨⟨by decide +kernel, by decide +kernel⟩, List.mem_of_getElem? (i := 582) (by decide +kernel), List.mem_of_getElem? (i := 695) (by decide +kernel), List.mem_of_getElem? (i := 696) (by decide +kernel)⟩
theorem lw_p15 : lw_okq (⟨"PartitionPlayModel", "remove", "(I)V"⟩, 34) := ⟨⟨by decide +kernel, by decide +kernel⟩, List.mem_of_getElem? (i := 582) (by decide +kernel), List.mem_of_getElem? (i := 721) (by decide +kernel), List.mem_of_getElem? (i := 722) (by decide +kernel)⟩
def lw_privs_1 : List (MethodName × Nat) := [(⟨"PartitionPlay$Schedule", "countNaming", "(II)V"⟩, 7), (⟨"PartitionPlay$Play", "begin", "(II)V"⟩, 13), (⟨"PartitionPlay$Play", "meetEvents", "(I)V"⟩, 13), (⟨"PartitionPlay$Nodes", "forgetShown", "(I)V"⟩, 7), (⟨"PartitionPlay$Play", "takeInComings", "(I)V"⟩, 13), (⟨"PartitionPlay$Play", "takeIn", "(I)V"⟩, 13), (⟨"PartitionPlay$Nodes", "thatShowedEnoughTo", "(I)I"⟩, 7), (⟨"PartitionPlay$Play", "sendLetters", "(I)V"⟩, 13), (⟨"PartitionPlay$Play", "sendFrom", "(II)V"⟩, 13), (⟨"PartitionPlay$Play", "post", "(II)V"⟩, 13), (⟨"PartitionPlay$Play", "isAlsoLost", "(I)Z"⟩, 13), (⟨"PartitionPlay$Play", "postDoubles", "(II)V"⟩, 13), (⟨"PartitionPlay$Play", "keepRecord", "(I)V"⟩, 13), (⟨"PartitionPlay$Nodes", "noLowerThan", "(I)I"⟩, 7), (⟨"PartitionPlayModel", "isNode", "(I)Z"⟩, 34), (⟨"PartitionPlayModel", "remove", "(I)V"⟩, 34)]
theorem lw_r1 : ∀ q ∈ lw_privs_1, lw_okq q := List.forall_mem_cons.mpr ⟨lw_p0, List.forall_mem_cons.mpr ⟨lw_p1, List.forall_mem_cons.mpr ⟨lw_p2, List.forall_mem_cons.mpr ⟨lw_p3, List.forall_mem_cons.mpr ⟨lw_p4, List.forall_mem_cons.mpr ⟨lw_p5, List.forall_mem_cons.mpr ⟨lw_p6, List.forall_mem_cons.mpr ⟨lw_p7, List.forall_mem_cons.mpr ⟨lw_p8, List.forall_mem_cons.mpr ⟨lw_p9, List.forall_mem_cons.mpr ⟨lw_p10, List.forall_mem_cons.mpr ⟨lw_p11, List.forall_mem_cons.mpr ⟨lw_p12, List.forall_mem_cons.mpr ⟨lw_p13, List.forall_mem_cons.mpr ⟨lw_p14, List.forall_mem_cons.mpr ⟨lw_p15, fun _ h => absurd h List.not_mem_nil⟩⟩⟩⟩⟩⟩⟩⟩⟩⟩⟩⟩⟩⟩⟩⟩
theorem lw_p16 : lw_okq (⟨"PartitionPlayModel", "run", "(II)V"⟩, 34) := ⟨⟨by decide +kernel, by decide +kernel⟩, List.mem_of_getElem? (i := 582) (by decide +kernel), List.mem_of_getElem? (i := 733) (by decide +kernel), List.mem_of_getElem? (i := 734) (by decide +kernel)⟩
theorem lw_p17 : lw_okq (⟨"PartitionPlayModel", "happen", "(I)V"⟩, 34) := ⟨⟨by decide +kernel, by decide +kernel⟩, List.mem_of_getElem? (i := 582) (by decide +kernel), List.mem_of_getElem? (i := 737) (by decide +kernel), List.mem_of_getElem? (i := 738) (by decide +kernel)⟩
theorem lw_p18 : lw_okq (⟨"PartitionPlayModel", "takeIn", "(II)V"⟩, 34) := ⟨⟨by decide +kernel, by decide +kernel⟩, List.mem_of_getElem? (i := 582) (by decide +kernel), List.mem_of_getElem? (i := 741) (by decide +kernel), List.mem_of_getElem? (i := 742) (by decide +kernel)⟩
theorem lw_p19 : lw_okq (⟨"PartitionPlayModel", "come", "(III)V"⟩, 34) := ⟨⟨by decide +kernel, by decide +kernel⟩, List.mem_of_getElem? (i := 582) (by decide +kernel), List.mem_of_getElem? (i := 745) (by decide +kernel), List.mem_of_getElem? (i := 746) (by decide +kernel)⟩
theorem lw_p20 : lw_okq (⟨"PartitionPlayModel", "isTogether", "(II)Z"⟩, 34) := ⟨⟨by decide +kernel, by decide +kernel⟩, List.mem_of_getElem? (i := 582) (by decide +kernel), List.mem_of_getElem? (i := 749) (by decide +kernel), List.mem_of_getElem? (i := 750) (by decide +kernel)⟩
theorem lw_p21 : lw_okq (⟨"PartitionPlayModel", "grow", "()V"⟩, 34) := ⟨⟨by decide +kernel, by decide +kernel⟩, List.mem_of_getElem? (i := 582) (by decide +kernel), List.mem_of_getElem? (i := 753) (by decide +kernel), List.mem_of_getElem? (i := 754) (by decide +kernel)⟩
theorem lw_p22 : lw_okq (⟨"PartitionPlayModel", "send", "(IIII)V"⟩, 34) := ⟨⟨by decide +kernel, by decide +kernel⟩, List.mem_of_getElem? (i := 582) (by decide +kernel), List.mem_of_getElem? (i := 757) (by decide +kernel), List.mem_of_getElem? (i := 758) (by decide +kernel)⟩
theorem lw_p23 : lw_okq (⟨"PartitionPlayModel", "isRule", "()Z"⟩, 34) := ⟨⟨by decide +kernel, by decide +kernel⟩, List.mem_of_getElem? (i := 582) (by decide +kernel), List.mem_of_getElem? (i := 761) (by decide +kernel), List.mem_of_getElem? (i := 762) (by decide +kernel)⟩
theorem lw_p24 : lw_okq (⟨"PartitionPlayModel", "isTurn", "(I)Z"⟩, 34) := ⟨⟨by decide +kernel, by decide +kernel⟩, List.mem_of_getElem? (i := 582) (by decide +kernel), List.mem_of_getElem? (i := 769) (by decide +kernel), List.mem_of_getElem? (i := 770) (by decide +kernel)⟩
theorem lw_p25 : lw_okq (⟨"PartitionPlayModel", "isFailing", "()Z"⟩, 34) := ⟨⟨by decide +kernel, by decide +kernel⟩, List.mem_of_getElem? (i := 582) (by decide +kernel), List.mem_of_getElem? (i := 797) (by decide +kernel), List.mem_of_getElem? (i := 798) (by decide +kernel)⟩
def lw_privs_2 : List (MethodName × Nat) := [(⟨"PartitionPlayModel", "run", "(II)V"⟩, 34), (⟨"PartitionPlayModel", "happen", "(I)V"⟩, 34), (⟨"PartitionPlayModel", "takeIn", "(II)V"⟩, 34), (⟨"PartitionPlayModel", "come", "(III)V"⟩, 34), (⟨"PartitionPlayModel", "isTogether", "(II)Z"⟩, 34), (⟨"PartitionPlayModel", "grow", "()V"⟩, 34), (⟨"PartitionPlayModel", "send", "(IIII)V"⟩, 34), (⟨"PartitionPlayModel", "isRule", "()Z"⟩, 34), (⟨"PartitionPlayModel", "isTurn", "(I)Z"⟩, 34), (⟨"PartitionPlayModel", "isFailing", "()Z"⟩, 34)]
theorem lw_r2 : ∀ q ∈ lw_privs_2, lw_okq q := List.forall_mem_cons.mpr ⟨lw_p16, List.forall_mem_cons.mpr ⟨lw_p17, List.forall_mem_cons.mpr ⟨lw_p18, List.forall_mem_cons.mpr ⟨lw_p19, List.forall_mem_cons.mpr ⟨lw_p20, List.forall_mem_cons.mpr ⟨lw_p21, List.forall_mem_cons.mpr ⟨lw_p22, List.forall_mem_cons.mpr ⟨lw_p23, List.forall_mem_cons.mpr ⟨lw_p24, List.forall_mem_cons.mpr ⟨lw_p25, fun _ h => absurd h List.not_mem_nil⟩⟩⟩⟩⟩⟩⟩⟩⟩⟩
def lw_privs : List (MethodName × Nat) := lw_privs_1 ++ (lw_privs_2)
def lw_tbl : List Cond := k2_sels lw_privs ++ tables_1
theorem lw_privs_ok : ∀ q ∈ lw_privs, lw_okq q := by
  show ∀ q ∈ lw_privs_1 ++ (lw_privs_2), lw_okq q
  exact List.forall_mem_append.mpr ⟨lw_r1, lw_r2⟩
-- ===== end of PART A; then your names; then what follows =====
end
section
/-! ===== BEGIN words of one list among another's, by their places ===== -/
theorem goodIn_r {big : List Cond} (ws : List Cond) (ps : List Nat) (hp : ws = ps.filterMap (fun i => big[i]?)) (h : ws.all goodWord = true) : GoodIn big ws := by
  intro w hw
  have h1 := List.all_eq_true.mp h w hw
  rw [hp] at hw
  obtain ⟨i, -, hi⟩ := List.mem_filterMap.mp hw
  have hm : w ∈ big := by first | exact List.mem_of_getElem? hi | exact List.getElem?_mem hi
  exact ⟨hm, good_of_word h1⟩
theorem goodIn_app {big a b : List Cond} (ha : GoodIn big a) (hb : GoodIn big b) : GoodIn big (a ++ b) := fun w h => (List.mem_append.mp h).elim (ha w) (hb w)
theorem goodIn_ca {big a b : List Cond} {c : Cond} (ha : GoodIn big (c :: a)) (hb : GoodIn big b) : GoodIn big (c :: (a ++ b)) := fun w h => (List.mem_cons.mp h).elim (fun e => ha w (List.mem_cons.mpr (Or.inl e))) (fun h => (List.mem_append.mp h).elim (fun h => ha w (List.mem_cons.mpr (Or.inr h))) (hb w))
theorem goodIn_sub {big ws : List Cond} (hm : ∀ w ∈ ws, w ∈ big) (h : ws.all goodWord = true) : GoodIn big ws := fun w hw => ⟨hm w hw, good_of_word (List.all_eq_true.mp h w hw)⟩
/-! ===== END ===== -/

/-! ===== BEGIN printed: names, fields, word lists, decode rows ===== -/
def RX0 : String := "PartitionPlay$Comings"
def TX0 : u_T := fun k => match k with
  | 0 => ("PartitionPlay$Comings", "size", "I", false)
  | 1 => ("PartitionPlay$Comings", "letters", "[I", true)
  | 2 => ("PartitionPlay$Comings", "followers", "[I", true)
  | 3 => ("PartitionPlay$Comings", "firsts", "[I", true)
  | _ => ("PartitionPlay$Comings", "lasts", "[I", true)
def tyX0 : Nat → FieldType := fun k => match k with
  | 0 => .int
  | 1 => .array .int
  | 2 => .array .int
  | 3 => .array .int
  | _ => .array .int
abbrev wsX00 : List Cond := u_ws RX0 TX0 5
theorem nmX0 : ∀ a, a < 5 → ∀ b, b < 5 → a ≠ b → (TX0 a).2.1 ≠ (TX0 b).2.1 := by decide +kernel
theorem tyX0_ok : ∀ k, k < 5 → parseFieldDescriptor (TX0 k).2.2.1 = some (tyX0 k) := by decide +kernel
abbrev cX0_init : ByteArray := prog_2_method_1_code
def yX0_init : MethodName := ⟨RX0, "<init>", "()V"⟩
abbrev cX0_clear : ByteArray := prog_2_method_2_code
def yX0_clear : MethodName := ⟨RX0, "clear", "()V"⟩
abbrev cX0_add : ByteArray := prog_2_method_3_code
def yX0_add : MethodName := ⟨RX0, "add", "(II)V"⟩
abbrev cX0_firstAt : ByteArray := prog_2_method_4_code
def yX0_firstAt : MethodName := ⟨RX0, "firstAt", "(I)I"⟩
abbrev cX0_has : ByteArray := prog_2_method_5_code
def yX0_has : MethodName := ⟨RX0, "has", "(I)Z"⟩
abbrev cX0_behind : ByteArray := prog_2_method_6_code
def yX0_behind : MethodName := ⟨RX0, "behind", "(I)I"⟩
abbrev cX0_letterOf : ByteArray := prog_2_method_7_code
def yX0_letterOf : MethodName := ⟨RX0, "letterOf", "(I)I"⟩
def RX1 : String := "PartitionPlay$Letters"
def TX1 : u_T := fun k => match k with
  | 0 => ("PartitionPlay$Letters", "size", "I", false)
  | 1 => ("PartitionPlay$Letters", "lost", "I", false)
  | 2 => ("PartitionPlay$Letters", "senders", "[I", true)
  | 3 => ("PartitionPlay$Letters", "receivers", "[I", true)
  | 4 => ("PartitionPlay$Letters", "turns", "[I", true)
  | 5 => ("PartitionPlay$Letters", "heights", "[I", true)
  | 6 => ("PartitionPlay$Letters", "rumours", "[I", true)
  | 7 => ("PartitionPlay$Letters", "firstComings", "[I", true)
  | _ => ("PartitionPlay$Letters", "takenIn", "[I", true)
def tyX1 : Nat → FieldType := fun k => match k with
  | 0 => .int
  | 1 => .int
  | 2 => .array .int
  | 3 => .array .int
  | 4 => .array .int
  | 5 => .array .int
  | 6 => .array .int
  | 7 => .array .int
  | _ => .array .int
abbrev wsX10 : List Cond := u_ws RX1 TX1 9
theorem nmX1 : ∀ a, a < 9 → ∀ b, b < 9 → a ≠ b → (TX1 a).2.1 ≠ (TX1 b).2.1 := by decide +kernel
theorem tyX1_ok : ∀ k, k < 9 → parseFieldDescriptor (TX1 k).2.2.1 = some (tyX1 k) := by decide +kernel
abbrev cX1_init : ByteArray := prog_3_method_1_code
def yX1_init : MethodName := ⟨RX1, "<init>", "()V"⟩
abbrev cX1_has : ByteArray := prog_3_method_2_code
def yX1_has : MethodName := ⟨RX1, "has", "(I)Z"⟩
abbrev cX1_clear : ByteArray := prog_3_method_3_code
def yX1_clear : MethodName := ⟨RX1, "clear", "()V"⟩
abbrev cX1_add : ByteArray := prog_3_method_4_code
def yX1_add : MethodName := ⟨RX1, "add", "(IIIII)I"⟩
abbrev cX1_bytesFrom : ByteArray := prog_3_method_5_code
def yX1_bytesFrom : MethodName := ⟨RX1, "bytesFrom", "(I)I"⟩
def RX2 : String := "PartitionPlay$Net"
def TX2 : u_T := fun k => match k with
  | 0 => ("PartitionPlay$Net", "size", "I", true)
  | 1 => ("PartitionPlay$Net", "behaviours", "[I", true)
  | 2 => ("PartitionPlay$Net", "delays", "[I", true)
  | _ => ("PartitionPlay$Net", "rumours", "[I", true)
def tyX2 : Nat → FieldType := fun k => match k with
  | 0 => .int
  | 1 => .array .int
  | 2 => .array .int
  | _ => .array .int
abbrev wsX20 : List Cond := u_ws RX2 TX2 4
theorem nmX2 : ∀ a, a < 4 → ∀ b, b < 4 → a ≠ b → (TX2 a).2.1 ≠ (TX2 b).2.1 := by decide +kernel
theorem tyX2_ok : ∀ k, k < 4 → parseFieldDescriptor (TX2 k).2.2.1 = some (tyX2 k) := by decide +kernel
abbrev cX2_init : ByteArray := prog_4_method_1_code
def yX2_init : MethodName := ⟨RX2, "<init>", "(I)V"⟩
abbrev cX2_has : ByteArray := prog_4_method_2_code
def yX2_has : MethodName := ⟨RX2, "has", "(I)Z"⟩
abbrev cX2_hasAllOf : ByteArray := prog_4_method_3_code
def yX2_hasAllOf : MethodName := ⟨RX2, "hasAllOf", "(I)Z"⟩
abbrev cX2_isMoreThanHalf : ByteArray := prog_4_method_4_code
def yX2_isMoreThanHalf : MethodName := ⟨RX2, "isMoreThanHalf", "(I)Z"⟩
abbrev cX2_heightSaid : ByteArray := prog_4_method_5_code
def yX2_heightSaid : MethodName := ⟨RX2, "heightSaid", "(II)I"⟩
def RX3 : String := "PartitionPlay$Nodes"
def TX3 : u_T := fun k => match k with
  | 0 => ("PartitionPlay$Nodes", "net", "LPartitionPlay$Net;", true)
  | 1 => ("PartitionPlay$Nodes", "heights", "[I", true)
  | 2 => ("PartitionPlay$Nodes", "known", "[I", true)
  | 3 => ("PartitionPlay$Nodes", "up", "[Z", true)
  | 4 => ("PartitionPlay$Nodes", "grew", "[Z", true)
  | 5 => ("PartitionPlay$Nodes", "shown", "[I", true)
  | _ => ("PartitionPlay$Nodes", "group", "I", false)
def tyX3 : Nat → FieldType := fun k => match k with
  | 0 => .object "PartitionPlay$Net"
  | 1 => .array .int
  | 2 => .array .int
  | 3 => .array .boolean
  | 4 => .array .boolean
  | 5 => .array .int
  | _ => .int
abbrev wsX30 : List Cond := u_ws RX3 TX3 7
theorem nmX3 : ∀ a, a < 7 → ∀ b, b < 7 → a ≠ b → (TX3 a).2.1 ≠ (TX3 b).2.1 := by decide +kernel
theorem tyX3_ok : ∀ k, k < 7 → parseFieldDescriptor (TX3 k).2.2.1 = some (tyX3 k) := by decide +kernel
abbrev cX3_init : ByteArray := prog_5_method_1_code
def yX3_init : MethodName := ⟨RX3, "<init>", "(LPartitionPlay$Net;)V"⟩
abbrev cX3_begin : ByteArray := prog_5_method_2_code
def yX3_begin : MethodName := ⟨RX3, "begin", "()V"⟩
abbrev cX3_meet : ByteArray := prog_5_method_3_code
def yX3_meet : MethodName := ⟨RX3, "meet", "(II)V"⟩
abbrev cX3_forgetShown : ByteArray := prog_5_method_4_code
def yX3_forgetShown : MethodName := ⟨RX3, "forgetShown", "(I)V"⟩
abbrev cX3_canReach : ByteArray := prog_5_method_5_code
def yX3_canReach : MethodName := ⟨RX3, "canReach", "(II)Z"⟩
abbrev cX3_takeIn : ByteArray := prog_5_method_6_code
def yX3_takeIn : MethodName := ⟨RX3, "takeIn", "(IIII)V"⟩
abbrev cX3_grow : ByteArray := prog_5_method_7_code
def yX3_grow : MethodName := ⟨RX3, "grow", "()V"⟩
abbrev cX3_thatShowedEnoughTo : ByteArray := prog_5_method_8_code
def yX3_thatShowedEnoughTo : MethodName := ⟨RX3, "thatShowedEnoughTo", "(I)I"⟩
abbrev cX3_keepTheRule : ByteArray := prog_5_method_9_code
def yX3_keepTheRule : MethodName := ⟨RX3, "keepTheRule", "()Z"⟩
abbrev cX3_noLowerThan : ByteArray := prog_5_method_10_code
def yX3_noLowerThan : MethodName := ⟨RX3, "noLowerThan", "(I)I"⟩
abbrev cX3_greatestHeight : ByteArray := prog_5_method_11_code
def yX3_greatestHeight : MethodName := ⟨RX3, "greatestHeight", "()I"⟩
abbrev cX3_thatKnow : ByteArray := prog_5_method_12_code
def yX3_thatKnow : MethodName := ⟨RX3, "thatKnow", "(I)I"⟩
def RX4 : String := "PartitionPlay$Play"
def TX4 : u_T := fun k => match k with
  | 0 => ("PartitionPlay$Play", "net", "LPartitionPlay$Net;", true)
  | 1 => ("PartitionPlay$Play", "schedule", "LPartitionPlay$Schedule;", true)
  | 2 => ("PartitionPlay$Play", "stopsAtFailure", "Z", true)
  | 3 => ("PartitionPlay$Play", "comings", "LPartitionPlay$Comings;", true)
  | 4 => ("PartitionPlay$Play", "nodes", "LPartitionPlay$Nodes;", true)
  | 5 => ("PartitionPlay$Play", "letters", "LPartitionPlay$Letters;", true)
  | 6 => ("PartitionPlay$Play", "heights", "[I", true)
  | 7 => ("PartitionPlay$Play", "held", "[Z", true)
  | 8 => ("PartitionPlay$Play", "turns", "I", false)
  | 9 => ("PartitionPlay$Play", "failedAt", "I", false)
  | 10 => ("PartitionPlay$Play", "taken", "I", false)
  | 11 => ("PartitionPlay$Play", "gone", "I", false)
  | _ => ("PartitionPlay$Play", "alsoLost", "I", false)
def tyX4 : Nat → FieldType := fun k => match k with
  | 0 => .object "PartitionPlay$Net"
  | 1 => .object "PartitionPlay$Schedule"
  | 2 => .boolean
  | 3 => .object "PartitionPlay$Comings"
  | 4 => .object "PartitionPlay$Nodes"
  | 5 => .object "PartitionPlay$Letters"
  | 6 => .array .int
  | 7 => .array .boolean
  | 8 => .int
  | 9 => .int
  | 10 => .int
  | 11 => .int
  | _ => .int
abbrev wsX40 : List Cond := u_ws RX4 TX4 13
theorem nmX4 : ∀ a, a < 13 → ∀ b, b < 13 → a ≠ b → (TX4 a).2.1 ≠ (TX4 b).2.1 := by decide +kernel
theorem tyX4_ok : ∀ k, k < 13 → parseFieldDescriptor (TX4 k).2.2.1 = some (tyX4 k) := by decide +kernel
abbrev cX4_init : ByteArray := prog_6_method_1_code
def yX4_init : MethodName := ⟨RX4, "<init>", "(LPartitionPlay$Net;LPartitionPlay$Schedule;Z)V"⟩
abbrev cX4_hasTurn : ByteArray := prog_6_method_2_code
def yX4_hasTurn : MethodName := ⟨RX4, "hasTurn", "(I)Z"⟩
abbrev cX4_run : ByteArray := prog_6_method_3_code
def yX4_run : MethodName := ⟨RX4, "run", "(II)Z"⟩
abbrev cX4_begin : ByteArray := prog_6_method_4_code
def yX4_begin : MethodName := ⟨RX4, "begin", "(II)V"⟩
abbrev cX4_meetEvents : ByteArray := prog_6_method_5_code
def yX4_meetEvents : MethodName := ⟨RX4, "meetEvents", "(I)V"⟩
abbrev cX4_takeInComings : ByteArray := prog_6_method_6_code
def yX4_takeInComings : MethodName := ⟨RX4, "takeInComings", "(I)V"⟩
abbrev cX4_takeIn : ByteArray := prog_6_method_7_code
def yX4_takeIn : MethodName := ⟨RX4, "takeIn", "(I)V"⟩
abbrev cX4_sendLetters : ByteArray := prog_6_method_8_code
def yX4_sendLetters : MethodName := ⟨RX4, "sendLetters", "(I)V"⟩
abbrev cX4_sendFrom : ByteArray := prog_6_method_9_code
def yX4_sendFrom : MethodName := ⟨RX4, "sendFrom", "(II)V"⟩
abbrev cX4_post : ByteArray := prog_6_method_10_code
def yX4_post : MethodName := ⟨RX4, "post", "(II)V"⟩
abbrev cX4_isAlsoLost : ByteArray := prog_6_method_11_code
def yX4_isAlsoLost : MethodName := ⟨RX4, "isAlsoLost", "(I)Z"⟩
abbrev cX4_postDoubles : ByteArray := prog_6_method_12_code
def yX4_postDoubles : MethodName := ⟨RX4, "postDoubles", "(II)V"⟩
abbrev cX4_keepRecord : ByteArray := prog_6_method_13_code
def yX4_keepRecord : MethodName := ⟨RX4, "keepRecord", "(I)V"⟩
def RX5 : String := "PartitionPlay$Schedule"
def TX5 : u_T := fun k => match k with
  | 0 => ("PartitionPlay$Schedule", "size", "I", false)
  | 1 => ("PartitionPlay$Schedule", "kinds", "[I", true)
  | 2 => ("PartitionPlay$Schedule", "turns", "[I", true)
  | 3 => ("PartitionPlay$Schedule", "as", "[I", true)
  | 4 => ("PartitionPlay$Schedule", "bs", "[I", true)
  | 5 => ("PartitionPlay$Schedule", "leftOut", "[Z", true)
  | _ => ("PartitionPlay$Schedule", "namings", "[I", true)
def tyX5 : Nat → FieldType := fun k => match k with
  | 0 => .int
  | 1 => .array .int
  | 2 => .array .int
  | 3 => .array .int
  | 4 => .array .int
  | 5 => .array .boolean
  | _ => .array .int
abbrev wsX50 : List Cond := u_ws RX5 TX5 7
theorem nmX5 : ∀ a, a < 7 → ∀ b, b < 7 → a ≠ b → (TX5 a).2.1 ≠ (TX5 b).2.1 := by decide +kernel
theorem tyX5_ok : ∀ k, k < 7 → parseFieldDescriptor (TX5 k).2.2.1 = some (tyX5 k) := by decide +kernel
abbrev cX5_init : ByteArray := prog_7_method_1_code
def yX5_init : MethodName := ⟨RX5, "<init>", "()V"⟩
abbrev cX5_has : ByteArray := prog_7_method_2_code
def yX5_has : MethodName := ⟨RX5, "has", "(I)Z"⟩
abbrev cX5_add : ByteArray := prog_7_method_3_code
def yX5_add : MethodName := ⟨RX5, "add", "(IIII)I"⟩
abbrev cX5_remove : ByteArray := prog_7_method_4_code
def yX5_remove : MethodName := ⟨RX5, "remove", "(I)V"⟩
abbrev cX5_removeLeftOut : ByteArray := prog_7_method_5_code
def yX5_removeLeftOut : MethodName := ⟨RX5, "removeLeftOut", "()V"⟩
abbrev cX5_countNaming : ByteArray := prog_7_method_6_code
def yX5_countNaming : MethodName := ⟨RX5, "countNaming", "(II)V"⟩
abbrev cX5_names : ByteArray := prog_7_method_7_code
def yX5_names : MethodName := ⟨RX5, "names", "(I)Z"⟩
abbrev cX5_happensAt : ByteArray := prog_7_method_8_code
def yX5_happensAt : MethodName := ⟨RX5, "happensAt", "(II)Z"⟩
abbrev cX5_does : ByteArray := prog_7_method_9_code
def yX5_does : MethodName := ⟨RX5, "does", "(III)Z"⟩
abbrev cX5_loses : ByteArray := prog_7_method_10_code
def yX5_loses : MethodName := ⟨RX5, "loses", "(I)Z"⟩
abbrev cX5_lateness : ByteArray := prog_7_method_11_code
def yX5_lateness : MethodName := ⟨RX5, "lateness", "(I)I"⟩
def RX6 : String := "PartitionPlay"
def TX6 : u_T := fun k => match k with
  | 0 => ("PartitionPlay", "net", "LPartitionPlay$Net;", true)
  | 1 => ("PartitionPlay", "schedule", "LPartitionPlay$Schedule;", true)
  | 2 => ("PartitionPlay", "shownPlay", "LPartitionPlay$Play;", true)
  | _ => ("PartitionPlay", "trial", "LPartitionPlay$Play;", true)
def tyX6 : Nat → FieldType := fun k => match k with
  | 0 => .object "PartitionPlay$Net"
  | 1 => .object "PartitionPlay$Schedule"
  | 2 => .object "PartitionPlay$Play"
  | _ => .object "PartitionPlay$Play"
abbrev wsX60 : List Cond := u_ws RX6 TX6 4
theorem nmX6 : ∀ a, a < 4 → ∀ b, b < 4 → a ≠ b → (TX6 a).2.1 ≠ (TX6 b).2.1 := by decide +kernel
theorem tyX6_ok : ∀ k, k < 4 → parseFieldDescriptor (TX6 k).2.2.1 = some (tyX6 k) := by decide +kernel
abbrev cX6_init : ByteArray := prog_1_method_1_code
def yX6_init : MethodName := ⟨RX6, "<init>", "(I)V"⟩
abbrev cX6_behaviour : ByteArray := prog_1_method_2_code
def yX6_behaviour : MethodName := ⟨RX6, "behaviour", "(II)I"⟩
abbrev cX6_delay : ByteArray := prog_1_method_3_code
def yX6_delay : MethodName := ⟨RX6, "delay", "(III)I"⟩
abbrev cX6_tell : ByteArray := prog_1_method_4_code
def yX6_tell : MethodName := ⟨RX6, "tell", "(II)I"⟩
abbrev cX6_event : ByteArray := prog_1_method_5_code
def yX6_event : MethodName := ⟨RX6, "event", "(IIII)I"⟩
abbrev cX6_drop : ByteArray := prog_1_method_6_code
def yX6_drop : MethodName := ⟨RX6, "drop", "(I)I"⟩
abbrev cX6_told : ByteArray := prog_1_method_7_code
def yX6_told : MethodName := ⟨RX6, "told", "(II)I"⟩
abbrev cX6_play : ByteArray := prog_1_method_8_code
def yX6_play : MethodName := ⟨RX6, "play", "(I)I"⟩
abbrev cX6_height : ByteArray := prog_1_method_9_code
def yX6_height : MethodName := ⟨RX6, "height", "(II)I"⟩
abbrev cX6_holds : ByteArray := prog_1_method_10_code
def yX6_holds : MethodName := ⟨RX6, "holds", "(I)I"⟩
abbrev cX6_fails : ByteArray := prog_1_method_11_code
def yX6_fails : MethodName := ⟨RX6, "fails", "()I"⟩
abbrev cX6_letter : ByteArray := prog_1_method_12_code
def yX6_letter : MethodName := ⟨RX6, "letter", "(II)I"⟩
abbrev cX6_reached : ByteArray := prog_1_method_13_code
def yX6_reached : MethodName := ⟨RX6, "reached", "(I)I"⟩
abbrev cX6_bytes : ByteArray := prog_1_method_14_code
def yX6_bytes : MethodName := ⟨RX6, "bytes", "(I)I"⟩
abbrev cX6_shrink : ByteArray := prog_1_method_15_code
def yX6_shrink : MethodName := ⟨RX6, "shrink", "()I"⟩
abbrev cX6_minimal : ByteArray := prog_1_method_16_code
def yX6_minimal : MethodName := ⟨RX6, "minimal", "()I"⟩
abbrev cX6_sets : ByteArray := prog_1_method_17_code
def yX6_sets : MethodName := ⟨RX6, "sets", "(I)I"⟩
abbrev cX6_count : ByteArray := prog_1_method_18_code
def yX6_count : MethodName := ⟨RX6, "count", "(I)I"⟩
abbrev cX6_isWait : ByteArray := prog_1_method_19_code
def yX6_isWait : MethodName := ⟨RX6, "isWait", "(I)Z"⟩
abbrev cX6_isRumour : ByteArray := prog_1_method_20_code
def yX6_isRumour : MethodName := ⟨RX6, "isRumour", "(I)Z"⟩
abbrev cX6_isTurn : ByteArray := prog_1_method_21_code
def yX6_isTurn : MethodName := ⟨RX6, "isTurn", "(I)Z"⟩
abbrev cX6_isLetter : ByteArray := prog_1_method_22_code
def yX6_isLetter : MethodName := ⟨RX6, "isLetter", "(I)Z"⟩
abbrev cX6_isTimed : ByteArray := prog_1_method_23_code
def yX6_isTimed : MethodName := ⟨RX6, "isTimed", "(I)Z"⟩
abbrev cX6_namesNode : ByteArray := prog_1_method_24_code
def yX6_namesNode : MethodName := ⟨RX6, "namesNode", "(I)Z"⟩
abbrev cX6_namesLetter : ByteArray := prog_1_method_25_code
def yX6_namesLetter : MethodName := ⟨RX6, "namesLetter", "(I)Z"⟩
abbrev cX6_hasWait : ByteArray := prog_1_method_26_code
def yX6_hasWait : MethodName := ⟨RX6, "hasWait", "(I)Z"⟩
abbrev cX6_pair : ByteArray := prog_1_method_27_code
def yX6_pair : MethodName := ⟨RX6, "pair", "(II)I"⟩
abbrev cX6_place : ByteArray := prog_1_method_28_code
def yX6_place : MethodName := ⟨RX6, "place", "(II)I"⟩
def RX7 : String := "PartitionPlayModel"
def TX7 : u_T := fun k => match k with
  | 0 => ("PartitionPlayModel", "n", "I", true)
  | 1 => ("PartitionPlayModel", "behaviour", "[I", true)
  | 2 => ("PartitionPlayModel", "delay", "[I", true)
  | 3 => ("PartitionPlayModel", "rumours", "[I", true)
  | 4 => ("PartitionPlayModel", "events", "I", false)
  | 5 => ("PartitionPlayModel", "kind", "[I", true)
  | 6 => ("PartitionPlayModel", "when", "[I", true)
  | 7 => ("PartitionPlayModel", "first", "[I", true)
  | 8 => ("PartitionPlayModel", "second", "[I", true)
  | 9 => ("PartitionPlayModel", "isOut", "[Z", true)
  | 10 => ("PartitionPlayModel", "lostToo", "I", false)
  | 11 => ("PartitionPlayModel", "turns", "[I", true)
  | 12 => ("PartitionPlayModel", "letters", "[I", true)
  | 13 => ("PartitionPlayModel", "lost", "[I", true)
  | 14 => ("PartitionPlayModel", "taken", "[I", true)
  | 15 => ("PartitionPlayModel", "gone", "[I", true)
  | 16 => ("PartitionPlayModel", "failed", "[I", true)
  | 17 => ("PartitionPlayModel", "heights", "[I", true)
  | 18 => ("PartitionPlayModel", "held", "[Z", true)
  | 19 => ("PartitionPlayModel", "known", "[I", true)
  | 20 => ("PartitionPlayModel", "from", "[I", true)
  | 21 => ("PartitionPlayModel", "to", "[I", true)
  | 22 => ("PartitionPlayModel", "sent", "[I", true)
  | 23 => ("PartitionPlayModel", "height", "[I", true)
  | 24 => ("PartitionPlayModel", "carried", "[I", true)
  | 25 => ("PartitionPlayModel", "comes", "[I", true)
  | 26 => ("PartitionPlayModel", "often", "[I", true)
  | 27 => ("PartitionPlayModel", "doubles", "[I", true)
  | 28 => ("PartitionPlayModel", "now", "[I", true)
  | 29 => ("PartitionPlayModel", "knows", "[I", true)
  | 30 => ("PartitionPlayModel", "shown", "[I", true)
  | 31 => ("PartitionPlayModel", "isDown", "[Z", true)
  | 32 => ("PartitionPlayModel", "grew", "[Z", true)
  | _ => ("PartitionPlayModel", "group", "I", false)
def tyX7 : Nat → FieldType := fun k => match k with
  | 0 => .int
  | 1 => .array .int
  | 2 => .array .int
  | 3 => .array .int
  | 4 => .int
  | 5 => .array .int
  | 6 => .array .int
  | 7 => .array .int
  | 8 => .array .int
  | 9 => .array .boolean
  | 10 => .int
  | 11 => .array .int
  | 12 => .array .int
  | 13 => .array .int
  | 14 => .array .int
  | 15 => .array .int
  | 16 => .array .int
  | 17 => .array .int
  | 18 => .array .boolean
  | 19 => .array .int
  | 20 => .array .int
  | 21 => .array .int
  | 22 => .array .int
  | 23 => .array .int
  | 24 => .array .int
  | 25 => .array .int
  | 26 => .array .int
  | 27 => .array .int
  | 28 => .array .int
  | 29 => .array .int
  | 30 => .array .int
  | 31 => .array .boolean
  | 32 => .array .boolean
  | _ => .int
abbrev wsX70 : List Cond := u_ws RX7 TX7 34
theorem nmX7 : ∀ a, a < 34 → ∀ b, b < 34 → a ≠ b → (TX7 a).2.1 ≠ (TX7 b).2.1 := by decide +kernel
theorem tyX7_ok : ∀ k, k < 34 → parseFieldDescriptor (TX7 k).2.2.1 = some (tyX7 k) := by decide +kernel
abbrev cX7_init : ByteArray := prog_9_method_1_code
def yX7_init : MethodName := ⟨RX7, "<init>", "(I)V"⟩
abbrev cX7_in : ByteArray := prog_9_method_3_code
def yX7_in : MethodName := ⟨RX7, "in", "(III)Z"⟩
abbrev cX7_isNode : ByteArray := prog_9_method_4_code
def yX7_isNode : MethodName := ⟨RX7, "isNode", "(I)Z"⟩
abbrev cX7_behaviour : ByteArray := prog_9_method_5_code
def yX7_behaviour : MethodName := ⟨RX7, "behaviour", "(II)I"⟩
abbrev cX7_delay : ByteArray := prog_9_method_6_code
def yX7_delay : MethodName := ⟨RX7, "delay", "(III)I"⟩
abbrev cX7_bits : ByteArray := prog_9_method_7_code
def yX7_bits : MethodName := ⟨RX7, "bits", "(I)I"⟩
abbrev cX7_tell : ByteArray := prog_9_method_8_code
def yX7_tell : MethodName := ⟨RX7, "tell", "(II)I"⟩
abbrev cX7_event : ByteArray := prog_9_method_9_code
def yX7_event : MethodName := ⟨RX7, "event", "(IIII)I"⟩
abbrev cX7_remove : ByteArray := prog_9_method_10_code
def yX7_remove : MethodName := ⟨RX7, "remove", "(I)V"⟩
abbrev cX7_drop : ByteArray := prog_9_method_11_code
def yX7_drop : MethodName := ⟨RX7, "drop", "(I)I"⟩
abbrev cX7_told : ByteArray := prog_9_method_12_code
def yX7_told : MethodName := ⟨RX7, "told", "(II)I"⟩
abbrev cX7_isTogether : ByteArray := prog_9_method_13_code
def yX7_isTogether : MethodName := ⟨RX7, "isTogether", "(II)Z"⟩
abbrev cX7_happen : ByteArray := prog_9_method_14_code
def yX7_happen : MethodName := ⟨RX7, "happen", "(I)V"⟩
abbrev cX7_come : ByteArray := prog_9_method_15_code
def yX7_come : MethodName := ⟨RX7, "come", "(III)V"⟩
abbrev cX7_takeIn : ByteArray := prog_9_method_16_code
def yX7_takeIn : MethodName := ⟨RX7, "takeIn", "(II)V"⟩
abbrev cX7_grow : ByteArray := prog_9_method_17_code
def yX7_grow : MethodName := ⟨RX7, "grow", "()V"⟩
abbrev cX7_send : ByteArray := prog_9_method_18_code
def yX7_send : MethodName := ⟨RX7, "send", "(IIII)V"⟩
abbrev cX7_isRule : ByteArray := prog_9_method_19_code
def yX7_isRule : MethodName := ⟨RX7, "isRule", "()Z"⟩
abbrev cX7_run : ByteArray := prog_9_method_20_code
def yX7_run : MethodName := ⟨RX7, "run", "(II)V"⟩
abbrev cX7_isFailing : ByteArray := prog_9_method_21_code
def yX7_isFailing : MethodName := ⟨RX7, "isFailing", "()Z"⟩
abbrev cX7_play : ByteArray := prog_9_method_22_code
def yX7_play : MethodName := ⟨RX7, "play", "(I)I"⟩
abbrev cX7_isTurn : ByteArray := prog_9_method_23_code
def yX7_isTurn : MethodName := ⟨RX7, "isTurn", "(I)Z"⟩
abbrev cX7_height : ByteArray := prog_9_method_24_code
def yX7_height : MethodName := ⟨RX7, "height", "(II)I"⟩
abbrev cX7_holds : ByteArray := prog_9_method_25_code
def yX7_holds : MethodName := ⟨RX7, "holds", "(I)I"⟩
abbrev cX7_fails : ByteArray := prog_9_method_26_code
def yX7_fails : MethodName := ⟨RX7, "fails", "()I"⟩
abbrev cX7_letter : ByteArray := prog_9_method_27_code
def yX7_letter : MethodName := ⟨RX7, "letter", "(II)I"⟩
abbrev cX7_reached : ByteArray := prog_9_method_28_code
def yX7_reached : MethodName := ⟨RX7, "reached", "(I)I"⟩
abbrev cX7_bytes : ByteArray := prog_9_method_29_code
def yX7_bytes : MethodName := ⟨RX7, "bytes", "(I)I"⟩
abbrev cX7_shrink : ByteArray := prog_9_method_30_code
def yX7_shrink : MethodName := ⟨RX7, "shrink", "()I"⟩
abbrev cX7_minimal : ByteArray := prog_9_method_31_code
def yX7_minimal : MethodName := ⟨RX7, "minimal", "()I"⟩
abbrev cX7_sets : ByteArray := prog_9_method_32_code
def yX7_sets : MethodName := ⟨RX7, "sets", "(I)I"⟩
abbrev cX7_count : ByteArray := prog_9_method_33_code
def yX7_count : MethodName := ⟨RX7, "count", "(I)I"⟩
def RJ6 : String := "java/lang/Integer"
def TJ6 : u_T := fun k => match k with
  | _ => ("", "", "", false)
def tyJ6 : Nat → FieldType := fun k => match k with
  | _ => .int
abbrev wsJ60 : List Cond := u_ws RJ6 TJ6 0
theorem nmJ6 : ∀ a, a < 0 → ∀ b, b < 0 → a ≠ b → (TJ6 a).2.1 ≠ (TJ6 b).2.1 := by decide +kernel
theorem tyJ6_ok : ∀ k, k < 0 → parseFieldDescriptor (TJ6 k).2.2.1 = some (tyJ6 k) := by decide +kernel
abbrev cJ6_bitCount_0f7a4 : ByteArray := prog_10_method_49_code
def yJ6_bitCount_0f7a4 : MethodName := ⟨RJ6, "bitCount", "(I)I"⟩
def RJ9 : String := "java/lang/Math"
def TJ9 : u_T := fun k => match k with
  | _ => ("", "", "", false)
def tyJ9 : Nat → FieldType := fun k => match k with
  | _ => .int
abbrev wsJ90 : List Cond := u_ws RJ9 TJ9 0
theorem nmJ9 : ∀ a, a < 0 → ∀ b, b < 0 → a ≠ b → (TJ9 a).2.1 ≠ (TJ9 b).2.1 := by decide +kernel
theorem tyJ9_ok : ∀ k, k < 0 → parseFieldDescriptor (TJ9 k).2.2.1 = some (tyJ9 k) := by decide +kernel
abbrev cJ9_max_7cf53 : ByteArray := prog_11_method_65_code
def yJ9_max_7cf53 : MethodName := ⟨RJ9, "max", "(II)I"⟩
abbrev cJ9_min_7cf53 : ByteArray := prog_11_method_69_code
def yJ9_min_7cf53 : MethodName := ⟨RJ9, "min", "(II)I"⟩
def RJ7 : String := "java/util/Arrays"
def TJ7 : u_T := fun k => match k with
  | _ => ("", "", "", false)
def tyJ7 : Nat → FieldType := fun k => match k with
  | _ => .int
abbrev wsJ70 : List Cond := u_ws RJ7 TJ7 0
theorem nmJ7 : ∀ a, a < 0 → ∀ b, b < 0 → a ≠ b → (TJ7 a).2.1 ≠ (TJ7 b).2.1 := by decide +kernel
theorem tyJ7_ok : ∀ k, k < 0 → parseFieldDescriptor (TJ7 k).2.2.1 = some (tyJ7 k) := by decide +kernel
abbrev cJ7_fill_53178 : ByteArray := prog_12_method_103_code
def yJ7_fill_53178 : MethodName := ⟨RJ7, "fill", "([II)V"⟩
def RL : String := "PartitionPlayLaw"
abbrev cL_cell : ByteArray := method_2_code
def yL_cell : MethodName := ⟨RL, "cell", "([II)I"⟩
abbrev cL_law : ByteArray := code
def yL_law : MethodName := ⟨RL, "law", "([I)Z"⟩
def wsX0_init : List Cond := .code yX0_init cX0_init 1 none :: ([.methodLink RX0 3 objectInit, .instanceMethod objectInit, .code objectInit ⟨#[0xb1]⟩ 1 none, .arrayClass .int, .fieldLink RX0 9 "PartitionPlay$Comings" "letters" "[I", .fieldLink RX0 15 "PartitionPlay$Comings" "followers" "[I", .fieldLink RX0 18 "PartitionPlay$Comings" "firsts" "[I", .fieldLink RX0 21 "PartitionPlay$Comings" "lasts" "[I"] ++ wsX00)
def wsJ7_fill_53178 : List Cond := .code yJ7_fill_53178 cJ7_fill_53178 4 none :: ([])
def wsX0_clear : List Cond := .code yX0_clear cX0_clear 1 none :: ([.fieldLink RX0 24 "PartitionPlay$Comings" "size" "I", .fieldLink RX0 18 "PartitionPlay$Comings" "firsts" "[I", .fieldLink RX0 21 "PartitionPlay$Comings" "lasts" "[I", .methodLink RX0 28 yJ7_fill_53178, .static yJ7_fill_53178, .initialized RJ7, .code yJ7_fill_53178 cJ7_fill_53178 4 none] ++ wsX00)
def wsX0_add : List Cond := .code yX0_add cX0_add 3 none :: ([.fieldLink RX0 24 "PartitionPlay$Comings" "size" "I", .fieldLink RX0 9 "PartitionPlay$Comings" "letters" "[I", .fieldLink RX0 15 "PartitionPlay$Comings" "followers" "[I", .fieldLink RX0 21 "PartitionPlay$Comings" "lasts" "[I", .fieldLink RX0 18 "PartitionPlay$Comings" "firsts" "[I"] ++ wsX00)
def wsX6_isTurn : List Cond := .code yX6_isTurn cX6_isTurn 1 (some .boolean) :: ([])
def wsX0_firstAt : List Cond := .code yX0_firstAt cX0_firstAt 2 (some .int) :: ([.fieldLink RX0 18 "PartitionPlay$Comings" "firsts" "[I", .static yX6_isTurn, .initialized RX6, .code yX6_isTurn cX6_isTurn 1 (some .boolean)] ++ wsX00)
def wsX0_has : List Cond := .code yX0_has cX0_has 2 (some .boolean) :: ([.fieldLink RX0 24 "PartitionPlay$Comings" "size" "I"] ++ wsX00)
def wsX0_behind : List Cond := .code yX0_behind cX0_behind 2 (some .int) :: ([.fieldLink RX0 15 "PartitionPlay$Comings" "followers" "[I", .methodLink RX0 38 yX0_has, .instanceMethod yX0_has, .selects RX0 yX0_has yX0_has, .initialized RX0, .code yX0_has cX0_has 2 (some .boolean), .fieldLink RX0 24 "PartitionPlay$Comings" "size" "I"] ++ wsX00)
def wsX0_letterOf : List Cond := .code yX0_letterOf cX0_letterOf 2 (some .int) :: ([.fieldLink RX0 9 "PartitionPlay$Comings" "letters" "[I", .methodLink RX0 38 yX0_has, .instanceMethod yX0_has, .selects RX0 yX0_has yX0_has, .initialized RX0, .code yX0_has cX0_has 2 (some .boolean), .fieldLink RX0 24 "PartitionPlay$Comings" "size" "I"] ++ wsX00)
def wsX1_init : List Cond := .code yX1_init cX1_init 1 none :: ([.methodLink RX1 3 objectInit, .instanceMethod objectInit, .code objectInit ⟨#[0xb1]⟩ 1 none, .arrayClass .int, .fieldLink RX1 9 "PartitionPlay$Letters" "senders" "[I", .fieldLink RX1 15 "PartitionPlay$Letters" "receivers" "[I", .fieldLink RX1 18 "PartitionPlay$Letters" "turns" "[I", .fieldLink RX1 21 "PartitionPlay$Letters" "heights" "[I", .fieldLink RX1 24 "PartitionPlay$Letters" "rumours" "[I", .fieldLink RX1 27 "PartitionPlay$Letters" "firstComings" "[I", .fieldLink RX1 30 "PartitionPlay$Letters" "takenIn" "[I"] ++ wsX10)
def wsX1_has : List Cond := .code yX1_has cX1_has 2 (some .boolean) :: ([.fieldLink RX1 33 "PartitionPlay$Letters" "size" "I"] ++ wsX10)
def wsX1_clear : List Cond := .code yX1_clear cX1_clear 1 none :: ([.fieldLink RX1 33 "PartitionPlay$Letters" "size" "I", .fieldLink RX1 37 "PartitionPlay$Letters" "lost" "I"] ++ wsX10)
def wsX1_add : List Cond := .code yX1_add cX1_add 6 (some .int) :: ([.fieldLink RX1 33 "PartitionPlay$Letters" "size" "I", .fieldLink RX1 9 "PartitionPlay$Letters" "senders" "[I", .fieldLink RX1 15 "PartitionPlay$Letters" "receivers" "[I", .fieldLink RX1 18 "PartitionPlay$Letters" "turns" "[I", .fieldLink RX1 21 "PartitionPlay$Letters" "heights" "[I", .fieldLink RX1 24 "PartitionPlay$Letters" "rumours" "[I", .fieldLink RX1 27 "PartitionPlay$Letters" "firstComings" "[I", .fieldLink RX1 30 "PartitionPlay$Letters" "takenIn" "[I"] ++ wsX10)
def wsJ6_bitCount_0f7a4 : List Cond := .code yJ6_bitCount_0f7a4 cJ6_bitCount_0f7a4 1 (some .int) :: ([.constant RJ6 265 (1431655765), .constant RJ6 266 (858993459), .constant RJ6 267 (252645135)])
def wsX1_bytesFrom : List Cond := .code yX1_bytesFrom cX1_bytesFrom 4 (some .int) :: ([.fieldLink RX1 33 "PartitionPlay$Letters" "size" "I", .fieldLink RX1 9 "PartitionPlay$Letters" "senders" "[I", .fieldLink RX1 24 "PartitionPlay$Letters" "rumours" "[I", .methodLink RX1 40 yJ6_bitCount_0f7a4, .static yJ6_bitCount_0f7a4, .initialized RJ6, .code yJ6_bitCount_0f7a4 cJ6_bitCount_0f7a4 1 (some .int), .constant RJ6 265 (1431655765), .constant RJ6 266 (858993459), .constant RJ6 267 (252645135)] ++ wsX10)
def wsX2_init : List Cond := .code yX2_init cX2_init 2 none :: ([.methodLink RX2 3 objectInit, .instanceMethod objectInit, .code objectInit ⟨#[0xb1]⟩ 1 none, .arrayClass .int, .fieldLink RX2 9 "PartitionPlay$Net" "behaviours" "[I", .fieldLink RX2 15 "PartitionPlay$Net" "delays" "[I", .fieldLink RX2 18 "PartitionPlay$Net" "rumours" "[I", .fieldLink RX2 21 "PartitionPlay$Net" "size" "I", .methodLink RX2 25 yJ7_fill_53178, .static yJ7_fill_53178, .initialized RJ7, .code yJ7_fill_53178 cJ7_fill_53178 4 none] ++ wsX20)
def wsX2_has : List Cond := .code yX2_has cX2_has 2 (some .boolean) :: ([.fieldLink RX2 21 "PartitionPlay$Net" "size" "I"] ++ wsX20)
def wsX2_hasAllOf : List Cond := .code yX2_hasAllOf cX2_hasAllOf 2 (some .boolean) :: ([.fieldLink RX2 21 "PartitionPlay$Net" "size" "I"] ++ wsX20)
def wsX2_isMoreThanHalf : List Cond := .code yX2_isMoreThanHalf cX2_isMoreThanHalf 2 (some .boolean) :: ([.fieldLink RX2 21 "PartitionPlay$Net" "size" "I"] ++ wsX20)
def wsX2_heightSaid : List Cond := .code yX2_heightSaid cX2_heightSaid 3 (some .int) :: ([.fieldLink RX2 9 "PartitionPlay$Net" "behaviours" "[I"] ++ wsX20)
def wsX3_init : List Cond := .code yX3_init cX3_init 2 none :: ([.methodLink RX3 3 objectInit, .instanceMethod objectInit, .code objectInit ⟨#[0xb1]⟩ 1 none, .arrayClass .int, .fieldLink RX3 9 "PartitionPlay$Nodes" "heights" "[I", .fieldLink RX3 15 "PartitionPlay$Nodes" "known" "[I", .arrayClass .boolean, .fieldLink RX3 18 "PartitionPlay$Nodes" "up" "[Z", .fieldLink RX3 22 "PartitionPlay$Nodes" "grew" "[Z", .fieldLink RX3 25 "PartitionPlay$Nodes" "shown" "[I", .fieldLink RX3 28 "PartitionPlay$Nodes" "net" "LPartitionPlay$Net;"] ++ wsX30)
def wsX3_begin : List Cond := .code yX3_begin cX3_begin 2 none :: ([.fieldLink RX3 25 "PartitionPlay$Nodes" "shown" "[I", .fieldLink RX3 28 "PartitionPlay$Nodes" "net" "LPartitionPlay$Net;", .fieldLink RX3 38 "PartitionPlay$Net" "size" "I", .fieldLink RX3 9 "PartitionPlay$Nodes" "heights" "[I", .fieldLink RX3 15 "PartitionPlay$Nodes" "known" "[I", .fieldLink RX3 44 "PartitionPlay$Net" "rumours" "[I", .fieldLink RX3 18 "PartitionPlay$Nodes" "up" "[Z", .fieldLink RX3 22 "PartitionPlay$Nodes" "grew" "[Z", .fieldLink RX3 47 "PartitionPlay$Nodes" "group" "I", .methodLink RX3 32 yJ7_fill_53178, .static yJ7_fill_53178, .initialized RJ7, .code yJ7_fill_53178 cJ7_fill_53178 4 none] ++ wsX30 ++ wsX20)
def wsX6_pair : List Cond := .code yX6_pair cX6_pair 2 (some .int) :: ([])
def wsX3_forgetShown : List Cond := .code yX3_forgetShown cX3_forgetShown 3 none :: ([.fieldLink RX3 28 "PartitionPlay$Nodes" "net" "LPartitionPlay$Net;", .fieldLink RX3 38 "PartitionPlay$Net" "size" "I", .fieldLink RX3 25 "PartitionPlay$Nodes" "shown" "[I", .static yX6_pair, .initialized RX6, .code yX6_pair cX6_pair 2 (some .int)] ++ wsX30 ++ wsX20)
def wsX3_meet : List Cond := .code yX3_meet cX3_meet 3 none :: ([.fieldLink RX3 47 "PartitionPlay$Nodes" "group" "I", .fieldLink RX3 28 "PartitionPlay$Nodes" "net" "LPartitionPlay$Net;", .fieldLink RX3 18 "PartitionPlay$Nodes" "up" "[Z", .methodLink RX3 50 yX2_has, .instanceMethod yX2_has, .selects RX2 yX2_has yX2_has, .initialized RX2, .code yX2_has cX2_has 2 (some .boolean), .fieldLink RX2 21 "PartitionPlay$Net" "size" "I", .methodLink RX3 54 yX3_forgetShown, .instanceMethod yX3_forgetShown, .selects RX3 yX3_forgetShown yX3_forgetShown, .initialized RX3, .code yX3_forgetShown cX3_forgetShown 3 none, .fieldLink RX3 38 "PartitionPlay$Net" "size" "I", .fieldLink RX3 25 "PartitionPlay$Nodes" "shown" "[I", .static yX6_pair, .initialized RX6, .code yX6_pair cX6_pair 2 (some .int)] ++ wsX30 ++ wsX20)
def wsX3_canReach : List Cond := .code yX3_canReach cX3_canReach 3 (some .boolean) :: ([.fieldLink RX3 18 "PartitionPlay$Nodes" "up" "[Z", .fieldLink RX3 47 "PartitionPlay$Nodes" "group" "I"] ++ wsX30)
def wsX3_takeIn : List Cond := .code yX3_takeIn cX3_takeIn 6 none :: ([.fieldLink RX3 25 "PartitionPlay$Nodes" "shown" "[I", .methodLink RX3 62 Lib.Math.max.name, .static Lib.Math.max.name, .initialized "java/lang/Math", .code Lib.Math.max.name Lib.Math.max.code 2 (some .int), .fieldLink RX3 15 "PartitionPlay$Nodes" "known" "[I", .static yX6_pair, .initialized RX6, .code yX6_pair cX6_pair 2 (some .int)] ++ wsX30)
def wsX3_thatShowedEnoughTo : List Cond := .code yX3_thatShowedEnoughTo cX3_thatShowedEnoughTo 4 (some .int) :: ([.fieldLink RX3 28 "PartitionPlay$Nodes" "net" "LPartitionPlay$Net;", .fieldLink RX3 38 "PartitionPlay$Net" "size" "I", .fieldLink RX3 25 "PartitionPlay$Nodes" "shown" "[I", .fieldLink RX3 9 "PartitionPlay$Nodes" "heights" "[I", .static yX6_pair, .initialized RX6, .code yX6_pair cX6_pair 2 (some .int)] ++ wsX30 ++ wsX20)
def wsX3_grow : List Cond := .code yX3_grow cX3_grow 2 none :: ([.fieldLink RX3 28 "PartitionPlay$Nodes" "net" "LPartitionPlay$Net;", .fieldLink RX3 38 "PartitionPlay$Net" "size" "I", .fieldLink RX3 22 "PartitionPlay$Nodes" "grew" "[Z", .fieldLink RX3 18 "PartitionPlay$Nodes" "up" "[Z", .fieldLink RX3 9 "PartitionPlay$Nodes" "heights" "[I", .methodLink RX3 67 yX3_thatShowedEnoughTo, .instanceMethod yX3_thatShowedEnoughTo, .selects RX3 yX3_thatShowedEnoughTo yX3_thatShowedEnoughTo, .initialized RX3, .code yX3_thatShowedEnoughTo cX3_thatShowedEnoughTo 4 (some .int), .fieldLink RX3 25 "PartitionPlay$Nodes" "shown" "[I", .static yX6_pair, .initialized RX6, .code yX6_pair cX6_pair 2 (some .int), .methodLink RX3 71 yX2_isMoreThanHalf, .instanceMethod yX2_isMoreThanHalf, .selects RX2 yX2_isMoreThanHalf yX2_isMoreThanHalf, .initialized RX2, .code yX2_isMoreThanHalf cX2_isMoreThanHalf 2 (some .boolean), .fieldLink RX2 21 "PartitionPlay$Net" "size" "I"] ++ wsX30 ++ wsX20)
def wsX3_noLowerThan : List Cond := .code yX3_noLowerThan cX3_noLowerThan 4 (some .int) :: ([.fieldLink RX3 28 "PartitionPlay$Nodes" "net" "LPartitionPlay$Net;", .fieldLink RX3 38 "PartitionPlay$Net" "size" "I", .fieldLink RX3 9 "PartitionPlay$Nodes" "heights" "[I"] ++ wsX30 ++ wsX20)
def wsX3_keepTheRule : List Cond := .code yX3_keepTheRule cX3_keepTheRule 3 (some .boolean) :: ([.fieldLink RX3 28 "PartitionPlay$Nodes" "net" "LPartitionPlay$Net;", .fieldLink RX3 38 "PartitionPlay$Net" "size" "I", .fieldLink RX3 74 "PartitionPlay$Net" "behaviours" "[I", .fieldLink RX3 9 "PartitionPlay$Nodes" "heights" "[I", .methodLink RX3 62 Lib.Math.max.name, .static Lib.Math.max.name, .initialized "java/lang/Math", .code Lib.Math.max.name Lib.Math.max.code 2 (some .int), .methodLink RX3 77 yX3_noLowerThan, .instanceMethod yX3_noLowerThan, .selects RX3 yX3_noLowerThan yX3_noLowerThan, .initialized RX3, .code yX3_noLowerThan cX3_noLowerThan 4 (some .int), .methodLink RX3 71 yX2_isMoreThanHalf, .instanceMethod yX2_isMoreThanHalf, .selects RX2 yX2_isMoreThanHalf yX2_isMoreThanHalf, .initialized RX2, .code yX2_isMoreThanHalf cX2_isMoreThanHalf 2 (some .boolean), .fieldLink RX2 21 "PartitionPlay$Net" "size" "I"] ++ wsX30 ++ wsX20)
def wsX3_greatestHeight : List Cond := .code yX3_greatestHeight cX3_greatestHeight 3 (some .int) :: ([.fieldLink RX3 28 "PartitionPlay$Nodes" "net" "LPartitionPlay$Net;", .fieldLink RX3 38 "PartitionPlay$Net" "size" "I", .fieldLink RX3 9 "PartitionPlay$Nodes" "heights" "[I", .methodLink RX3 62 Lib.Math.max.name, .static Lib.Math.max.name, .initialized "java/lang/Math", .code Lib.Math.max.name Lib.Math.max.code 2 (some .int)] ++ wsX30 ++ wsX20)
def wsX3_thatKnow : List Cond := .code yX3_thatKnow cX3_thatKnow 4 (some .int) :: ([.fieldLink RX3 28 "PartitionPlay$Nodes" "net" "LPartitionPlay$Net;", .fieldLink RX3 38 "PartitionPlay$Net" "size" "I", .fieldLink RX3 15 "PartitionPlay$Nodes" "known" "[I"] ++ wsX30 ++ wsX20)
def wsX4_init_r1 : List Cond := [Cond.methodLink RX4 3 objectInit, Cond.instanceMethod objectInit, Cond.code objectInit ⟨#[0xb1]⟩ 1 none, Cond.classLink RX4 9 RX0, Cond.instantiable RX0 5, Cond.initialized RX0, Cond.fieldLink RX4 12 "PartitionPlay$Play" "comings" "LPartitionPlay$Comings;", Cond.classLink RX4 18 RX1, Cond.instantiable RX1 9, Cond.initialized RX1, Cond.fieldLink RX4 21 "PartitionPlay$Play" "letters" "LPartitionPlay$Letters;", Cond.arrayClass .int, Cond.fieldLink RX4 25 "PartitionPlay$Play" "heights" "[I", Cond.arrayClass .boolean, Cond.fieldLink RX4 29 "PartitionPlay$Play" "held" "[Z", Cond.fieldLink RX4 33 "PartitionPlay$Play" "failedAt" "I", Cond.fieldLink RX4 37 "PartitionPlay$Play" "net" "LPartitionPlay$Net;", Cond.fieldLink RX4 41 "PartitionPlay$Play" "schedule" "LPartitionPlay$Schedule;", Cond.fieldLink RX4 45 "PartitionPlay$Play" "stopsAtFailure" "Z", Cond.classLink RX4 49 RX3, Cond.instantiable RX3 7, Cond.initialized RX3, Cond.fieldLink RX4 54 "PartitionPlay$Play" "nodes" "LPartitionPlay$Nodes;", Cond.instanceMethod yX0_init]
def wsX4_init_r2 : List Cond := [Cond.code yX0_init cX0_init 1 none, Cond.methodLink RX0 3 objectInit, Cond.fieldLink RX0 9 "PartitionPlay$Comings" "letters" "[I", Cond.fieldLink RX0 15 "PartitionPlay$Comings" "followers" "[I", Cond.fieldLink RX0 18 "PartitionPlay$Comings" "firsts" "[I", Cond.fieldLink RX0 21 "PartitionPlay$Comings" "lasts" "[I", Cond.instanceMethod yX1_init, Cond.code yX1_init cX1_init 1 none, Cond.methodLink RX1 3 objectInit, Cond.fieldLink RX1 9 "PartitionPlay$Letters" "senders" "[I", Cond.fieldLink RX1 15 "PartitionPlay$Letters" "receivers" "[I", Cond.fieldLink RX1 18 "PartitionPlay$Letters" "turns" "[I", Cond.fieldLink RX1 21 "PartitionPlay$Letters" "heights" "[I", Cond.fieldLink RX1 24 "PartitionPlay$Letters" "rumours" "[I", Cond.fieldLink RX1 27 "PartitionPlay$Letters" "firstComings" "[I", Cond.fieldLink RX1 30 "PartitionPlay$Letters" "takenIn" "[I", Cond.methodLink RX4 51 yX3_init, Cond.instanceMethod yX3_init, Cond.code yX3_init cX3_init 2 none, Cond.methodLink RX3 3 objectInit, Cond.fieldLink RX3 9 "PartitionPlay$Nodes" "heights" "[I", Cond.fieldLink RX3 15 "PartitionPlay$Nodes" "known" "[I", Cond.fieldLink RX3 18 "PartitionPlay$Nodes" "up" "[Z", Cond.fieldLink RX3 22 "PartitionPlay$Nodes" "grew" "[Z"]
def wsX4_init_r3 : List Cond := [Cond.fieldLink RX3 25 "PartitionPlay$Nodes" "shown" "[I", Cond.fieldLink RX3 28 "PartitionPlay$Nodes" "net" "LPartitionPlay$Net;"]
def wsX4_init : List Cond := .code yX4_init cX4_init 4 none :: ((wsX4_init_r1 ++ (wsX4_init_r2 ++ wsX4_init_r3)) ++ wsX00 ++ wsX40 ++ wsX10 ++ wsX30)
def wsX4_hasTurn : List Cond := .code yX4_hasTurn cX4_hasTurn 2 (some .boolean) :: ([.fieldLink RX4 58 "PartitionPlay$Play" "turns" "I"] ++ wsX40)
def wsX4_begin_r1 : List Cond := [Cond.methodLink RX4 81 Lib.Math.min.name, Cond.static Lib.Math.min.name, Cond.initialized "java/lang/Math", Cond.code Lib.Math.min.name Lib.Math.min.code 2 (some .int), Cond.fieldLink RX4 58 "PartitionPlay$Play" "turns" "I", Cond.fieldLink RX4 87 "PartitionPlay$Play" "alsoLost" "I", Cond.fieldLink RX4 33 "PartitionPlay$Play" "failedAt" "I", Cond.fieldLink RX4 90 "PartitionPlay$Play" "taken" "I", Cond.fieldLink RX4 93 "PartitionPlay$Play" "gone" "I", Cond.fieldLink RX4 21 "PartitionPlay$Play" "letters" "LPartitionPlay$Letters;", Cond.fieldLink RX4 12 "PartitionPlay$Play" "comings" "LPartitionPlay$Comings;", Cond.fieldLink RX4 54 "PartitionPlay$Play" "nodes" "LPartitionPlay$Nodes;", Cond.methodLink RX4 96 yX1_clear, Cond.instanceMethod yX1_clear, Cond.selects RX1 yX1_clear yX1_clear, Cond.initialized RX1, Cond.code yX1_clear cX1_clear 1 none, Cond.fieldLink RX1 33 "PartitionPlay$Letters" "size" "I", Cond.fieldLink RX1 37 "PartitionPlay$Letters" "lost" "I", Cond.methodLink RX4 99 yX0_clear, Cond.instanceMethod yX0_clear, Cond.selects RX0 yX0_clear yX0_clear, Cond.initialized RX0, Cond.code yX0_clear cX0_clear 1 none]
def wsX4_begin_r2 : List Cond := [Cond.fieldLink RX0 24 "PartitionPlay$Comings" "size" "I", Cond.fieldLink RX0 18 "PartitionPlay$Comings" "firsts" "[I", Cond.fieldLink RX0 21 "PartitionPlay$Comings" "lasts" "[I", Cond.methodLink RX0 28 yJ7_fill_53178, Cond.static yJ7_fill_53178, Cond.initialized RJ7, Cond.code yJ7_fill_53178 cJ7_fill_53178 4 none, Cond.methodLink RX4 100 yX3_begin, Cond.instanceMethod yX3_begin, Cond.selects RX3 yX3_begin yX3_begin, Cond.initialized RX3, Cond.code yX3_begin cX3_begin 2 none, Cond.fieldLink RX3 25 "PartitionPlay$Nodes" "shown" "[I", Cond.fieldLink RX3 28 "PartitionPlay$Nodes" "net" "LPartitionPlay$Net;", Cond.fieldLink RX3 38 "PartitionPlay$Net" "size" "I", Cond.fieldLink RX3 9 "PartitionPlay$Nodes" "heights" "[I", Cond.fieldLink RX3 15 "PartitionPlay$Nodes" "known" "[I", Cond.fieldLink RX3 44 "PartitionPlay$Net" "rumours" "[I", Cond.fieldLink RX3 18 "PartitionPlay$Nodes" "up" "[Z", Cond.fieldLink RX3 22 "PartitionPlay$Nodes" "grew" "[Z", Cond.fieldLink RX3 47 "PartitionPlay$Nodes" "group" "I", Cond.methodLink RX3 32 yJ7_fill_53178]
def wsX4_begin : List Cond := .code yX4_begin cX4_begin 3 none :: ((wsX4_begin_r1 ++ wsX4_begin_r2) ++ wsX40 ++ wsX10 ++ wsX00 ++ wsX30 ++ wsX20)
def wsX6_isTimed : List Cond := .code yX6_isTimed cX6_isTimed 1 (some .boolean) :: ([])
def wsX5_happensAt : List Cond := .code yX5_happensAt cX5_happensAt 3 (some .boolean) :: ([.fieldLink RX5 24 "PartitionPlay$Schedule" "leftOut" "[Z", .fieldLink RX5 9 "PartitionPlay$Schedule" "kinds" "[I", .fieldLink RX5 15 "PartitionPlay$Schedule" "turns" "[I", .static yX6_isTimed, .initialized RX6, .code yX6_isTimed cX6_isTimed 1 (some .boolean)] ++ wsX50)
def wsX4_meetEvents_r1 : List Cond := [Cond.fieldLink RX4 41 "PartitionPlay$Play" "schedule" "LPartitionPlay$Schedule;", Cond.fieldLink RX4 102 "PartitionPlay$Schedule" "size" "I", Cond.fieldLink RX4 54 "PartitionPlay$Play" "nodes" "LPartitionPlay$Nodes;", Cond.fieldLink RX4 111 "PartitionPlay$Schedule" "kinds" "[I", Cond.fieldLink RX4 114 "PartitionPlay$Schedule" "as" "[I", Cond.methodLink RX4 107 yX5_happensAt, Cond.instanceMethod yX5_happensAt, Cond.selects RX5 yX5_happensAt yX5_happensAt, Cond.initialized RX5, Cond.code yX5_happensAt cX5_happensAt 3 (some .boolean), Cond.fieldLink RX5 24 "PartitionPlay$Schedule" "leftOut" "[Z", Cond.fieldLink RX5 9 "PartitionPlay$Schedule" "kinds" "[I", Cond.fieldLink RX5 15 "PartitionPlay$Schedule" "turns" "[I", Cond.static yX6_isTimed, Cond.initialized RX6, Cond.code yX6_isTimed cX6_isTimed 1 (some .boolean), Cond.methodLink RX4 117 yX3_meet, Cond.instanceMethod yX3_meet, Cond.selects RX3 yX3_meet yX3_meet, Cond.initialized RX3, Cond.code yX3_meet cX3_meet 3 none, Cond.fieldLink RX3 47 "PartitionPlay$Nodes" "group" "I", Cond.fieldLink RX3 28 "PartitionPlay$Nodes" "net" "LPartitionPlay$Net;", Cond.fieldLink RX3 18 "PartitionPlay$Nodes" "up" "[Z"]
def wsX4_meetEvents_r2 : List Cond := [Cond.methodLink RX3 50 yX2_has, Cond.instanceMethod yX2_has, Cond.selects RX2 yX2_has yX2_has, Cond.initialized RX2, Cond.code yX2_has cX2_has 2 (some .boolean), Cond.fieldLink RX2 21 "PartitionPlay$Net" "size" "I", Cond.methodLink RX3 54 yX3_forgetShown, Cond.instanceMethod yX3_forgetShown, Cond.selects RX3 yX3_forgetShown yX3_forgetShown, Cond.code yX3_forgetShown cX3_forgetShown 3 none, Cond.fieldLink RX3 38 "PartitionPlay$Net" "size" "I", Cond.fieldLink RX3 25 "PartitionPlay$Nodes" "shown" "[I", Cond.static yX6_pair, Cond.code yX6_pair cX6_pair 2 (some .int)]
def wsX4_meetEvents : List Cond := .code yX4_meetEvents cX4_meetEvents 3 none :: ((wsX4_meetEvents_r1 ++ wsX4_meetEvents_r2) ++ wsX40 ++ wsX50 ++ wsX30 ++ wsX20)
def wsX4_takeIn_r1 : List Cond := [Cond.fieldLink RX4 21 "PartitionPlay$Play" "letters" "LPartitionPlay$Letters;", Cond.fieldLink RX4 137 "PartitionPlay$Letters" "senders" "[I", Cond.fieldLink RX4 140 "PartitionPlay$Letters" "receivers" "[I", Cond.fieldLink RX4 54 "PartitionPlay$Play" "nodes" "LPartitionPlay$Nodes;", Cond.fieldLink RX4 93 "PartitionPlay$Play" "gone" "I", Cond.fieldLink RX4 146 "PartitionPlay$Letters" "heights" "[I", Cond.fieldLink RX4 147 "PartitionPlay$Letters" "rumours" "[I", Cond.fieldLink RX4 153 "PartitionPlay$Letters" "takenIn" "[I", Cond.fieldLink RX4 90 "PartitionPlay$Play" "taken" "I", Cond.methodLink RX4 133 yX1_has, Cond.instanceMethod yX1_has, Cond.selects RX1 yX1_has yX1_has, Cond.initialized RX1, Cond.code yX1_has cX1_has 2 (some .boolean), Cond.fieldLink RX1 33 "PartitionPlay$Letters" "size" "I", Cond.methodLink RX4 143 yX3_canReach, Cond.instanceMethod yX3_canReach, Cond.selects RX3 yX3_canReach yX3_canReach, Cond.initialized RX3, Cond.code yX3_canReach cX3_canReach 3 (some .boolean), Cond.fieldLink RX3 18 "PartitionPlay$Nodes" "up" "[Z", Cond.fieldLink RX3 47 "PartitionPlay$Nodes" "group" "I", Cond.methodLink RX4 150 yX3_takeIn, Cond.instanceMethod yX3_takeIn]
def wsX4_takeIn_r2 : List Cond := [Cond.selects RX3 yX3_takeIn yX3_takeIn, Cond.code yX3_takeIn cX3_takeIn 6 none, Cond.fieldLink RX3 25 "PartitionPlay$Nodes" "shown" "[I", Cond.methodLink RX3 62 Lib.Math.max.name, Cond.static Lib.Math.max.name, Cond.initialized "java/lang/Math", Cond.code Lib.Math.max.name Lib.Math.max.code 2 (some .int), Cond.fieldLink RX3 15 "PartitionPlay$Nodes" "known" "[I", Cond.static yX6_pair, Cond.initialized RX6, Cond.code yX6_pair cX6_pair 2 (some .int)]
def wsX4_takeIn : List Cond := .code yX4_takeIn cX4_takeIn 4 none :: ((wsX4_takeIn_r1 ++ wsX4_takeIn_r2) ++ wsX40 ++ wsX10 ++ wsX30)
def wsX4_takeInComings_r1 : List Cond := [Cond.fieldLink RX4 12 "PartitionPlay$Play" "comings" "LPartitionPlay$Comings;", Cond.methodLink RX4 120 yX0_firstAt, Cond.instanceMethod yX0_firstAt, Cond.selects RX0 yX0_firstAt yX0_firstAt, Cond.initialized RX0, Cond.code yX0_firstAt cX0_firstAt 2 (some .int), Cond.fieldLink RX0 18 "PartitionPlay$Comings" "firsts" "[I", Cond.static yX6_isTurn, Cond.initialized RX6, Cond.code yX6_isTurn cX6_isTurn 1 (some .boolean), Cond.methodLink RX4 124 yX0_letterOf, Cond.instanceMethod yX0_letterOf, Cond.selects RX0 yX0_letterOf yX0_letterOf, Cond.code yX0_letterOf cX0_letterOf 2 (some .int), Cond.fieldLink RX0 9 "PartitionPlay$Comings" "letters" "[I", Cond.methodLink RX0 38 yX0_has, Cond.instanceMethod yX0_has, Cond.selects RX0 yX0_has yX0_has, Cond.code yX0_has cX0_has 2 (some .boolean), Cond.fieldLink RX0 24 "PartitionPlay$Comings" "size" "I", Cond.methodLink RX4 127 yX4_takeIn, Cond.instanceMethod yX4_takeIn, Cond.selects RX4 yX4_takeIn yX4_takeIn, Cond.initialized RX4]
def wsX4_takeInComings_r2 : List Cond := [Cond.code yX4_takeIn cX4_takeIn 4 none, Cond.fieldLink RX4 21 "PartitionPlay$Play" "letters" "LPartitionPlay$Letters;", Cond.fieldLink RX4 137 "PartitionPlay$Letters" "senders" "[I", Cond.fieldLink RX4 140 "PartitionPlay$Letters" "receivers" "[I", Cond.fieldLink RX4 54 "PartitionPlay$Play" "nodes" "LPartitionPlay$Nodes;", Cond.fieldLink RX4 93 "PartitionPlay$Play" "gone" "I", Cond.fieldLink RX4 146 "PartitionPlay$Letters" "heights" "[I", Cond.fieldLink RX4 147 "PartitionPlay$Letters" "rumours" "[I", Cond.fieldLink RX4 153 "PartitionPlay$Letters" "takenIn" "[I", Cond.fieldLink RX4 90 "PartitionPlay$Play" "taken" "I", Cond.methodLink RX4 133 yX1_has, Cond.instanceMethod yX1_has, Cond.selects RX1 yX1_has yX1_has, Cond.initialized RX1, Cond.code yX1_has cX1_has 2 (some .boolean), Cond.fieldLink RX1 33 "PartitionPlay$Letters" "size" "I", Cond.methodLink RX4 143 yX3_canReach, Cond.instanceMethod yX3_canReach, Cond.selects RX3 yX3_canReach yX3_canReach, Cond.initialized RX3, Cond.code yX3_canReach cX3_canReach 3 (some .boolean), Cond.fieldLink RX3 18 "PartitionPlay$Nodes" "up" "[Z", Cond.fieldLink RX3 47 "PartitionPlay$Nodes" "group" "I", Cond.methodLink RX4 150 yX3_takeIn]
def wsX4_takeInComings_r3 : List Cond := [Cond.instanceMethod yX3_takeIn, Cond.selects RX3 yX3_takeIn yX3_takeIn, Cond.code yX3_takeIn cX3_takeIn 6 none, Cond.fieldLink RX3 25 "PartitionPlay$Nodes" "shown" "[I", Cond.methodLink RX3 62 Lib.Math.max.name, Cond.static Lib.Math.max.name, Cond.initialized "java/lang/Math", Cond.code Lib.Math.max.name Lib.Math.max.code 2 (some .int), Cond.fieldLink RX3 15 "PartitionPlay$Nodes" "known" "[I", Cond.static yX6_pair, Cond.code yX6_pair cX6_pair 2 (some .int), Cond.methodLink RX4 130 yX0_behind, Cond.instanceMethod yX0_behind, Cond.selects RX0 yX0_behind yX0_behind, Cond.code yX0_behind cX0_behind 2 (some .int), Cond.fieldLink RX0 15 "PartitionPlay$Comings" "followers" "[I"]
def wsX4_takeInComings : List Cond := .code yX4_takeInComings cX4_takeInComings 4 none :: ((wsX4_takeInComings_r1 ++ (wsX4_takeInComings_r2 ++ wsX4_takeInComings_r3)) ++ wsX40 ++ wsX00 ++ wsX10 ++ wsX30)
def wsX6_isLetter : List Cond := .code yX6_isLetter cX6_isLetter 1 (some .boolean) :: ([])
def wsX5_names : List Cond := .code yX5_names cX5_names 2 (some .boolean) :: ([.fieldLink RX5 28 "PartitionPlay$Schedule" "namings" "[I", .static yX6_isLetter, .initialized RX6, .code yX6_isLetter cX6_isLetter 1 (some .boolean)] ++ wsX50)
def wsX4_isAlsoLost : List Cond := .code yX4_isAlsoLost cX4_isAlsoLost 2 (some .boolean) :: ([.fieldLink RX4 87 "PartitionPlay$Play" "alsoLost" "I"] ++ wsX40)
def wsX5_does : List Cond := .code yX5_does cX5_does 4 (some .boolean) :: ([.fieldLink RX5 24 "PartitionPlay$Schedule" "leftOut" "[Z", .fieldLink RX5 9 "PartitionPlay$Schedule" "kinds" "[I", .fieldLink RX5 18 "PartitionPlay$Schedule" "as" "[I"] ++ wsX50)
def wsX5_loses : List Cond := .code yX5_loses cX5_loses 3 (some .boolean) :: ([.fieldLink RX5 31 "PartitionPlay$Schedule" "size" "I", .methodLink RX5 56 yX5_does, .instanceMethod yX5_does, .selects RX5 yX5_does yX5_does, .initialized RX5, .code yX5_does cX5_does 4 (some .boolean), .fieldLink RX5 24 "PartitionPlay$Schedule" "leftOut" "[Z", .fieldLink RX5 9 "PartitionPlay$Schedule" "kinds" "[I", .fieldLink RX5 18 "PartitionPlay$Schedule" "as" "[I"] ++ wsX50)
def wsX5_lateness : List Cond := .code yX5_lateness cX5_lateness 4 (some .int) :: ([.fieldLink RX5 31 "PartitionPlay$Schedule" "size" "I", .fieldLink RX5 21 "PartitionPlay$Schedule" "bs" "[I", .methodLink RX5 56 yX5_does, .instanceMethod yX5_does, .selects RX5 yX5_does yX5_does, .initialized RX5, .code yX5_does cX5_does 4 (some .boolean), .fieldLink RX5 24 "PartitionPlay$Schedule" "leftOut" "[Z", .fieldLink RX5 9 "PartitionPlay$Schedule" "kinds" "[I", .fieldLink RX5 18 "PartitionPlay$Schedule" "as" "[I"] ++ wsX50)
def wsX4_postDoubles : List Cond := .code yX4_postDoubles cX4_postDoubles 4 none :: ([.fieldLink RX4 41 "PartitionPlay$Play" "schedule" "LPartitionPlay$Schedule;", .fieldLink RX4 102 "PartitionPlay$Schedule" "size" "I", .fieldLink RX4 12 "PartitionPlay$Play" "comings" "LPartitionPlay$Comings;", .fieldLink RX4 218 "PartitionPlay$Schedule" "bs" "[I", .methodLink RX4 214 yX5_does, .instanceMethod yX5_does, .selects RX5 yX5_does yX5_does, .initialized RX5, .code yX5_does cX5_does 4 (some .boolean), .fieldLink RX5 24 "PartitionPlay$Schedule" "leftOut" "[Z", .fieldLink RX5 9 "PartitionPlay$Schedule" "kinds" "[I", .fieldLink RX5 18 "PartitionPlay$Schedule" "as" "[I", .methodLink RX4 209 yX0_add, .instanceMethod yX0_add, .selects RX0 yX0_add yX0_add, .initialized RX0, .code yX0_add cX0_add 3 none, .fieldLink RX0 24 "PartitionPlay$Comings" "size" "I", .fieldLink RX0 9 "PartitionPlay$Comings" "letters" "[I", .fieldLink RX0 15 "PartitionPlay$Comings" "followers" "[I", .fieldLink RX0 21 "PartitionPlay$Comings" "lasts" "[I", .fieldLink RX0 18 "PartitionPlay$Comings" "firsts" "[I"] ++ wsX40 ++ wsX50 ++ wsX00)
def wsX4_post_r1 : List Cond := [Cond.fieldLink RX4 21 "PartitionPlay$Play" "letters" "LPartitionPlay$Letters;", Cond.fieldLink RX4 41 "PartitionPlay$Play" "schedule" "LPartitionPlay$Schedule;", Cond.fieldLink RX4 200 "PartitionPlay$Letters" "lost" "I", Cond.fieldLink RX4 206 "PartitionPlay$Letters" "firstComings" "[I", Cond.fieldLink RX4 12 "PartitionPlay$Play" "comings" "LPartitionPlay$Comings;", Cond.methodLink RX4 133 yX1_has, Cond.instanceMethod yX1_has, Cond.selects RX1 yX1_has yX1_has, Cond.initialized RX1, Cond.code yX1_has cX1_has 2 (some .boolean), Cond.fieldLink RX1 33 "PartitionPlay$Letters" "size" "I", Cond.methodLink RX4 191 yX5_names, Cond.instanceMethod yX5_names, Cond.selects RX5 yX5_names yX5_names, Cond.initialized RX5, Cond.code yX5_names cX5_names 2 (some .boolean), Cond.fieldLink RX5 28 "PartitionPlay$Schedule" "namings" "[I", Cond.static yX6_isLetter, Cond.initialized RX6, Cond.code yX6_isLetter cX6_isLetter 1 (some .boolean), Cond.methodLink RX4 194 yX4_isAlsoLost, Cond.instanceMethod yX4_isAlsoLost, Cond.selects RX4 yX4_isAlsoLost yX4_isAlsoLost, Cond.initialized RX4]
def wsX4_post_r2 : List Cond := [Cond.code yX4_isAlsoLost cX4_isAlsoLost 2 (some .boolean), Cond.fieldLink RX4 87 "PartitionPlay$Play" "alsoLost" "I", Cond.methodLink RX4 197 yX5_loses, Cond.instanceMethod yX5_loses, Cond.selects RX5 yX5_loses yX5_loses, Cond.code yX5_loses cX5_loses 3 (some .boolean), Cond.fieldLink RX5 31 "PartitionPlay$Schedule" "size" "I", Cond.methodLink RX5 56 yX5_does, Cond.instanceMethod yX5_does, Cond.selects RX5 yX5_does yX5_does, Cond.code yX5_does cX5_does 4 (some .boolean), Cond.fieldLink RX5 24 "PartitionPlay$Schedule" "leftOut" "[Z", Cond.fieldLink RX5 9 "PartitionPlay$Schedule" "kinds" "[I", Cond.fieldLink RX5 18 "PartitionPlay$Schedule" "as" "[I", Cond.methodLink RX4 203 yX5_lateness, Cond.instanceMethod yX5_lateness, Cond.selects RX5 yX5_lateness yX5_lateness, Cond.code yX5_lateness cX5_lateness 4 (some .int), Cond.fieldLink RX5 21 "PartitionPlay$Schedule" "bs" "[I", Cond.methodLink RX4 209 yX0_add, Cond.instanceMethod yX0_add, Cond.selects RX0 yX0_add yX0_add, Cond.initialized RX0, Cond.code yX0_add cX0_add 3 none]
def wsX4_post_r3 : List Cond := [Cond.fieldLink RX0 24 "PartitionPlay$Comings" "size" "I", Cond.fieldLink RX0 9 "PartitionPlay$Comings" "letters" "[I", Cond.fieldLink RX0 15 "PartitionPlay$Comings" "followers" "[I", Cond.fieldLink RX0 21 "PartitionPlay$Comings" "lasts" "[I", Cond.fieldLink RX0 18 "PartitionPlay$Comings" "firsts" "[I", Cond.methodLink RX4 211 yX4_postDoubles, Cond.instanceMethod yX4_postDoubles, Cond.selects RX4 yX4_postDoubles yX4_postDoubles, Cond.code yX4_postDoubles cX4_postDoubles 4 none, Cond.fieldLink RX4 102 "PartitionPlay$Schedule" "size" "I", Cond.fieldLink RX4 218 "PartitionPlay$Schedule" "bs" "[I", Cond.methodLink RX4 214 yX5_does]
def wsX4_post : List Cond := .code yX4_post cX4_post 5 none :: ((wsX4_post_r1 ++ (wsX4_post_r2 ++ wsX4_post_r3)) ++ wsX40 ++ wsX10 ++ wsX50 ++ wsX00)
def wsX4_sendFrom_r1 : List Cond := [Cond.fieldLink RX4 37 "PartitionPlay$Play" "net" "LPartitionPlay$Net;", Cond.fieldLink RX4 54 "PartitionPlay$Play" "nodes" "LPartitionPlay$Nodes;", Cond.fieldLink RX4 171 "PartitionPlay$Nodes" "heights" "[I", Cond.fieldLink RX4 156 "PartitionPlay$Net" "size" "I", Cond.fieldLink RX4 21 "PartitionPlay$Play" "letters" "LPartitionPlay$Letters;", Cond.fieldLink RX4 175 "PartitionPlay$Nodes" "known" "[I", Cond.fieldLink RX4 182 "PartitionPlay$Net" "delays" "[I", Cond.methodLink RX4 172 yX2_heightSaid, Cond.instanceMethod yX2_heightSaid, Cond.selects RX2 yX2_heightSaid yX2_heightSaid, Cond.initialized RX2, Cond.code yX2_heightSaid cX2_heightSaid 3 (some .int), Cond.fieldLink RX2 9 "PartitionPlay$Net" "behaviours" "[I", Cond.methodLink RX4 178 yX1_add, Cond.instanceMethod yX1_add, Cond.selects RX1 yX1_add yX1_add, Cond.initialized RX1, Cond.code yX1_add cX1_add 6 (some .int), Cond.fieldLink RX1 33 "PartitionPlay$Letters" "size" "I", Cond.fieldLink RX1 9 "PartitionPlay$Letters" "senders" "[I", Cond.fieldLink RX1 15 "PartitionPlay$Letters" "receivers" "[I", Cond.fieldLink RX1 18 "PartitionPlay$Letters" "turns" "[I", Cond.fieldLink RX1 21 "PartitionPlay$Letters" "heights" "[I", Cond.fieldLink RX1 24 "PartitionPlay$Letters" "rumours" "[I"]
def wsX4_sendFrom_r2 : List Cond := [Cond.fieldLink RX1 27 "PartitionPlay$Letters" "firstComings" "[I", Cond.fieldLink RX1 30 "PartitionPlay$Letters" "takenIn" "[I", Cond.static yX6_pair, Cond.initialized RX6, Cond.code yX6_pair cX6_pair 2 (some .int), Cond.methodLink RX4 188 yX4_post, Cond.instanceMethod yX4_post, Cond.selects RX4 yX4_post yX4_post, Cond.initialized RX4, Cond.code yX4_post cX4_post 5 none, Cond.fieldLink RX4 41 "PartitionPlay$Play" "schedule" "LPartitionPlay$Schedule;", Cond.fieldLink RX4 200 "PartitionPlay$Letters" "lost" "I", Cond.fieldLink RX4 206 "PartitionPlay$Letters" "firstComings" "[I", Cond.fieldLink RX4 12 "PartitionPlay$Play" "comings" "LPartitionPlay$Comings;", Cond.methodLink RX4 133 yX1_has, Cond.instanceMethod yX1_has, Cond.selects RX1 yX1_has yX1_has, Cond.code yX1_has cX1_has 2 (some .boolean), Cond.methodLink RX4 191 yX5_names, Cond.instanceMethod yX5_names, Cond.selects RX5 yX5_names yX5_names, Cond.initialized RX5, Cond.code yX5_names cX5_names 2 (some .boolean), Cond.fieldLink RX5 28 "PartitionPlay$Schedule" "namings" "[I"]
def wsX4_sendFrom_r3 : List Cond := [Cond.static yX6_isLetter, Cond.code yX6_isLetter cX6_isLetter 1 (some .boolean), Cond.methodLink RX4 194 yX4_isAlsoLost, Cond.instanceMethod yX4_isAlsoLost, Cond.selects RX4 yX4_isAlsoLost yX4_isAlsoLost, Cond.code yX4_isAlsoLost cX4_isAlsoLost 2 (some .boolean), Cond.fieldLink RX4 87 "PartitionPlay$Play" "alsoLost" "I", Cond.methodLink RX4 197 yX5_loses, Cond.instanceMethod yX5_loses, Cond.selects RX5 yX5_loses yX5_loses, Cond.code yX5_loses cX5_loses 3 (some .boolean), Cond.fieldLink RX5 31 "PartitionPlay$Schedule" "size" "I", Cond.methodLink RX5 56 yX5_does, Cond.instanceMethod yX5_does, Cond.selects RX5 yX5_does yX5_does, Cond.code yX5_does cX5_does 4 (some .boolean), Cond.fieldLink RX5 24 "PartitionPlay$Schedule" "leftOut" "[Z", Cond.fieldLink RX5 9 "PartitionPlay$Schedule" "kinds" "[I", Cond.fieldLink RX5 18 "PartitionPlay$Schedule" "as" "[I", Cond.methodLink RX4 203 yX5_lateness, Cond.instanceMethod yX5_lateness, Cond.selects RX5 yX5_lateness yX5_lateness, Cond.code yX5_lateness cX5_lateness 4 (some .int), Cond.fieldLink RX5 21 "PartitionPlay$Schedule" "bs" "[I"]
def wsX4_sendFrom_r4 : List Cond := [Cond.methodLink RX4 209 yX0_add, Cond.instanceMethod yX0_add, Cond.selects RX0 yX0_add yX0_add, Cond.initialized RX0, Cond.code yX0_add cX0_add 3 none, Cond.fieldLink RX0 24 "PartitionPlay$Comings" "size" "I", Cond.fieldLink RX0 9 "PartitionPlay$Comings" "letters" "[I", Cond.fieldLink RX0 15 "PartitionPlay$Comings" "followers" "[I", Cond.fieldLink RX0 21 "PartitionPlay$Comings" "lasts" "[I", Cond.fieldLink RX0 18 "PartitionPlay$Comings" "firsts" "[I", Cond.methodLink RX4 211 yX4_postDoubles, Cond.instanceMethod yX4_postDoubles, Cond.selects RX4 yX4_postDoubles yX4_postDoubles, Cond.code yX4_postDoubles cX4_postDoubles 4 none, Cond.fieldLink RX4 102 "PartitionPlay$Schedule" "size" "I", Cond.fieldLink RX4 218 "PartitionPlay$Schedule" "bs" "[I", Cond.methodLink RX4 214 yX5_does]
def wsX4_sendFrom : List Cond := .code yX4_sendFrom cX4_sendFrom 6 none :: ((wsX4_sendFrom_r1 ++ (wsX4_sendFrom_r2 ++ (wsX4_sendFrom_r3 ++ wsX4_sendFrom_r4))) ++ wsX40 ++ wsX30 ++ wsX20 ++ wsX10 ++ wsX50 ++ wsX00)
def wsX4_sendLetters_r1 : List Cond := [Cond.fieldLink RX4 37 "PartitionPlay$Play" "net" "LPartitionPlay$Net;", Cond.fieldLink RX4 156 "PartitionPlay$Net" "size" "I", Cond.fieldLink RX4 54 "PartitionPlay$Play" "nodes" "LPartitionPlay$Nodes;", Cond.fieldLink RX4 159 "PartitionPlay$Nodes" "up" "[Z", Cond.fieldLink RX4 162 "PartitionPlay$Net" "behaviours" "[I", Cond.fieldLink RX4 165 "PartitionPlay$Nodes" "grew" "[Z", Cond.methodLink RX4 168 yX4_sendFrom, Cond.instanceMethod yX4_sendFrom, Cond.selects RX4 yX4_sendFrom yX4_sendFrom, Cond.initialized RX4, Cond.code yX4_sendFrom cX4_sendFrom 6 none, Cond.fieldLink RX4 171 "PartitionPlay$Nodes" "heights" "[I", Cond.fieldLink RX4 21 "PartitionPlay$Play" "letters" "LPartitionPlay$Letters;", Cond.fieldLink RX4 175 "PartitionPlay$Nodes" "known" "[I", Cond.fieldLink RX4 182 "PartitionPlay$Net" "delays" "[I", Cond.methodLink RX4 172 yX2_heightSaid, Cond.instanceMethod yX2_heightSaid, Cond.selects RX2 yX2_heightSaid yX2_heightSaid, Cond.initialized RX2, Cond.code yX2_heightSaid cX2_heightSaid 3 (some .int), Cond.fieldLink RX2 9 "PartitionPlay$Net" "behaviours" "[I", Cond.methodLink RX4 178 yX1_add, Cond.instanceMethod yX1_add, Cond.selects RX1 yX1_add yX1_add]
def wsX4_sendLetters_r2 : List Cond := [Cond.initialized RX1, Cond.code yX1_add cX1_add 6 (some .int), Cond.fieldLink RX1 33 "PartitionPlay$Letters" "size" "I", Cond.fieldLink RX1 9 "PartitionPlay$Letters" "senders" "[I", Cond.fieldLink RX1 15 "PartitionPlay$Letters" "receivers" "[I", Cond.fieldLink RX1 18 "PartitionPlay$Letters" "turns" "[I", Cond.fieldLink RX1 21 "PartitionPlay$Letters" "heights" "[I", Cond.fieldLink RX1 24 "PartitionPlay$Letters" "rumours" "[I", Cond.fieldLink RX1 27 "PartitionPlay$Letters" "firstComings" "[I", Cond.fieldLink RX1 30 "PartitionPlay$Letters" "takenIn" "[I", Cond.static yX6_pair, Cond.initialized RX6, Cond.code yX6_pair cX6_pair 2 (some .int), Cond.methodLink RX4 188 yX4_post, Cond.instanceMethod yX4_post, Cond.selects RX4 yX4_post yX4_post, Cond.code yX4_post cX4_post 5 none, Cond.fieldLink RX4 41 "PartitionPlay$Play" "schedule" "LPartitionPlay$Schedule;", Cond.fieldLink RX4 200 "PartitionPlay$Letters" "lost" "I", Cond.fieldLink RX4 206 "PartitionPlay$Letters" "firstComings" "[I", Cond.fieldLink RX4 12 "PartitionPlay$Play" "comings" "LPartitionPlay$Comings;", Cond.methodLink RX4 133 yX1_has, Cond.instanceMethod yX1_has, Cond.selects RX1 yX1_has yX1_has]
def wsX4_sendLetters_r3 : List Cond := [Cond.code yX1_has cX1_has 2 (some .boolean), Cond.methodLink RX4 191 yX5_names, Cond.instanceMethod yX5_names, Cond.selects RX5 yX5_names yX5_names, Cond.initialized RX5, Cond.code yX5_names cX5_names 2 (some .boolean), Cond.fieldLink RX5 28 "PartitionPlay$Schedule" "namings" "[I", Cond.static yX6_isLetter, Cond.code yX6_isLetter cX6_isLetter 1 (some .boolean), Cond.methodLink RX4 194 yX4_isAlsoLost, Cond.instanceMethod yX4_isAlsoLost, Cond.selects RX4 yX4_isAlsoLost yX4_isAlsoLost, Cond.code yX4_isAlsoLost cX4_isAlsoLost 2 (some .boolean), Cond.fieldLink RX4 87 "PartitionPlay$Play" "alsoLost" "I", Cond.methodLink RX4 197 yX5_loses, Cond.instanceMethod yX5_loses, Cond.selects RX5 yX5_loses yX5_loses, Cond.code yX5_loses cX5_loses 3 (some .boolean), Cond.fieldLink RX5 31 "PartitionPlay$Schedule" "size" "I", Cond.methodLink RX5 56 yX5_does, Cond.instanceMethod yX5_does, Cond.selects RX5 yX5_does yX5_does, Cond.code yX5_does cX5_does 4 (some .boolean), Cond.fieldLink RX5 24 "PartitionPlay$Schedule" "leftOut" "[Z"]
def wsX4_sendLetters_r4 : List Cond := [Cond.fieldLink RX5 9 "PartitionPlay$Schedule" "kinds" "[I", Cond.fieldLink RX5 18 "PartitionPlay$Schedule" "as" "[I", Cond.methodLink RX4 203 yX5_lateness, Cond.instanceMethod yX5_lateness, Cond.selects RX5 yX5_lateness yX5_lateness, Cond.code yX5_lateness cX5_lateness 4 (some .int), Cond.fieldLink RX5 21 "PartitionPlay$Schedule" "bs" "[I", Cond.methodLink RX4 209 yX0_add, Cond.instanceMethod yX0_add, Cond.selects RX0 yX0_add yX0_add, Cond.initialized RX0, Cond.code yX0_add cX0_add 3 none, Cond.fieldLink RX0 24 "PartitionPlay$Comings" "size" "I", Cond.fieldLink RX0 9 "PartitionPlay$Comings" "letters" "[I", Cond.fieldLink RX0 15 "PartitionPlay$Comings" "followers" "[I", Cond.fieldLink RX0 21 "PartitionPlay$Comings" "lasts" "[I", Cond.fieldLink RX0 18 "PartitionPlay$Comings" "firsts" "[I", Cond.methodLink RX4 211 yX4_postDoubles, Cond.instanceMethod yX4_postDoubles, Cond.selects RX4 yX4_postDoubles yX4_postDoubles, Cond.code yX4_postDoubles cX4_postDoubles 4 none, Cond.fieldLink RX4 102 "PartitionPlay$Schedule" "size" "I", Cond.fieldLink RX4 218 "PartitionPlay$Schedule" "bs" "[I", Cond.methodLink RX4 214 yX5_does]
def wsX4_sendLetters : List Cond := .code yX4_sendLetters cX4_sendLetters 5 none :: ((wsX4_sendLetters_r1 ++ (wsX4_sendLetters_r2 ++ (wsX4_sendLetters_r3 ++ wsX4_sendLetters_r4))) ++ wsX40 ++ wsX20 ++ wsX30 ++ wsX10 ++ wsX50 ++ wsX00)
def wsX6_place : List Cond := .code yX6_place cX6_place 2 (some .int) :: ([])
def wsX4_keepRecord_r1 : List Cond := [Cond.fieldLink RX4 37 "PartitionPlay$Play" "net" "LPartitionPlay$Net;", Cond.fieldLink RX4 156 "PartitionPlay$Net" "size" "I", Cond.fieldLink RX4 25 "PartitionPlay$Play" "heights" "[I", Cond.fieldLink RX4 54 "PartitionPlay$Play" "nodes" "LPartitionPlay$Nodes;", Cond.fieldLink RX4 171 "PartitionPlay$Nodes" "heights" "[I", Cond.fieldLink RX4 29 "PartitionPlay$Play" "held" "[Z", Cond.fieldLink RX4 33 "PartitionPlay$Play" "failedAt" "I", Cond.static yX6_place, Cond.initialized RX6, Cond.code yX6_place cX6_place 2 (some .int), Cond.methodLink RX4 224 yX3_keepTheRule, Cond.instanceMethod yX3_keepTheRule, Cond.selects RX3 yX3_keepTheRule yX3_keepTheRule, Cond.initialized RX3, Cond.code yX3_keepTheRule cX3_keepTheRule 3 (some .boolean), Cond.fieldLink RX3 28 "PartitionPlay$Nodes" "net" "LPartitionPlay$Net;", Cond.fieldLink RX3 38 "PartitionPlay$Net" "size" "I", Cond.fieldLink RX3 74 "PartitionPlay$Net" "behaviours" "[I", Cond.fieldLink RX3 9 "PartitionPlay$Nodes" "heights" "[I", Cond.methodLink RX3 62 Lib.Math.max.name, Cond.static Lib.Math.max.name, Cond.initialized "java/lang/Math", Cond.code Lib.Math.max.name Lib.Math.max.code 2 (some .int), Cond.methodLink RX3 77 yX3_noLowerThan]
def wsX4_keepRecord_r2 : List Cond := [Cond.instanceMethod yX3_noLowerThan, Cond.selects RX3 yX3_noLowerThan yX3_noLowerThan, Cond.code yX3_noLowerThan cX3_noLowerThan 4 (some .int), Cond.methodLink RX3 71 yX2_isMoreThanHalf, Cond.instanceMethod yX2_isMoreThanHalf, Cond.selects RX2 yX2_isMoreThanHalf yX2_isMoreThanHalf, Cond.initialized RX2, Cond.code yX2_isMoreThanHalf cX2_isMoreThanHalf 2 (some .boolean), Cond.fieldLink RX2 21 "PartitionPlay$Net" "size" "I"]
def wsX4_keepRecord : List Cond := .code yX4_keepRecord cX4_keepRecord 3 none :: ((wsX4_keepRecord_r1 ++ wsX4_keepRecord_r2) ++ wsX40 ++ wsX20 ++ wsX30)
def wsX4_run_r1 : List Cond := [Cond.fieldLink RX4 58 "PartitionPlay$Play" "turns" "I", Cond.fieldLink RX4 54 "PartitionPlay$Play" "nodes" "LPartitionPlay$Nodes;", Cond.fieldLink RX4 45 "PartitionPlay$Play" "stopsAtFailure" "Z", Cond.fieldLink RX4 33 "PartitionPlay$Play" "failedAt" "I", Cond.methodLink RX4 61 yX4_begin, Cond.instanceMethod yX4_begin, Cond.selects RX4 yX4_begin yX4_begin, Cond.initialized RX4, Cond.code yX4_begin cX4_begin 3 none, Cond.methodLink RX4 81 Lib.Math.min.name, Cond.static Lib.Math.min.name, Cond.initialized "java/lang/Math", Cond.code Lib.Math.min.name Lib.Math.min.code 2 (some .int), Cond.fieldLink RX4 87 "PartitionPlay$Play" "alsoLost" "I", Cond.fieldLink RX4 90 "PartitionPlay$Play" "taken" "I", Cond.fieldLink RX4 93 "PartitionPlay$Play" "gone" "I", Cond.fieldLink RX4 21 "PartitionPlay$Play" "letters" "LPartitionPlay$Letters;", Cond.fieldLink RX4 12 "PartitionPlay$Play" "comings" "LPartitionPlay$Comings;", Cond.methodLink RX4 96 yX1_clear, Cond.instanceMethod yX1_clear, Cond.selects RX1 yX1_clear yX1_clear, Cond.initialized RX1, Cond.code yX1_clear cX1_clear 1 none, Cond.fieldLink RX1 33 "PartitionPlay$Letters" "size" "I"]
def wsX4_run_r2 : List Cond := [Cond.fieldLink RX1 37 "PartitionPlay$Letters" "lost" "I", Cond.methodLink RX4 99 yX0_clear, Cond.instanceMethod yX0_clear, Cond.selects RX0 yX0_clear yX0_clear, Cond.initialized RX0, Cond.code yX0_clear cX0_clear 1 none, Cond.fieldLink RX0 24 "PartitionPlay$Comings" "size" "I", Cond.fieldLink RX0 18 "PartitionPlay$Comings" "firsts" "[I", Cond.fieldLink RX0 21 "PartitionPlay$Comings" "lasts" "[I", Cond.methodLink RX0 28 yJ7_fill_53178, Cond.static yJ7_fill_53178, Cond.initialized RJ7, Cond.code yJ7_fill_53178 cJ7_fill_53178 4 none, Cond.methodLink RX4 100 yX3_begin, Cond.instanceMethod yX3_begin, Cond.selects RX3 yX3_begin yX3_begin, Cond.initialized RX3, Cond.code yX3_begin cX3_begin 2 none, Cond.fieldLink RX3 25 "PartitionPlay$Nodes" "shown" "[I", Cond.fieldLink RX3 28 "PartitionPlay$Nodes" "net" "LPartitionPlay$Net;", Cond.fieldLink RX3 38 "PartitionPlay$Net" "size" "I", Cond.fieldLink RX3 9 "PartitionPlay$Nodes" "heights" "[I", Cond.fieldLink RX3 15 "PartitionPlay$Nodes" "known" "[I", Cond.fieldLink RX3 44 "PartitionPlay$Net" "rumours" "[I"]
def wsX4_run_r3 : List Cond := [Cond.fieldLink RX3 18 "PartitionPlay$Nodes" "up" "[Z", Cond.fieldLink RX3 22 "PartitionPlay$Nodes" "grew" "[Z", Cond.fieldLink RX3 47 "PartitionPlay$Nodes" "group" "I", Cond.methodLink RX3 32 yJ7_fill_53178, Cond.methodLink RX4 65 yX4_meetEvents, Cond.instanceMethod yX4_meetEvents, Cond.selects RX4 yX4_meetEvents yX4_meetEvents, Cond.code yX4_meetEvents cX4_meetEvents 3 none, Cond.fieldLink RX4 41 "PartitionPlay$Play" "schedule" "LPartitionPlay$Schedule;", Cond.fieldLink RX4 102 "PartitionPlay$Schedule" "size" "I", Cond.fieldLink RX4 111 "PartitionPlay$Schedule" "kinds" "[I", Cond.fieldLink RX4 114 "PartitionPlay$Schedule" "as" "[I", Cond.methodLink RX4 107 yX5_happensAt, Cond.instanceMethod yX5_happensAt, Cond.selects RX5 yX5_happensAt yX5_happensAt, Cond.initialized RX5, Cond.code yX5_happensAt cX5_happensAt 3 (some .boolean), Cond.fieldLink RX5 24 "PartitionPlay$Schedule" "leftOut" "[Z", Cond.fieldLink RX5 9 "PartitionPlay$Schedule" "kinds" "[I", Cond.fieldLink RX5 15 "PartitionPlay$Schedule" "turns" "[I", Cond.static yX6_isTimed, Cond.initialized RX6, Cond.code yX6_isTimed cX6_isTimed 1 (some .boolean), Cond.methodLink RX4 117 yX3_meet]
def wsX4_run_r4 : List Cond := [Cond.instanceMethod yX3_meet, Cond.selects RX3 yX3_meet yX3_meet, Cond.code yX3_meet cX3_meet 3 none, Cond.methodLink RX3 50 yX2_has, Cond.instanceMethod yX2_has, Cond.selects RX2 yX2_has yX2_has, Cond.initialized RX2, Cond.code yX2_has cX2_has 2 (some .boolean), Cond.fieldLink RX2 21 "PartitionPlay$Net" "size" "I", Cond.methodLink RX3 54 yX3_forgetShown, Cond.instanceMethod yX3_forgetShown, Cond.selects RX3 yX3_forgetShown yX3_forgetShown, Cond.code yX3_forgetShown cX3_forgetShown 3 none, Cond.static yX6_pair, Cond.code yX6_pair cX6_pair 2 (some .int), Cond.methodLink RX4 69 yX4_takeInComings, Cond.instanceMethod yX4_takeInComings, Cond.selects RX4 yX4_takeInComings yX4_takeInComings, Cond.code yX4_takeInComings cX4_takeInComings 4 none, Cond.methodLink RX4 120 yX0_firstAt, Cond.instanceMethod yX0_firstAt, Cond.selects RX0 yX0_firstAt yX0_firstAt, Cond.code yX0_firstAt cX0_firstAt 2 (some .int), Cond.static yX6_isTurn]
def wsX4_run_r5 : List Cond := [Cond.code yX6_isTurn cX6_isTurn 1 (some .boolean), Cond.methodLink RX4 124 yX0_letterOf, Cond.instanceMethod yX0_letterOf, Cond.selects RX0 yX0_letterOf yX0_letterOf, Cond.code yX0_letterOf cX0_letterOf 2 (some .int), Cond.fieldLink RX0 9 "PartitionPlay$Comings" "letters" "[I", Cond.methodLink RX0 38 yX0_has, Cond.instanceMethod yX0_has, Cond.selects RX0 yX0_has yX0_has, Cond.code yX0_has cX0_has 2 (some .boolean), Cond.methodLink RX4 127 yX4_takeIn, Cond.instanceMethod yX4_takeIn, Cond.selects RX4 yX4_takeIn yX4_takeIn, Cond.code yX4_takeIn cX4_takeIn 4 none, Cond.fieldLink RX4 137 "PartitionPlay$Letters" "senders" "[I", Cond.fieldLink RX4 140 "PartitionPlay$Letters" "receivers" "[I", Cond.fieldLink RX4 146 "PartitionPlay$Letters" "heights" "[I", Cond.fieldLink RX4 147 "PartitionPlay$Letters" "rumours" "[I", Cond.fieldLink RX4 153 "PartitionPlay$Letters" "takenIn" "[I", Cond.methodLink RX4 133 yX1_has, Cond.instanceMethod yX1_has, Cond.selects RX1 yX1_has yX1_has, Cond.code yX1_has cX1_has 2 (some .boolean), Cond.methodLink RX4 143 yX3_canReach]
def wsX4_run_r6 : List Cond := [Cond.instanceMethod yX3_canReach, Cond.selects RX3 yX3_canReach yX3_canReach, Cond.code yX3_canReach cX3_canReach 3 (some .boolean), Cond.methodLink RX4 150 yX3_takeIn, Cond.instanceMethod yX3_takeIn, Cond.selects RX3 yX3_takeIn yX3_takeIn, Cond.code yX3_takeIn cX3_takeIn 6 none, Cond.methodLink RX3 62 Lib.Math.max.name, Cond.static Lib.Math.max.name, Cond.code Lib.Math.max.name Lib.Math.max.code 2 (some .int), Cond.methodLink RX4 130 yX0_behind, Cond.instanceMethod yX0_behind, Cond.selects RX0 yX0_behind yX0_behind, Cond.code yX0_behind cX0_behind 2 (some .int), Cond.fieldLink RX0 15 "PartitionPlay$Comings" "followers" "[I", Cond.methodLink RX4 72 yX3_grow, Cond.instanceMethod yX3_grow, Cond.selects RX3 yX3_grow yX3_grow, Cond.code yX3_grow cX3_grow 2 none, Cond.methodLink RX3 67 yX3_thatShowedEnoughTo, Cond.instanceMethod yX3_thatShowedEnoughTo, Cond.selects RX3 yX3_thatShowedEnoughTo yX3_thatShowedEnoughTo, Cond.code yX3_thatShowedEnoughTo cX3_thatShowedEnoughTo 4 (some .int), Cond.methodLink RX3 71 yX2_isMoreThanHalf]
def wsX4_run_r7 : List Cond := [Cond.instanceMethod yX2_isMoreThanHalf, Cond.selects RX2 yX2_isMoreThanHalf yX2_isMoreThanHalf, Cond.code yX2_isMoreThanHalf cX2_isMoreThanHalf 2 (some .boolean), Cond.methodLink RX4 75 yX4_sendLetters, Cond.instanceMethod yX4_sendLetters, Cond.selects RX4 yX4_sendLetters yX4_sendLetters, Cond.code yX4_sendLetters cX4_sendLetters 5 none, Cond.fieldLink RX4 37 "PartitionPlay$Play" "net" "LPartitionPlay$Net;", Cond.fieldLink RX4 156 "PartitionPlay$Net" "size" "I", Cond.fieldLink RX4 159 "PartitionPlay$Nodes" "up" "[Z", Cond.fieldLink RX4 162 "PartitionPlay$Net" "behaviours" "[I", Cond.fieldLink RX4 165 "PartitionPlay$Nodes" "grew" "[Z", Cond.methodLink RX4 168 yX4_sendFrom, Cond.instanceMethod yX4_sendFrom, Cond.selects RX4 yX4_sendFrom yX4_sendFrom, Cond.code yX4_sendFrom cX4_sendFrom 6 none, Cond.fieldLink RX4 171 "PartitionPlay$Nodes" "heights" "[I", Cond.fieldLink RX4 175 "PartitionPlay$Nodes" "known" "[I", Cond.fieldLink RX4 182 "PartitionPlay$Net" "delays" "[I", Cond.methodLink RX4 172 yX2_heightSaid, Cond.instanceMethod yX2_heightSaid, Cond.selects RX2 yX2_heightSaid yX2_heightSaid, Cond.code yX2_heightSaid cX2_heightSaid 3 (some .int), Cond.fieldLink RX2 9 "PartitionPlay$Net" "behaviours" "[I"]
def wsX4_run_r8 : List Cond := [Cond.methodLink RX4 178 yX1_add, Cond.instanceMethod yX1_add, Cond.selects RX1 yX1_add yX1_add, Cond.code yX1_add cX1_add 6 (some .int), Cond.fieldLink RX1 9 "PartitionPlay$Letters" "senders" "[I", Cond.fieldLink RX1 15 "PartitionPlay$Letters" "receivers" "[I", Cond.fieldLink RX1 18 "PartitionPlay$Letters" "turns" "[I", Cond.fieldLink RX1 21 "PartitionPlay$Letters" "heights" "[I", Cond.fieldLink RX1 24 "PartitionPlay$Letters" "rumours" "[I", Cond.fieldLink RX1 27 "PartitionPlay$Letters" "firstComings" "[I", Cond.fieldLink RX1 30 "PartitionPlay$Letters" "takenIn" "[I", Cond.methodLink RX4 188 yX4_post, Cond.instanceMethod yX4_post, Cond.selects RX4 yX4_post yX4_post, Cond.code yX4_post cX4_post 5 none, Cond.fieldLink RX4 200 "PartitionPlay$Letters" "lost" "I", Cond.fieldLink RX4 206 "PartitionPlay$Letters" "firstComings" "[I", Cond.methodLink RX4 191 yX5_names, Cond.instanceMethod yX5_names, Cond.selects RX5 yX5_names yX5_names, Cond.code yX5_names cX5_names 2 (some .boolean), Cond.fieldLink RX5 28 "PartitionPlay$Schedule" "namings" "[I", Cond.static yX6_isLetter, Cond.code yX6_isLetter cX6_isLetter 1 (some .boolean)]
def wsX4_run_r9 : List Cond := [Cond.methodLink RX4 194 yX4_isAlsoLost, Cond.instanceMethod yX4_isAlsoLost, Cond.selects RX4 yX4_isAlsoLost yX4_isAlsoLost, Cond.code yX4_isAlsoLost cX4_isAlsoLost 2 (some .boolean), Cond.methodLink RX4 197 yX5_loses, Cond.instanceMethod yX5_loses, Cond.selects RX5 yX5_loses yX5_loses, Cond.code yX5_loses cX5_loses 3 (some .boolean), Cond.fieldLink RX5 31 "PartitionPlay$Schedule" "size" "I", Cond.methodLink RX5 56 yX5_does, Cond.instanceMethod yX5_does, Cond.selects RX5 yX5_does yX5_does, Cond.code yX5_does cX5_does 4 (some .boolean), Cond.fieldLink RX5 18 "PartitionPlay$Schedule" "as" "[I", Cond.methodLink RX4 203 yX5_lateness, Cond.instanceMethod yX5_lateness, Cond.selects RX5 yX5_lateness yX5_lateness, Cond.code yX5_lateness cX5_lateness 4 (some .int), Cond.fieldLink RX5 21 "PartitionPlay$Schedule" "bs" "[I", Cond.methodLink RX4 209 yX0_add, Cond.instanceMethod yX0_add, Cond.selects RX0 yX0_add yX0_add, Cond.code yX0_add cX0_add 3 none, Cond.methodLink RX4 211 yX4_postDoubles]
def wsX4_run_r10 : List Cond := [Cond.instanceMethod yX4_postDoubles, Cond.selects RX4 yX4_postDoubles yX4_postDoubles, Cond.code yX4_postDoubles cX4_postDoubles 4 none, Cond.fieldLink RX4 218 "PartitionPlay$Schedule" "bs" "[I", Cond.methodLink RX4 214 yX5_does, Cond.methodLink RX4 78 yX4_keepRecord, Cond.instanceMethod yX4_keepRecord, Cond.selects RX4 yX4_keepRecord yX4_keepRecord, Cond.code yX4_keepRecord cX4_keepRecord 3 none, Cond.fieldLink RX4 25 "PartitionPlay$Play" "heights" "[I", Cond.fieldLink RX4 29 "PartitionPlay$Play" "held" "[Z", Cond.static yX6_place, Cond.code yX6_place cX6_place 2 (some .int), Cond.methodLink RX4 224 yX3_keepTheRule, Cond.instanceMethod yX3_keepTheRule, Cond.selects RX3 yX3_keepTheRule yX3_keepTheRule, Cond.code yX3_keepTheRule cX3_keepTheRule 3 (some .boolean), Cond.fieldLink RX3 74 "PartitionPlay$Net" "behaviours" "[I", Cond.methodLink RX3 77 yX3_noLowerThan, Cond.instanceMethod yX3_noLowerThan, Cond.selects RX3 yX3_noLowerThan yX3_noLowerThan, Cond.code yX3_noLowerThan cX3_noLowerThan 4 (some .int)]
def wsX4_run : List Cond := .code yX4_run cX4_run 4 (some .boolean) :: ((wsX4_run_r1 ++ (wsX4_run_r2 ++ (wsX4_run_r3 ++ (wsX4_run_r4 ++ (wsX4_run_r5 ++ (wsX4_run_r6 ++ (wsX4_run_r7 ++ (wsX4_run_r8 ++ (wsX4_run_r9 ++ wsX4_run_r10))))))))) ++ wsX40 ++ wsX10 ++ wsX00 ++ wsX30 ++ wsX20 ++ wsX50)
def wsX5_init : List Cond := .code yX5_init cX5_init 1 none :: ([.methodLink RX5 3 objectInit, .instanceMethod objectInit, .code objectInit ⟨#[0xb1]⟩ 1 none, .arrayClass .int, .fieldLink RX5 9 "PartitionPlay$Schedule" "kinds" "[I", .fieldLink RX5 15 "PartitionPlay$Schedule" "turns" "[I", .fieldLink RX5 18 "PartitionPlay$Schedule" "as" "[I", .fieldLink RX5 21 "PartitionPlay$Schedule" "bs" "[I", .arrayClass .boolean, .fieldLink RX5 24 "PartitionPlay$Schedule" "leftOut" "[Z", .fieldLink RX5 28 "PartitionPlay$Schedule" "namings" "[I"] ++ wsX50)
def wsX5_has : List Cond := .code yX5_has cX5_has 2 (some .boolean) :: ([.fieldLink RX5 31 "PartitionPlay$Schedule" "size" "I"] ++ wsX50)
def wsX6_namesLetter : List Cond := .code yX6_namesLetter cX6_namesLetter 1 (some .boolean) :: ([])
def wsX5_countNaming : List Cond := .code yX5_countNaming cX5_countNaming 3 none :: ([.fieldLink RX5 9 "PartitionPlay$Schedule" "kinds" "[I", .fieldLink RX5 18 "PartitionPlay$Schedule" "as" "[I", .fieldLink RX5 28 "PartitionPlay$Schedule" "namings" "[I", .static yX6_namesLetter, .initialized RX6, .code yX6_namesLetter cX6_namesLetter 1 (some .boolean), .static yX6_isLetter, .code yX6_isLetter cX6_isLetter 1 (some .boolean)] ++ wsX50)
def wsX5_add : List Cond := .code yX5_add cX5_add 5 (some .int) :: ([.fieldLink RX5 31 "PartitionPlay$Schedule" "size" "I", .fieldLink RX5 9 "PartitionPlay$Schedule" "kinds" "[I", .fieldLink RX5 15 "PartitionPlay$Schedule" "turns" "[I", .fieldLink RX5 18 "PartitionPlay$Schedule" "as" "[I", .fieldLink RX5 21 "PartitionPlay$Schedule" "bs" "[I", .fieldLink RX5 24 "PartitionPlay$Schedule" "leftOut" "[Z", .methodLink RX5 35 yX5_countNaming, .instanceMethod yX5_countNaming, .selects RX5 yX5_countNaming yX5_countNaming, .initialized RX5, .code yX5_countNaming cX5_countNaming 3 none, .fieldLink RX5 28 "PartitionPlay$Schedule" "namings" "[I", .static yX6_namesLetter, .initialized RX6, .code yX6_namesLetter cX6_namesLetter 1 (some .boolean), .static yX6_isLetter, .code yX6_isLetter cX6_isLetter 1 (some .boolean)] ++ wsX50)
def wsX5_remove : List Cond := .code yX5_remove cX5_remove 3 none :: ([.fieldLink RX5 31 "PartitionPlay$Schedule" "size" "I", .fieldLink RX5 9 "PartitionPlay$Schedule" "kinds" "[I", .fieldLink RX5 15 "PartitionPlay$Schedule" "turns" "[I", .fieldLink RX5 18 "PartitionPlay$Schedule" "as" "[I", .fieldLink RX5 21 "PartitionPlay$Schedule" "bs" "[I", .fieldLink RX5 24 "PartitionPlay$Schedule" "leftOut" "[Z", .methodLink RX5 39 yX5_has, .instanceMethod yX5_has, .selects RX5 yX5_has yX5_has, .initialized RX5, .code yX5_has cX5_has 2 (some .boolean), .methodLink RX5 35 yX5_countNaming, .instanceMethod yX5_countNaming, .selects RX5 yX5_countNaming yX5_countNaming, .code yX5_countNaming cX5_countNaming 3 none, .fieldLink RX5 28 "PartitionPlay$Schedule" "namings" "[I", .static yX6_namesLetter, .initialized RX6, .code yX6_namesLetter cX6_namesLetter 1 (some .boolean), .static yX6_isLetter, .code yX6_isLetter cX6_isLetter 1 (some .boolean)] ++ wsX50)
def wsX5_removeLeftOut_r1 : List Cond := [Cond.fieldLink RX5 31 "PartitionPlay$Schedule" "size" "I", Cond.fieldLink RX5 24 "PartitionPlay$Schedule" "leftOut" "[Z", Cond.methodLink RX5 43 yX5_remove, Cond.instanceMethod yX5_remove, Cond.selects RX5 yX5_remove yX5_remove, Cond.initialized RX5, Cond.code yX5_remove cX5_remove 3 none, Cond.fieldLink RX5 9 "PartitionPlay$Schedule" "kinds" "[I", Cond.fieldLink RX5 15 "PartitionPlay$Schedule" "turns" "[I", Cond.fieldLink RX5 18 "PartitionPlay$Schedule" "as" "[I", Cond.fieldLink RX5 21 "PartitionPlay$Schedule" "bs" "[I", Cond.methodLink RX5 39 yX5_has, Cond.instanceMethod yX5_has, Cond.selects RX5 yX5_has yX5_has, Cond.code yX5_has cX5_has 2 (some .boolean), Cond.methodLink RX5 35 yX5_countNaming, Cond.instanceMethod yX5_countNaming, Cond.selects RX5 yX5_countNaming yX5_countNaming, Cond.code yX5_countNaming cX5_countNaming 3 none, Cond.fieldLink RX5 28 "PartitionPlay$Schedule" "namings" "[I", Cond.static yX6_namesLetter, Cond.initialized RX6, Cond.code yX6_namesLetter cX6_namesLetter 1 (some .boolean), Cond.static yX6_isLetter]
def wsX5_removeLeftOut_r2 : List Cond := [Cond.code yX6_isLetter cX6_isLetter 1 (some .boolean)]
def wsX5_removeLeftOut : List Cond := .code yX5_removeLeftOut cX5_removeLeftOut 2 none :: ((wsX5_removeLeftOut_r1 ++ wsX5_removeLeftOut_r2) ++ wsX50)
def wsX6_init_r1 : List Cond := [Cond.methodLink RX6 3 objectInit, Cond.instanceMethod objectInit, Cond.code objectInit ⟨#[0xb1]⟩ 1 none, Cond.classLink RX6 9 RX2, Cond.instantiable RX2 4, Cond.initialized RX2, Cond.methodLink RX6 11 Lib.Math.min.name, Cond.static Lib.Math.min.name, Cond.initialized "java/lang/Math", Cond.code Lib.Math.min.name Lib.Math.min.code 2 (some .int), Cond.methodLink RX6 17 Lib.Math.max.name, Cond.static Lib.Math.max.name, Cond.code Lib.Math.max.name Lib.Math.max.code 2 (some .int), Cond.fieldLink RX6 23 "PartitionPlay" "net" "LPartitionPlay$Net;", Cond.classLink RX6 27 RX5, Cond.instantiable RX5 7, Cond.initialized RX5, Cond.fieldLink RX6 30 "PartitionPlay" "schedule" "LPartitionPlay$Schedule;", Cond.classLink RX6 34 RX4, Cond.instantiable RX4 13, Cond.initialized RX4, Cond.fieldLink RX6 39 "PartitionPlay" "shownPlay" "LPartitionPlay$Play;", Cond.fieldLink RX6 43 "PartitionPlay" "trial" "LPartitionPlay$Play;", Cond.methodLink RX6 20 yX2_init]
def wsX6_init_r2 : List Cond := [Cond.instanceMethod yX2_init, Cond.code yX2_init cX2_init 2 none, Cond.methodLink RX2 3 objectInit, Cond.arrayClass .int, Cond.fieldLink RX2 9 "PartitionPlay$Net" "behaviours" "[I", Cond.fieldLink RX2 15 "PartitionPlay$Net" "delays" "[I", Cond.fieldLink RX2 18 "PartitionPlay$Net" "rumours" "[I", Cond.fieldLink RX2 21 "PartitionPlay$Net" "size" "I", Cond.methodLink RX2 25 yJ7_fill_53178, Cond.static yJ7_fill_53178, Cond.initialized RJ7, Cond.code yJ7_fill_53178 cJ7_fill_53178 4 none, Cond.instanceMethod yX5_init, Cond.code yX5_init cX5_init 1 none, Cond.methodLink RX5 3 objectInit, Cond.fieldLink RX5 9 "PartitionPlay$Schedule" "kinds" "[I", Cond.fieldLink RX5 15 "PartitionPlay$Schedule" "turns" "[I", Cond.fieldLink RX5 18 "PartitionPlay$Schedule" "as" "[I", Cond.fieldLink RX5 21 "PartitionPlay$Schedule" "bs" "[I", Cond.arrayClass .boolean, Cond.fieldLink RX5 24 "PartitionPlay$Schedule" "leftOut" "[Z", Cond.fieldLink RX5 28 "PartitionPlay$Schedule" "namings" "[I", Cond.methodLink RX6 36 yX4_init, Cond.instanceMethod yX4_init]
def wsX6_init_r3 : List Cond := [Cond.code yX4_init cX4_init 4 none, Cond.methodLink RX4 3 objectInit, Cond.classLink RX4 9 RX0, Cond.instantiable RX0 5, Cond.initialized RX0, Cond.fieldLink RX4 12 "PartitionPlay$Play" "comings" "LPartitionPlay$Comings;", Cond.classLink RX4 18 RX1, Cond.instantiable RX1 9, Cond.initialized RX1, Cond.fieldLink RX4 21 "PartitionPlay$Play" "letters" "LPartitionPlay$Letters;", Cond.fieldLink RX4 25 "PartitionPlay$Play" "heights" "[I", Cond.fieldLink RX4 29 "PartitionPlay$Play" "held" "[Z", Cond.fieldLink RX4 33 "PartitionPlay$Play" "failedAt" "I", Cond.fieldLink RX4 37 "PartitionPlay$Play" "net" "LPartitionPlay$Net;", Cond.fieldLink RX4 41 "PartitionPlay$Play" "schedule" "LPartitionPlay$Schedule;", Cond.fieldLink RX4 45 "PartitionPlay$Play" "stopsAtFailure" "Z", Cond.classLink RX4 49 RX3, Cond.instantiable RX3 7, Cond.initialized RX3, Cond.fieldLink RX4 54 "PartitionPlay$Play" "nodes" "LPartitionPlay$Nodes;", Cond.instanceMethod yX0_init, Cond.code yX0_init cX0_init 1 none, Cond.methodLink RX0 3 objectInit, Cond.fieldLink RX0 9 "PartitionPlay$Comings" "letters" "[I"]
def wsX6_init_r4 : List Cond := [Cond.fieldLink RX0 15 "PartitionPlay$Comings" "followers" "[I", Cond.fieldLink RX0 18 "PartitionPlay$Comings" "firsts" "[I", Cond.fieldLink RX0 21 "PartitionPlay$Comings" "lasts" "[I", Cond.instanceMethod yX1_init, Cond.code yX1_init cX1_init 1 none, Cond.methodLink RX1 3 objectInit, Cond.fieldLink RX1 9 "PartitionPlay$Letters" "senders" "[I", Cond.fieldLink RX1 15 "PartitionPlay$Letters" "receivers" "[I", Cond.fieldLink RX1 18 "PartitionPlay$Letters" "turns" "[I", Cond.fieldLink RX1 21 "PartitionPlay$Letters" "heights" "[I", Cond.fieldLink RX1 24 "PartitionPlay$Letters" "rumours" "[I", Cond.fieldLink RX1 27 "PartitionPlay$Letters" "firstComings" "[I", Cond.fieldLink RX1 30 "PartitionPlay$Letters" "takenIn" "[I", Cond.methodLink RX4 51 yX3_init, Cond.instanceMethod yX3_init, Cond.code yX3_init cX3_init 2 none, Cond.methodLink RX3 3 objectInit, Cond.fieldLink RX3 9 "PartitionPlay$Nodes" "heights" "[I", Cond.fieldLink RX3 15 "PartitionPlay$Nodes" "known" "[I", Cond.fieldLink RX3 18 "PartitionPlay$Nodes" "up" "[Z", Cond.fieldLink RX3 22 "PartitionPlay$Nodes" "grew" "[Z", Cond.fieldLink RX3 25 "PartitionPlay$Nodes" "shown" "[I", Cond.fieldLink RX3 28 "PartitionPlay$Nodes" "net" "LPartitionPlay$Net;"]
def wsX6_init : List Cond := .code yX6_init cX6_init 2 none :: ((wsX6_init_r1 ++ (wsX6_init_r2 ++ (wsX6_init_r3 ++ wsX6_init_r4))) ++ wsX20 ++ wsX60 ++ wsX50 ++ wsX40 ++ wsX00 ++ wsX10 ++ wsX30)
def wsX6_behaviour : List Cond := .code yX6_behaviour cX6_behaviour 4 (some .int) :: ([.fieldLink RX6 23 "PartitionPlay" "net" "LPartitionPlay$Net;", .fieldLink RX6 50 "PartitionPlay$Net" "behaviours" "[I", .methodLink RX6 46 yX2_has, .instanceMethod yX2_has, .selects RX2 yX2_has yX2_has, .initialized RX2, .code yX2_has cX2_has 2 (some .boolean), .fieldLink RX2 21 "PartitionPlay$Net" "size" "I"] ++ wsX60 ++ wsX20)
def wsX6_isWait : List Cond := .code yX6_isWait cX6_isWait 1 (some .boolean) :: ([])
def wsX6_delay : List Cond := .code yX6_delay cX6_delay 5 (some .int) :: ([.fieldLink RX6 23 "PartitionPlay" "net" "LPartitionPlay$Net;", .fieldLink RX6 57 "PartitionPlay$Net" "delays" "[I", .methodLink RX6 46 yX2_has, .instanceMethod yX2_has, .selects RX2 yX2_has yX2_has, .initialized RX2, .code yX2_has cX2_has 2 (some .boolean), .fieldLink RX2 21 "PartitionPlay$Net" "size" "I", .methodLink RX6 54 yX6_isWait, .static yX6_isWait, .initialized RX6, .code yX6_isWait cX6_isWait 1 (some .boolean), .methodLink RX6 60 yX6_pair, .static yX6_pair, .code yX6_pair cX6_pair 2 (some .int)] ++ wsX60 ++ wsX20)
def wsX6_isRumour : List Cond := .code yX6_isRumour cX6_isRumour 1 (some .boolean) :: ([])
def wsX6_tell : List Cond := .code yX6_tell cX6_tell 3 (some .int) :: ([.fieldLink RX6 23 "PartitionPlay" "net" "LPartitionPlay$Net;", .fieldLink RX6 66 "PartitionPlay$Net" "rumours" "[I", .methodLink RX6 46 yX2_has, .instanceMethod yX2_has, .selects RX2 yX2_has yX2_has, .initialized RX2, .code yX2_has cX2_has 2 (some .boolean), .fieldLink RX2 21 "PartitionPlay$Net" "size" "I", .methodLink RX6 63 yX6_isRumour, .static yX6_isRumour, .initialized RX6, .code yX6_isRumour cX6_isRumour 1 (some .boolean), .methodLink RX6 69 yJ6_bitCount_0f7a4, .static yJ6_bitCount_0f7a4, .initialized RJ6, .code yJ6_bitCount_0f7a4 cJ6_bitCount_0f7a4 1 (some .int), .constant RJ6 265 (1431655765), .constant RJ6 266 (858993459), .constant RJ6 267 (252645135)] ++ wsX60 ++ wsX20)
def wsX6_namesNode : List Cond := .code yX6_namesNode cX6_namesNode 1 (some .boolean) :: ([])
def wsX6_hasWait : List Cond := .code yX6_hasWait cX6_hasWait 1 (some .boolean) :: ([])
def wsX6_event_r1 : List Cond := [Cond.fieldLink RX6 23 "PartitionPlay" "net" "LPartitionPlay$Net;", Cond.fieldLink RX6 30 "PartitionPlay" "schedule" "LPartitionPlay$Schedule;", Cond.methodLink RX6 75 yX6_namesNode, Cond.static yX6_namesNode, Cond.initialized RX6, Cond.code yX6_namesNode cX6_namesNode 1 (some .boolean), Cond.methodLink RX6 46 yX2_has, Cond.instanceMethod yX2_has, Cond.selects RX2 yX2_has yX2_has, Cond.initialized RX2, Cond.code yX2_has cX2_has 2 (some .boolean), Cond.fieldLink RX2 21 "PartitionPlay$Net" "size" "I", Cond.methodLink RX6 78 yX6_isTimed, Cond.static yX6_isTimed, Cond.code yX6_isTimed cX6_isTimed 1 (some .boolean), Cond.methodLink RX6 81 yX6_isTurn, Cond.static yX6_isTurn, Cond.code yX6_isTurn cX6_isTurn 1 (some .boolean), Cond.methodLink RX6 84 yX2_hasAllOf, Cond.instanceMethod yX2_hasAllOf, Cond.selects RX2 yX2_hasAllOf yX2_hasAllOf, Cond.code yX2_hasAllOf cX2_hasAllOf 2 (some .boolean), Cond.methodLink RX6 87 yX6_namesLetter, Cond.static yX6_namesLetter]
def wsX6_event_r2 : List Cond := [Cond.code yX6_namesLetter cX6_namesLetter 1 (some .boolean), Cond.methodLink RX6 90 yX6_isLetter, Cond.static yX6_isLetter, Cond.code yX6_isLetter cX6_isLetter 1 (some .boolean), Cond.methodLink RX6 93 yX6_hasWait, Cond.static yX6_hasWait, Cond.code yX6_hasWait cX6_hasWait 1 (some .boolean), Cond.methodLink RX6 54 yX6_isWait, Cond.static yX6_isWait, Cond.code yX6_isWait cX6_isWait 1 (some .boolean), Cond.methodLink RX6 96 yX5_add, Cond.instanceMethod yX5_add, Cond.selects RX5 yX5_add yX5_add, Cond.initialized RX5, Cond.code yX5_add cX5_add 5 (some .int), Cond.fieldLink RX5 31 "PartitionPlay$Schedule" "size" "I", Cond.fieldLink RX5 9 "PartitionPlay$Schedule" "kinds" "[I", Cond.fieldLink RX5 15 "PartitionPlay$Schedule" "turns" "[I", Cond.fieldLink RX5 18 "PartitionPlay$Schedule" "as" "[I", Cond.fieldLink RX5 21 "PartitionPlay$Schedule" "bs" "[I", Cond.fieldLink RX5 24 "PartitionPlay$Schedule" "leftOut" "[Z", Cond.methodLink RX5 35 yX5_countNaming, Cond.instanceMethod yX5_countNaming, Cond.selects RX5 yX5_countNaming yX5_countNaming]
def wsX6_event_r3 : List Cond := [Cond.code yX5_countNaming cX5_countNaming 3 none, Cond.fieldLink RX5 28 "PartitionPlay$Schedule" "namings" "[I"]
def wsX6_event : List Cond := .code yX6_event cX6_event 5 (some .int) :: ((wsX6_event_r1 ++ (wsX6_event_r2 ++ wsX6_event_r3)) ++ wsX60 ++ wsX20 ++ wsX50)
def wsX6_drop_r1 : List Cond := [Cond.fieldLink RX6 30 "PartitionPlay" "schedule" "LPartitionPlay$Schedule;", Cond.fieldLink RX6 104 "PartitionPlay$Schedule" "size" "I", Cond.methodLink RX6 100 yX5_has, Cond.instanceMethod yX5_has, Cond.selects RX5 yX5_has yX5_has, Cond.initialized RX5, Cond.code yX5_has cX5_has 2 (some .boolean), Cond.fieldLink RX5 31 "PartitionPlay$Schedule" "size" "I", Cond.methodLink RX6 101 yX5_remove, Cond.instanceMethod yX5_remove, Cond.selects RX5 yX5_remove yX5_remove, Cond.code yX5_remove cX5_remove 3 none, Cond.fieldLink RX5 9 "PartitionPlay$Schedule" "kinds" "[I", Cond.fieldLink RX5 15 "PartitionPlay$Schedule" "turns" "[I", Cond.fieldLink RX5 18 "PartitionPlay$Schedule" "as" "[I", Cond.fieldLink RX5 21 "PartitionPlay$Schedule" "bs" "[I", Cond.fieldLink RX5 24 "PartitionPlay$Schedule" "leftOut" "[Z", Cond.methodLink RX5 39 yX5_has, Cond.methodLink RX5 35 yX5_countNaming, Cond.instanceMethod yX5_countNaming, Cond.selects RX5 yX5_countNaming yX5_countNaming, Cond.code yX5_countNaming cX5_countNaming 3 none, Cond.fieldLink RX5 28 "PartitionPlay$Schedule" "namings" "[I", Cond.static yX6_namesLetter]
def wsX6_drop_r2 : List Cond := [Cond.initialized RX6, Cond.code yX6_namesLetter cX6_namesLetter 1 (some .boolean), Cond.static yX6_isLetter, Cond.code yX6_isLetter cX6_isLetter 1 (some .boolean)]
def wsX6_drop : List Cond := .code yX6_drop cX6_drop 2 (some .int) :: ((wsX6_drop_r1 ++ wsX6_drop_r2) ++ wsX60 ++ wsX50)
def wsX6_told : List Cond := .code yX6_told cX6_told 3 (some .int) :: ([.fieldLink RX6 30 "PartitionPlay" "schedule" "LPartitionPlay$Schedule;", .fieldLink RX6 108 "PartitionPlay$Schedule" "kinds" "[I", .fieldLink RX6 111 "PartitionPlay$Schedule" "turns" "[I", .fieldLink RX6 114 "PartitionPlay$Schedule" "as" "[I", .fieldLink RX6 117 "PartitionPlay$Schedule" "bs" "[I", .methodLink RX6 100 yX5_has, .instanceMethod yX5_has, .selects RX5 yX5_has yX5_has, .initialized RX5, .code yX5_has cX5_has 2 (some .boolean), .fieldLink RX5 31 "PartitionPlay$Schedule" "size" "I"] ++ wsX60 ++ wsX50)
def wsX6_play_r1 : List Cond := [Cond.fieldLink RX6 39 "PartitionPlay" "shownPlay" "LPartitionPlay$Play;", Cond.fieldLink RX6 124 "PartitionPlay$Play" "nodes" "LPartitionPlay$Nodes;", Cond.methodLink RX6 120 yX4_run, Cond.instanceMethod yX4_run, Cond.selects RX4 yX4_run yX4_run, Cond.initialized RX4, Cond.code yX4_run cX4_run 4 (some .boolean), Cond.fieldLink RX4 58 "PartitionPlay$Play" "turns" "I", Cond.fieldLink RX4 54 "PartitionPlay$Play" "nodes" "LPartitionPlay$Nodes;", Cond.fieldLink RX4 45 "PartitionPlay$Play" "stopsAtFailure" "Z", Cond.fieldLink RX4 33 "PartitionPlay$Play" "failedAt" "I", Cond.methodLink RX4 61 yX4_begin, Cond.instanceMethod yX4_begin, Cond.selects RX4 yX4_begin yX4_begin, Cond.code yX4_begin cX4_begin 3 none, Cond.methodLink RX4 81 Lib.Math.min.name, Cond.static Lib.Math.min.name, Cond.initialized "java/lang/Math", Cond.code Lib.Math.min.name Lib.Math.min.code 2 (some .int), Cond.fieldLink RX4 87 "PartitionPlay$Play" "alsoLost" "I", Cond.fieldLink RX4 90 "PartitionPlay$Play" "taken" "I", Cond.fieldLink RX4 93 "PartitionPlay$Play" "gone" "I", Cond.fieldLink RX4 21 "PartitionPlay$Play" "letters" "LPartitionPlay$Letters;", Cond.fieldLink RX4 12 "PartitionPlay$Play" "comings" "LPartitionPlay$Comings;"]
def wsX6_play_r2 : List Cond := [Cond.methodLink RX4 96 yX1_clear, Cond.instanceMethod yX1_clear, Cond.selects RX1 yX1_clear yX1_clear, Cond.initialized RX1, Cond.code yX1_clear cX1_clear 1 none, Cond.fieldLink RX1 33 "PartitionPlay$Letters" "size" "I", Cond.fieldLink RX1 37 "PartitionPlay$Letters" "lost" "I", Cond.methodLink RX4 99 yX0_clear, Cond.instanceMethod yX0_clear, Cond.selects RX0 yX0_clear yX0_clear, Cond.initialized RX0, Cond.code yX0_clear cX0_clear 1 none, Cond.fieldLink RX0 24 "PartitionPlay$Comings" "size" "I", Cond.fieldLink RX0 18 "PartitionPlay$Comings" "firsts" "[I", Cond.fieldLink RX0 21 "PartitionPlay$Comings" "lasts" "[I", Cond.methodLink RX0 28 yJ7_fill_53178, Cond.static yJ7_fill_53178, Cond.initialized RJ7, Cond.code yJ7_fill_53178 cJ7_fill_53178 4 none, Cond.methodLink RX4 100 yX3_begin, Cond.instanceMethod yX3_begin, Cond.selects RX3 yX3_begin yX3_begin, Cond.initialized RX3, Cond.code yX3_begin cX3_begin 2 none]
def wsX6_play_r3 : List Cond := [Cond.fieldLink RX3 25 "PartitionPlay$Nodes" "shown" "[I", Cond.fieldLink RX3 28 "PartitionPlay$Nodes" "net" "LPartitionPlay$Net;", Cond.fieldLink RX3 38 "PartitionPlay$Net" "size" "I", Cond.fieldLink RX3 9 "PartitionPlay$Nodes" "heights" "[I", Cond.fieldLink RX3 15 "PartitionPlay$Nodes" "known" "[I", Cond.fieldLink RX3 44 "PartitionPlay$Net" "rumours" "[I", Cond.fieldLink RX3 18 "PartitionPlay$Nodes" "up" "[Z", Cond.fieldLink RX3 22 "PartitionPlay$Nodes" "grew" "[Z", Cond.fieldLink RX3 47 "PartitionPlay$Nodes" "group" "I", Cond.methodLink RX3 32 yJ7_fill_53178, Cond.methodLink RX4 65 yX4_meetEvents, Cond.instanceMethod yX4_meetEvents, Cond.selects RX4 yX4_meetEvents yX4_meetEvents, Cond.code yX4_meetEvents cX4_meetEvents 3 none, Cond.fieldLink RX4 41 "PartitionPlay$Play" "schedule" "LPartitionPlay$Schedule;", Cond.fieldLink RX4 102 "PartitionPlay$Schedule" "size" "I", Cond.fieldLink RX4 111 "PartitionPlay$Schedule" "kinds" "[I", Cond.fieldLink RX4 114 "PartitionPlay$Schedule" "as" "[I", Cond.methodLink RX4 107 yX5_happensAt, Cond.instanceMethod yX5_happensAt, Cond.selects RX5 yX5_happensAt yX5_happensAt, Cond.initialized RX5, Cond.code yX5_happensAt cX5_happensAt 3 (some .boolean), Cond.fieldLink RX5 24 "PartitionPlay$Schedule" "leftOut" "[Z"]
def wsX6_play_r4 : List Cond := [Cond.fieldLink RX5 9 "PartitionPlay$Schedule" "kinds" "[I", Cond.fieldLink RX5 15 "PartitionPlay$Schedule" "turns" "[I", Cond.static yX6_isTimed, Cond.initialized RX6, Cond.code yX6_isTimed cX6_isTimed 1 (some .boolean), Cond.methodLink RX4 117 yX3_meet, Cond.instanceMethod yX3_meet, Cond.selects RX3 yX3_meet yX3_meet, Cond.code yX3_meet cX3_meet 3 none, Cond.methodLink RX3 50 yX2_has, Cond.instanceMethod yX2_has, Cond.selects RX2 yX2_has yX2_has, Cond.initialized RX2, Cond.code yX2_has cX2_has 2 (some .boolean), Cond.fieldLink RX2 21 "PartitionPlay$Net" "size" "I", Cond.methodLink RX3 54 yX3_forgetShown, Cond.instanceMethod yX3_forgetShown, Cond.selects RX3 yX3_forgetShown yX3_forgetShown, Cond.code yX3_forgetShown cX3_forgetShown 3 none, Cond.static yX6_pair, Cond.code yX6_pair cX6_pair 2 (some .int), Cond.methodLink RX4 69 yX4_takeInComings, Cond.instanceMethod yX4_takeInComings, Cond.selects RX4 yX4_takeInComings yX4_takeInComings]
def wsX6_play_r5 : List Cond := [Cond.code yX4_takeInComings cX4_takeInComings 4 none, Cond.methodLink RX4 120 yX0_firstAt, Cond.instanceMethod yX0_firstAt, Cond.selects RX0 yX0_firstAt yX0_firstAt, Cond.code yX0_firstAt cX0_firstAt 2 (some .int), Cond.static yX6_isTurn, Cond.code yX6_isTurn cX6_isTurn 1 (some .boolean), Cond.methodLink RX4 124 yX0_letterOf, Cond.instanceMethod yX0_letterOf, Cond.selects RX0 yX0_letterOf yX0_letterOf, Cond.code yX0_letterOf cX0_letterOf 2 (some .int), Cond.fieldLink RX0 9 "PartitionPlay$Comings" "letters" "[I", Cond.methodLink RX0 38 yX0_has, Cond.instanceMethod yX0_has, Cond.selects RX0 yX0_has yX0_has, Cond.code yX0_has cX0_has 2 (some .boolean), Cond.methodLink RX4 127 yX4_takeIn, Cond.instanceMethod yX4_takeIn, Cond.selects RX4 yX4_takeIn yX4_takeIn, Cond.code yX4_takeIn cX4_takeIn 4 none, Cond.fieldLink RX4 137 "PartitionPlay$Letters" "senders" "[I", Cond.fieldLink RX4 140 "PartitionPlay$Letters" "receivers" "[I", Cond.fieldLink RX4 146 "PartitionPlay$Letters" "heights" "[I", Cond.fieldLink RX4 147 "PartitionPlay$Letters" "rumours" "[I"]
def wsX6_play_r6 : List Cond := [Cond.fieldLink RX4 153 "PartitionPlay$Letters" "takenIn" "[I", Cond.methodLink RX4 133 yX1_has, Cond.instanceMethod yX1_has, Cond.selects RX1 yX1_has yX1_has, Cond.code yX1_has cX1_has 2 (some .boolean), Cond.methodLink RX4 143 yX3_canReach, Cond.instanceMethod yX3_canReach, Cond.selects RX3 yX3_canReach yX3_canReach, Cond.code yX3_canReach cX3_canReach 3 (some .boolean), Cond.methodLink RX4 150 yX3_takeIn, Cond.instanceMethod yX3_takeIn, Cond.selects RX3 yX3_takeIn yX3_takeIn, Cond.code yX3_takeIn cX3_takeIn 6 none, Cond.methodLink RX3 62 Lib.Math.max.name, Cond.static Lib.Math.max.name, Cond.code Lib.Math.max.name Lib.Math.max.code 2 (some .int), Cond.methodLink RX4 130 yX0_behind, Cond.instanceMethod yX0_behind, Cond.selects RX0 yX0_behind yX0_behind, Cond.code yX0_behind cX0_behind 2 (some .int), Cond.fieldLink RX0 15 "PartitionPlay$Comings" "followers" "[I", Cond.methodLink RX4 72 yX3_grow, Cond.instanceMethod yX3_grow, Cond.selects RX3 yX3_grow yX3_grow]
def wsX6_play_r7 : List Cond := [Cond.code yX3_grow cX3_grow 2 none, Cond.methodLink RX3 67 yX3_thatShowedEnoughTo, Cond.instanceMethod yX3_thatShowedEnoughTo, Cond.selects RX3 yX3_thatShowedEnoughTo yX3_thatShowedEnoughTo, Cond.code yX3_thatShowedEnoughTo cX3_thatShowedEnoughTo 4 (some .int), Cond.methodLink RX3 71 yX2_isMoreThanHalf, Cond.instanceMethod yX2_isMoreThanHalf, Cond.selects RX2 yX2_isMoreThanHalf yX2_isMoreThanHalf, Cond.code yX2_isMoreThanHalf cX2_isMoreThanHalf 2 (some .boolean), Cond.methodLink RX4 75 yX4_sendLetters, Cond.instanceMethod yX4_sendLetters, Cond.selects RX4 yX4_sendLetters yX4_sendLetters, Cond.code yX4_sendLetters cX4_sendLetters 5 none, Cond.fieldLink RX4 37 "PartitionPlay$Play" "net" "LPartitionPlay$Net;", Cond.fieldLink RX4 156 "PartitionPlay$Net" "size" "I", Cond.fieldLink RX4 159 "PartitionPlay$Nodes" "up" "[Z", Cond.fieldLink RX4 162 "PartitionPlay$Net" "behaviours" "[I", Cond.fieldLink RX4 165 "PartitionPlay$Nodes" "grew" "[Z", Cond.methodLink RX4 168 yX4_sendFrom, Cond.instanceMethod yX4_sendFrom, Cond.selects RX4 yX4_sendFrom yX4_sendFrom, Cond.code yX4_sendFrom cX4_sendFrom 6 none, Cond.fieldLink RX4 171 "PartitionPlay$Nodes" "heights" "[I", Cond.fieldLink RX4 175 "PartitionPlay$Nodes" "known" "[I"]
def wsX6_play_r8 : List Cond := [Cond.fieldLink RX4 182 "PartitionPlay$Net" "delays" "[I", Cond.methodLink RX4 172 yX2_heightSaid, Cond.instanceMethod yX2_heightSaid, Cond.selects RX2 yX2_heightSaid yX2_heightSaid, Cond.code yX2_heightSaid cX2_heightSaid 3 (some .int), Cond.fieldLink RX2 9 "PartitionPlay$Net" "behaviours" "[I", Cond.methodLink RX4 178 yX1_add, Cond.instanceMethod yX1_add, Cond.selects RX1 yX1_add yX1_add, Cond.code yX1_add cX1_add 6 (some .int), Cond.fieldLink RX1 9 "PartitionPlay$Letters" "senders" "[I", Cond.fieldLink RX1 15 "PartitionPlay$Letters" "receivers" "[I", Cond.fieldLink RX1 18 "PartitionPlay$Letters" "turns" "[I", Cond.fieldLink RX1 21 "PartitionPlay$Letters" "heights" "[I", Cond.fieldLink RX1 24 "PartitionPlay$Letters" "rumours" "[I", Cond.fieldLink RX1 27 "PartitionPlay$Letters" "firstComings" "[I", Cond.fieldLink RX1 30 "PartitionPlay$Letters" "takenIn" "[I", Cond.methodLink RX4 188 yX4_post, Cond.instanceMethod yX4_post, Cond.selects RX4 yX4_post yX4_post, Cond.code yX4_post cX4_post 5 none, Cond.fieldLink RX4 200 "PartitionPlay$Letters" "lost" "I", Cond.fieldLink RX4 206 "PartitionPlay$Letters" "firstComings" "[I", Cond.methodLink RX4 191 yX5_names]
def wsX6_play_r9 : List Cond := [Cond.instanceMethod yX5_names, Cond.selects RX5 yX5_names yX5_names, Cond.code yX5_names cX5_names 2 (some .boolean), Cond.fieldLink RX5 28 "PartitionPlay$Schedule" "namings" "[I", Cond.static yX6_isLetter, Cond.code yX6_isLetter cX6_isLetter 1 (some .boolean), Cond.methodLink RX4 194 yX4_isAlsoLost, Cond.instanceMethod yX4_isAlsoLost, Cond.selects RX4 yX4_isAlsoLost yX4_isAlsoLost, Cond.code yX4_isAlsoLost cX4_isAlsoLost 2 (some .boolean), Cond.methodLink RX4 197 yX5_loses, Cond.instanceMethod yX5_loses, Cond.selects RX5 yX5_loses yX5_loses, Cond.code yX5_loses cX5_loses 3 (some .boolean), Cond.fieldLink RX5 31 "PartitionPlay$Schedule" "size" "I", Cond.methodLink RX5 56 yX5_does, Cond.instanceMethod yX5_does, Cond.selects RX5 yX5_does yX5_does, Cond.code yX5_does cX5_does 4 (some .boolean), Cond.fieldLink RX5 18 "PartitionPlay$Schedule" "as" "[I", Cond.methodLink RX4 203 yX5_lateness, Cond.instanceMethod yX5_lateness, Cond.selects RX5 yX5_lateness yX5_lateness, Cond.code yX5_lateness cX5_lateness 4 (some .int)]
def wsX6_play_r10 : List Cond := [Cond.fieldLink RX5 21 "PartitionPlay$Schedule" "bs" "[I", Cond.methodLink RX4 209 yX0_add, Cond.instanceMethod yX0_add, Cond.selects RX0 yX0_add yX0_add, Cond.code yX0_add cX0_add 3 none, Cond.methodLink RX4 211 yX4_postDoubles, Cond.instanceMethod yX4_postDoubles, Cond.selects RX4 yX4_postDoubles yX4_postDoubles, Cond.code yX4_postDoubles cX4_postDoubles 4 none, Cond.fieldLink RX4 218 "PartitionPlay$Schedule" "bs" "[I", Cond.methodLink RX4 214 yX5_does, Cond.methodLink RX4 78 yX4_keepRecord, Cond.instanceMethod yX4_keepRecord, Cond.selects RX4 yX4_keepRecord yX4_keepRecord, Cond.code yX4_keepRecord cX4_keepRecord 3 none, Cond.fieldLink RX4 25 "PartitionPlay$Play" "heights" "[I", Cond.fieldLink RX4 29 "PartitionPlay$Play" "held" "[Z", Cond.static yX6_place, Cond.code yX6_place cX6_place 2 (some .int), Cond.methodLink RX4 224 yX3_keepTheRule, Cond.instanceMethod yX3_keepTheRule, Cond.selects RX3 yX3_keepTheRule yX3_keepTheRule, Cond.code yX3_keepTheRule cX3_keepTheRule 3 (some .boolean), Cond.fieldLink RX3 74 "PartitionPlay$Net" "behaviours" "[I"]
def wsX6_play_r11 : List Cond := [Cond.methodLink RX3 77 yX3_noLowerThan, Cond.instanceMethod yX3_noLowerThan, Cond.selects RX3 yX3_noLowerThan yX3_noLowerThan, Cond.code yX3_noLowerThan cX3_noLowerThan 4 (some .int), Cond.methodLink RX6 128 yX3_greatestHeight, Cond.instanceMethod yX3_greatestHeight, Cond.selects RX3 yX3_greatestHeight yX3_greatestHeight, Cond.code yX3_greatestHeight cX3_greatestHeight 3 (some .int)]
def wsX6_play : List Cond := .code yX6_play cX6_play 2 (some .int) :: ((wsX6_play_r1 ++ (wsX6_play_r2 ++ (wsX6_play_r3 ++ (wsX6_play_r4 ++ (wsX6_play_r5 ++ (wsX6_play_r6 ++ (wsX6_play_r7 ++ (wsX6_play_r8 ++ (wsX6_play_r9 ++ (wsX6_play_r10 ++ wsX6_play_r11)))))))))) ++ wsX60 ++ wsX40 ++ wsX10 ++ wsX00 ++ wsX30 ++ wsX20 ++ wsX50)
def wsX6_height : List Cond := .code yX6_height cX6_height 3 (some .int) :: ([.fieldLink RX6 39 "PartitionPlay" "shownPlay" "LPartitionPlay$Play;", .fieldLink RX6 23 "PartitionPlay" "net" "LPartitionPlay$Net;", .fieldLink RX6 137 "PartitionPlay$Play" "heights" "[I", .methodLink RX6 134 yX4_hasTurn, .instanceMethod yX4_hasTurn, .selects RX4 yX4_hasTurn yX4_hasTurn, .initialized RX4, .code yX4_hasTurn cX4_hasTurn 2 (some .boolean), .fieldLink RX4 58 "PartitionPlay$Play" "turns" "I", .methodLink RX6 46 yX2_has, .instanceMethod yX2_has, .selects RX2 yX2_has yX2_has, .initialized RX2, .code yX2_has cX2_has 2 (some .boolean), .fieldLink RX2 21 "PartitionPlay$Net" "size" "I", .methodLink RX6 140 yX6_place, .static yX6_place, .initialized RX6, .code yX6_place cX6_place 2 (some .int)] ++ wsX60 ++ wsX40 ++ wsX20)
def wsX6_holds : List Cond := .code yX6_holds cX6_holds 2 (some .int) :: ([.fieldLink RX6 39 "PartitionPlay" "shownPlay" "LPartitionPlay$Play;", .fieldLink RX6 143 "PartitionPlay$Play" "held" "[Z", .methodLink RX6 134 yX4_hasTurn, .instanceMethod yX4_hasTurn, .selects RX4 yX4_hasTurn yX4_hasTurn, .initialized RX4, .code yX4_hasTurn cX4_hasTurn 2 (some .boolean), .fieldLink RX4 58 "PartitionPlay$Play" "turns" "I"] ++ wsX60 ++ wsX40)
def wsX6_fails : List Cond := .code yX6_fails cX6_fails 1 (some .int) :: ([.fieldLink RX6 39 "PartitionPlay" "shownPlay" "LPartitionPlay$Play;", .fieldLink RX6 147 "PartitionPlay$Play" "turns" "I", .fieldLink RX6 149 "PartitionPlay$Play" "failedAt" "I"] ++ wsX60 ++ wsX40)
def wsX6_letter : List Cond := .code yX6_letter cX6_letter 4 (some .int) :: ([.fieldLink RX6 39 "PartitionPlay" "shownPlay" "LPartitionPlay$Play;", .fieldLink RX6 152 "PartitionPlay$Play" "letters" "LPartitionPlay$Letters;", .fieldLink RX6 159 "PartitionPlay$Letters" "senders" "[I", .fieldLink RX6 162 "PartitionPlay$Letters" "receivers" "[I", .fieldLink RX6 165 "PartitionPlay$Letters" "turns" "[I", .fieldLink RX6 166 "PartitionPlay$Letters" "heights" "[I", .fieldLink RX6 167 "PartitionPlay$Letters" "rumours" "[I", .fieldLink RX6 168 "PartitionPlay$Letters" "firstComings" "[I", .fieldLink RX6 171 "PartitionPlay$Letters" "takenIn" "[I", .methodLink RX6 156 yX1_has, .instanceMethod yX1_has, .selects RX1 yX1_has yX1_has, .initialized RX1, .code yX1_has cX1_has 2 (some .boolean), .fieldLink RX1 33 "PartitionPlay$Letters" "size" "I"] ++ wsX60 ++ wsX40 ++ wsX10)
def wsX6_reached : List Cond := .code yX6_reached cX6_reached 2 (some .int) :: ([.fieldLink RX6 39 "PartitionPlay" "shownPlay" "LPartitionPlay$Play;", .fieldLink RX6 147 "PartitionPlay$Play" "turns" "I", .fieldLink RX6 124 "PartitionPlay$Play" "nodes" "LPartitionPlay$Nodes;", .methodLink RX6 63 yX6_isRumour, .static yX6_isRumour, .initialized RX6, .code yX6_isRumour cX6_isRumour 1 (some .boolean), .methodLink RX6 174 yX3_thatKnow, .instanceMethod yX3_thatKnow, .selects RX3 yX3_thatKnow yX3_thatKnow, .initialized RX3, .code yX3_thatKnow cX3_thatKnow 4 (some .int), .fieldLink RX3 28 "PartitionPlay$Nodes" "net" "LPartitionPlay$Net;", .fieldLink RX3 38 "PartitionPlay$Net" "size" "I", .fieldLink RX3 15 "PartitionPlay$Nodes" "known" "[I"] ++ wsX60 ++ wsX40 ++ wsX30 ++ wsX20)
def wsX6_bytes_r1 : List Cond := [Cond.fieldLink RX6 23 "PartitionPlay" "net" "LPartitionPlay$Net;", Cond.fieldLink RX6 39 "PartitionPlay" "shownPlay" "LPartitionPlay$Play;", Cond.fieldLink RX6 147 "PartitionPlay$Play" "turns" "I", Cond.fieldLink RX6 152 "PartitionPlay$Play" "letters" "LPartitionPlay$Letters;", Cond.methodLink RX6 46 yX2_has, Cond.instanceMethod yX2_has, Cond.selects RX2 yX2_has yX2_has, Cond.initialized RX2, Cond.code yX2_has cX2_has 2 (some .boolean), Cond.fieldLink RX2 21 "PartitionPlay$Net" "size" "I", Cond.methodLink RX6 177 yX1_bytesFrom, Cond.instanceMethod yX1_bytesFrom, Cond.selects RX1 yX1_bytesFrom yX1_bytesFrom, Cond.initialized RX1, Cond.code yX1_bytesFrom cX1_bytesFrom 4 (some .int), Cond.fieldLink RX1 33 "PartitionPlay$Letters" "size" "I", Cond.fieldLink RX1 9 "PartitionPlay$Letters" "senders" "[I", Cond.fieldLink RX1 24 "PartitionPlay$Letters" "rumours" "[I", Cond.methodLink RX1 40 yJ6_bitCount_0f7a4, Cond.static yJ6_bitCount_0f7a4, Cond.initialized RJ6, Cond.code yJ6_bitCount_0f7a4 cJ6_bitCount_0f7a4 1 (some .int), Cond.constant RJ6 265 (1431655765), Cond.constant RJ6 266 (858993459)]
def wsX6_bytes_r2 : List Cond := [Cond.constant RJ6 267 (252645135)]
def wsX6_bytes : List Cond := .code yX6_bytes cX6_bytes 2 (some .int) :: ((wsX6_bytes_r1 ++ wsX6_bytes_r2) ++ wsX60 ++ wsX40 ++ wsX20 ++ wsX10)
def wsX6_shrink_r1 : List Cond := [Cond.fieldLink RX6 39 "PartitionPlay" "shownPlay" "LPartitionPlay$Play;", Cond.fieldLink RX6 147 "PartitionPlay$Play" "turns" "I", Cond.fieldLink RX6 43 "PartitionPlay" "trial" "LPartitionPlay$Play;", Cond.fieldLink RX6 30 "PartitionPlay" "schedule" "LPartitionPlay$Schedule;", Cond.fieldLink RX6 104 "PartitionPlay$Schedule" "size" "I", Cond.fieldLink RX6 180 "PartitionPlay$Schedule" "leftOut" "[Z", Cond.methodLink RX6 120 yX4_run, Cond.instanceMethod yX4_run, Cond.selects RX4 yX4_run yX4_run, Cond.initialized RX4, Cond.code yX4_run cX4_run 4 (some .boolean), Cond.fieldLink RX4 58 "PartitionPlay$Play" "turns" "I", Cond.fieldLink RX4 54 "PartitionPlay$Play" "nodes" "LPartitionPlay$Nodes;", Cond.fieldLink RX4 45 "PartitionPlay$Play" "stopsAtFailure" "Z", Cond.fieldLink RX4 33 "PartitionPlay$Play" "failedAt" "I", Cond.methodLink RX4 61 yX4_begin, Cond.instanceMethod yX4_begin, Cond.selects RX4 yX4_begin yX4_begin, Cond.code yX4_begin cX4_begin 3 none, Cond.methodLink RX4 81 Lib.Math.min.name, Cond.static Lib.Math.min.name, Cond.initialized "java/lang/Math", Cond.code Lib.Math.min.name Lib.Math.min.code 2 (some .int), Cond.fieldLink RX4 87 "PartitionPlay$Play" "alsoLost" "I"]
def wsX6_shrink_r2 : List Cond := [Cond.fieldLink RX4 90 "PartitionPlay$Play" "taken" "I", Cond.fieldLink RX4 93 "PartitionPlay$Play" "gone" "I", Cond.fieldLink RX4 21 "PartitionPlay$Play" "letters" "LPartitionPlay$Letters;", Cond.fieldLink RX4 12 "PartitionPlay$Play" "comings" "LPartitionPlay$Comings;", Cond.methodLink RX4 96 yX1_clear, Cond.instanceMethod yX1_clear, Cond.selects RX1 yX1_clear yX1_clear, Cond.initialized RX1, Cond.code yX1_clear cX1_clear 1 none, Cond.fieldLink RX1 33 "PartitionPlay$Letters" "size" "I", Cond.fieldLink RX1 37 "PartitionPlay$Letters" "lost" "I", Cond.methodLink RX4 99 yX0_clear, Cond.instanceMethod yX0_clear, Cond.selects RX0 yX0_clear yX0_clear, Cond.initialized RX0, Cond.code yX0_clear cX0_clear 1 none, Cond.fieldLink RX0 24 "PartitionPlay$Comings" "size" "I", Cond.fieldLink RX0 18 "PartitionPlay$Comings" "firsts" "[I", Cond.fieldLink RX0 21 "PartitionPlay$Comings" "lasts" "[I", Cond.methodLink RX0 28 yJ7_fill_53178, Cond.static yJ7_fill_53178, Cond.initialized RJ7, Cond.code yJ7_fill_53178 cJ7_fill_53178 4 none, Cond.methodLink RX4 100 yX3_begin]
def wsX6_shrink_r3 : List Cond := [Cond.instanceMethod yX3_begin, Cond.selects RX3 yX3_begin yX3_begin, Cond.initialized RX3, Cond.code yX3_begin cX3_begin 2 none, Cond.fieldLink RX3 25 "PartitionPlay$Nodes" "shown" "[I", Cond.fieldLink RX3 28 "PartitionPlay$Nodes" "net" "LPartitionPlay$Net;", Cond.fieldLink RX3 38 "PartitionPlay$Net" "size" "I", Cond.fieldLink RX3 9 "PartitionPlay$Nodes" "heights" "[I", Cond.fieldLink RX3 15 "PartitionPlay$Nodes" "known" "[I", Cond.fieldLink RX3 44 "PartitionPlay$Net" "rumours" "[I", Cond.fieldLink RX3 18 "PartitionPlay$Nodes" "up" "[Z", Cond.fieldLink RX3 22 "PartitionPlay$Nodes" "grew" "[Z", Cond.fieldLink RX3 47 "PartitionPlay$Nodes" "group" "I", Cond.methodLink RX3 32 yJ7_fill_53178, Cond.methodLink RX4 65 yX4_meetEvents, Cond.instanceMethod yX4_meetEvents, Cond.selects RX4 yX4_meetEvents yX4_meetEvents, Cond.code yX4_meetEvents cX4_meetEvents 3 none, Cond.fieldLink RX4 41 "PartitionPlay$Play" "schedule" "LPartitionPlay$Schedule;", Cond.fieldLink RX4 102 "PartitionPlay$Schedule" "size" "I", Cond.fieldLink RX4 111 "PartitionPlay$Schedule" "kinds" "[I", Cond.fieldLink RX4 114 "PartitionPlay$Schedule" "as" "[I", Cond.methodLink RX4 107 yX5_happensAt, Cond.instanceMethod yX5_happensAt]
def wsX6_shrink_r4 : List Cond := [Cond.selects RX5 yX5_happensAt yX5_happensAt, Cond.initialized RX5, Cond.code yX5_happensAt cX5_happensAt 3 (some .boolean), Cond.fieldLink RX5 24 "PartitionPlay$Schedule" "leftOut" "[Z", Cond.fieldLink RX5 9 "PartitionPlay$Schedule" "kinds" "[I", Cond.fieldLink RX5 15 "PartitionPlay$Schedule" "turns" "[I", Cond.static yX6_isTimed, Cond.initialized RX6, Cond.code yX6_isTimed cX6_isTimed 1 (some .boolean), Cond.methodLink RX4 117 yX3_meet, Cond.instanceMethod yX3_meet, Cond.selects RX3 yX3_meet yX3_meet, Cond.code yX3_meet cX3_meet 3 none, Cond.methodLink RX3 50 yX2_has, Cond.instanceMethod yX2_has, Cond.selects RX2 yX2_has yX2_has, Cond.initialized RX2, Cond.code yX2_has cX2_has 2 (some .boolean), Cond.fieldLink RX2 21 "PartitionPlay$Net" "size" "I", Cond.methodLink RX3 54 yX3_forgetShown, Cond.instanceMethod yX3_forgetShown, Cond.selects RX3 yX3_forgetShown yX3_forgetShown, Cond.code yX3_forgetShown cX3_forgetShown 3 none, Cond.static yX6_pair]
def wsX6_shrink_r5 : List Cond := [Cond.code yX6_pair cX6_pair 2 (some .int), Cond.methodLink RX4 69 yX4_takeInComings, Cond.instanceMethod yX4_takeInComings, Cond.selects RX4 yX4_takeInComings yX4_takeInComings, Cond.code yX4_takeInComings cX4_takeInComings 4 none, Cond.methodLink RX4 120 yX0_firstAt, Cond.instanceMethod yX0_firstAt, Cond.selects RX0 yX0_firstAt yX0_firstAt, Cond.code yX0_firstAt cX0_firstAt 2 (some .int), Cond.static yX6_isTurn, Cond.code yX6_isTurn cX6_isTurn 1 (some .boolean), Cond.methodLink RX4 124 yX0_letterOf, Cond.instanceMethod yX0_letterOf, Cond.selects RX0 yX0_letterOf yX0_letterOf, Cond.code yX0_letterOf cX0_letterOf 2 (some .int), Cond.fieldLink RX0 9 "PartitionPlay$Comings" "letters" "[I", Cond.methodLink RX0 38 yX0_has, Cond.instanceMethod yX0_has, Cond.selects RX0 yX0_has yX0_has, Cond.code yX0_has cX0_has 2 (some .boolean), Cond.methodLink RX4 127 yX4_takeIn, Cond.instanceMethod yX4_takeIn, Cond.selects RX4 yX4_takeIn yX4_takeIn, Cond.code yX4_takeIn cX4_takeIn 4 none]
def wsX6_shrink_r6 : List Cond := [Cond.fieldLink RX4 137 "PartitionPlay$Letters" "senders" "[I", Cond.fieldLink RX4 140 "PartitionPlay$Letters" "receivers" "[I", Cond.fieldLink RX4 146 "PartitionPlay$Letters" "heights" "[I", Cond.fieldLink RX4 147 "PartitionPlay$Letters" "rumours" "[I", Cond.fieldLink RX4 153 "PartitionPlay$Letters" "takenIn" "[I", Cond.methodLink RX4 133 yX1_has, Cond.instanceMethod yX1_has, Cond.selects RX1 yX1_has yX1_has, Cond.code yX1_has cX1_has 2 (some .boolean), Cond.methodLink RX4 143 yX3_canReach, Cond.instanceMethod yX3_canReach, Cond.selects RX3 yX3_canReach yX3_canReach, Cond.code yX3_canReach cX3_canReach 3 (some .boolean), Cond.methodLink RX4 150 yX3_takeIn, Cond.instanceMethod yX3_takeIn, Cond.selects RX3 yX3_takeIn yX3_takeIn, Cond.code yX3_takeIn cX3_takeIn 6 none, Cond.methodLink RX3 62 Lib.Math.max.name, Cond.static Lib.Math.max.name, Cond.code Lib.Math.max.name Lib.Math.max.code 2 (some .int), Cond.methodLink RX4 130 yX0_behind, Cond.instanceMethod yX0_behind, Cond.selects RX0 yX0_behind yX0_behind, Cond.code yX0_behind cX0_behind 2 (some .int)]
def wsX6_shrink_r7 : List Cond := [Cond.fieldLink RX0 15 "PartitionPlay$Comings" "followers" "[I", Cond.methodLink RX4 72 yX3_grow, Cond.instanceMethod yX3_grow, Cond.selects RX3 yX3_grow yX3_grow, Cond.code yX3_grow cX3_grow 2 none, Cond.methodLink RX3 67 yX3_thatShowedEnoughTo, Cond.instanceMethod yX3_thatShowedEnoughTo, Cond.selects RX3 yX3_thatShowedEnoughTo yX3_thatShowedEnoughTo, Cond.code yX3_thatShowedEnoughTo cX3_thatShowedEnoughTo 4 (some .int), Cond.methodLink RX3 71 yX2_isMoreThanHalf, Cond.instanceMethod yX2_isMoreThanHalf, Cond.selects RX2 yX2_isMoreThanHalf yX2_isMoreThanHalf, Cond.code yX2_isMoreThanHalf cX2_isMoreThanHalf 2 (some .boolean), Cond.methodLink RX4 75 yX4_sendLetters, Cond.instanceMethod yX4_sendLetters, Cond.selects RX4 yX4_sendLetters yX4_sendLetters, Cond.code yX4_sendLetters cX4_sendLetters 5 none, Cond.fieldLink RX4 37 "PartitionPlay$Play" "net" "LPartitionPlay$Net;", Cond.fieldLink RX4 156 "PartitionPlay$Net" "size" "I", Cond.fieldLink RX4 159 "PartitionPlay$Nodes" "up" "[Z", Cond.fieldLink RX4 162 "PartitionPlay$Net" "behaviours" "[I", Cond.fieldLink RX4 165 "PartitionPlay$Nodes" "grew" "[Z", Cond.methodLink RX4 168 yX4_sendFrom, Cond.instanceMethod yX4_sendFrom]
def wsX6_shrink_r8 : List Cond := [Cond.selects RX4 yX4_sendFrom yX4_sendFrom, Cond.code yX4_sendFrom cX4_sendFrom 6 none, Cond.fieldLink RX4 171 "PartitionPlay$Nodes" "heights" "[I", Cond.fieldLink RX4 175 "PartitionPlay$Nodes" "known" "[I", Cond.fieldLink RX4 182 "PartitionPlay$Net" "delays" "[I", Cond.methodLink RX4 172 yX2_heightSaid, Cond.instanceMethod yX2_heightSaid, Cond.selects RX2 yX2_heightSaid yX2_heightSaid, Cond.code yX2_heightSaid cX2_heightSaid 3 (some .int), Cond.fieldLink RX2 9 "PartitionPlay$Net" "behaviours" "[I", Cond.methodLink RX4 178 yX1_add, Cond.instanceMethod yX1_add, Cond.selects RX1 yX1_add yX1_add, Cond.code yX1_add cX1_add 6 (some .int), Cond.fieldLink RX1 9 "PartitionPlay$Letters" "senders" "[I", Cond.fieldLink RX1 15 "PartitionPlay$Letters" "receivers" "[I", Cond.fieldLink RX1 18 "PartitionPlay$Letters" "turns" "[I", Cond.fieldLink RX1 21 "PartitionPlay$Letters" "heights" "[I", Cond.fieldLink RX1 24 "PartitionPlay$Letters" "rumours" "[I", Cond.fieldLink RX1 27 "PartitionPlay$Letters" "firstComings" "[I", Cond.fieldLink RX1 30 "PartitionPlay$Letters" "takenIn" "[I", Cond.methodLink RX4 188 yX4_post, Cond.instanceMethod yX4_post, Cond.selects RX4 yX4_post yX4_post]
def wsX6_shrink_r9 : List Cond := [Cond.code yX4_post cX4_post 5 none, Cond.fieldLink RX4 200 "PartitionPlay$Letters" "lost" "I", Cond.fieldLink RX4 206 "PartitionPlay$Letters" "firstComings" "[I", Cond.methodLink RX4 191 yX5_names, Cond.instanceMethod yX5_names, Cond.selects RX5 yX5_names yX5_names, Cond.code yX5_names cX5_names 2 (some .boolean), Cond.fieldLink RX5 28 "PartitionPlay$Schedule" "namings" "[I", Cond.static yX6_isLetter, Cond.code yX6_isLetter cX6_isLetter 1 (some .boolean), Cond.methodLink RX4 194 yX4_isAlsoLost, Cond.instanceMethod yX4_isAlsoLost, Cond.selects RX4 yX4_isAlsoLost yX4_isAlsoLost, Cond.code yX4_isAlsoLost cX4_isAlsoLost 2 (some .boolean), Cond.methodLink RX4 197 yX5_loses, Cond.instanceMethod yX5_loses, Cond.selects RX5 yX5_loses yX5_loses, Cond.code yX5_loses cX5_loses 3 (some .boolean), Cond.fieldLink RX5 31 "PartitionPlay$Schedule" "size" "I", Cond.methodLink RX5 56 yX5_does, Cond.instanceMethod yX5_does, Cond.selects RX5 yX5_does yX5_does, Cond.code yX5_does cX5_does 4 (some .boolean), Cond.fieldLink RX5 18 "PartitionPlay$Schedule" "as" "[I"]
def wsX6_shrink_r10 : List Cond := [Cond.methodLink RX4 203 yX5_lateness, Cond.instanceMethod yX5_lateness, Cond.selects RX5 yX5_lateness yX5_lateness, Cond.code yX5_lateness cX5_lateness 4 (some .int), Cond.fieldLink RX5 21 "PartitionPlay$Schedule" "bs" "[I", Cond.methodLink RX4 209 yX0_add, Cond.instanceMethod yX0_add, Cond.selects RX0 yX0_add yX0_add, Cond.code yX0_add cX0_add 3 none, Cond.methodLink RX4 211 yX4_postDoubles, Cond.instanceMethod yX4_postDoubles, Cond.selects RX4 yX4_postDoubles yX4_postDoubles, Cond.code yX4_postDoubles cX4_postDoubles 4 none, Cond.fieldLink RX4 218 "PartitionPlay$Schedule" "bs" "[I", Cond.methodLink RX4 214 yX5_does, Cond.methodLink RX4 78 yX4_keepRecord, Cond.instanceMethod yX4_keepRecord, Cond.selects RX4 yX4_keepRecord yX4_keepRecord, Cond.code yX4_keepRecord cX4_keepRecord 3 none, Cond.fieldLink RX4 25 "PartitionPlay$Play" "heights" "[I", Cond.fieldLink RX4 29 "PartitionPlay$Play" "held" "[Z", Cond.static yX6_place, Cond.code yX6_place cX6_place 2 (some .int), Cond.methodLink RX4 224 yX3_keepTheRule]
def wsX6_shrink_r11 : List Cond := [Cond.instanceMethod yX3_keepTheRule, Cond.selects RX3 yX3_keepTheRule yX3_keepTheRule, Cond.code yX3_keepTheRule cX3_keepTheRule 3 (some .boolean), Cond.fieldLink RX3 74 "PartitionPlay$Net" "behaviours" "[I", Cond.methodLink RX3 77 yX3_noLowerThan, Cond.instanceMethod yX3_noLowerThan, Cond.selects RX3 yX3_noLowerThan yX3_noLowerThan, Cond.code yX3_noLowerThan cX3_noLowerThan 4 (some .int), Cond.methodLink RX6 183 yX5_removeLeftOut, Cond.instanceMethod yX5_removeLeftOut, Cond.selects RX5 yX5_removeLeftOut yX5_removeLeftOut, Cond.code yX5_removeLeftOut cX5_removeLeftOut 2 none, Cond.methodLink RX5 43 yX5_remove, Cond.instanceMethod yX5_remove, Cond.selects RX5 yX5_remove yX5_remove, Cond.code yX5_remove cX5_remove 3 none, Cond.methodLink RX5 39 yX5_has, Cond.instanceMethod yX5_has, Cond.selects RX5 yX5_has yX5_has, Cond.code yX5_has cX5_has 2 (some .boolean), Cond.methodLink RX5 35 yX5_countNaming, Cond.instanceMethod yX5_countNaming, Cond.selects RX5 yX5_countNaming yX5_countNaming, Cond.code yX5_countNaming cX5_countNaming 3 none]
def wsX6_shrink_r12 : List Cond := [Cond.static yX6_namesLetter, Cond.code yX6_namesLetter cX6_namesLetter 1 (some .boolean)]
def wsX6_shrink : List Cond := .code yX6_shrink cX6_shrink 3 (some .int) :: ((wsX6_shrink_r1 ++ (wsX6_shrink_r2 ++ (wsX6_shrink_r3 ++ (wsX6_shrink_r4 ++ (wsX6_shrink_r5 ++ (wsX6_shrink_r6 ++ (wsX6_shrink_r7 ++ (wsX6_shrink_r8 ++ (wsX6_shrink_r9 ++ (wsX6_shrink_r10 ++ (wsX6_shrink_r11 ++ wsX6_shrink_r12))))))))))) ++ wsX60 ++ wsX40 ++ wsX50 ++ wsX10 ++ wsX00 ++ wsX30 ++ wsX20)
def wsX6_minimal_r1 : List Cond := [Cond.fieldLink RX6 39 "PartitionPlay" "shownPlay" "LPartitionPlay$Play;", Cond.fieldLink RX6 147 "PartitionPlay$Play" "turns" "I", Cond.fieldLink RX6 43 "PartitionPlay" "trial" "LPartitionPlay$Play;", Cond.fieldLink RX6 30 "PartitionPlay" "schedule" "LPartitionPlay$Schedule;", Cond.fieldLink RX6 104 "PartitionPlay$Schedule" "size" "I", Cond.fieldLink RX6 180 "PartitionPlay$Schedule" "leftOut" "[Z", Cond.methodLink RX6 120 yX4_run, Cond.instanceMethod yX4_run, Cond.selects RX4 yX4_run yX4_run, Cond.initialized RX4, Cond.code yX4_run cX4_run 4 (some .boolean), Cond.fieldLink RX4 58 "PartitionPlay$Play" "turns" "I", Cond.fieldLink RX4 54 "PartitionPlay$Play" "nodes" "LPartitionPlay$Nodes;", Cond.fieldLink RX4 45 "PartitionPlay$Play" "stopsAtFailure" "Z", Cond.fieldLink RX4 33 "PartitionPlay$Play" "failedAt" "I", Cond.methodLink RX4 61 yX4_begin, Cond.instanceMethod yX4_begin, Cond.selects RX4 yX4_begin yX4_begin, Cond.code yX4_begin cX4_begin 3 none, Cond.methodLink RX4 81 Lib.Math.min.name, Cond.static Lib.Math.min.name, Cond.initialized "java/lang/Math", Cond.code Lib.Math.min.name Lib.Math.min.code 2 (some .int), Cond.fieldLink RX4 87 "PartitionPlay$Play" "alsoLost" "I"]
def wsX6_minimal_r2 : List Cond := [Cond.fieldLink RX4 90 "PartitionPlay$Play" "taken" "I", Cond.fieldLink RX4 93 "PartitionPlay$Play" "gone" "I", Cond.fieldLink RX4 21 "PartitionPlay$Play" "letters" "LPartitionPlay$Letters;", Cond.fieldLink RX4 12 "PartitionPlay$Play" "comings" "LPartitionPlay$Comings;", Cond.methodLink RX4 96 yX1_clear, Cond.instanceMethod yX1_clear, Cond.selects RX1 yX1_clear yX1_clear, Cond.initialized RX1, Cond.code yX1_clear cX1_clear 1 none, Cond.fieldLink RX1 33 "PartitionPlay$Letters" "size" "I", Cond.fieldLink RX1 37 "PartitionPlay$Letters" "lost" "I", Cond.methodLink RX4 99 yX0_clear, Cond.instanceMethod yX0_clear, Cond.selects RX0 yX0_clear yX0_clear, Cond.initialized RX0, Cond.code yX0_clear cX0_clear 1 none, Cond.fieldLink RX0 24 "PartitionPlay$Comings" "size" "I", Cond.fieldLink RX0 18 "PartitionPlay$Comings" "firsts" "[I", Cond.fieldLink RX0 21 "PartitionPlay$Comings" "lasts" "[I", Cond.methodLink RX0 28 yJ7_fill_53178, Cond.static yJ7_fill_53178, Cond.initialized RJ7, Cond.code yJ7_fill_53178 cJ7_fill_53178 4 none, Cond.methodLink RX4 100 yX3_begin]
def wsX6_minimal_r3 : List Cond := [Cond.instanceMethod yX3_begin, Cond.selects RX3 yX3_begin yX3_begin, Cond.initialized RX3, Cond.code yX3_begin cX3_begin 2 none, Cond.fieldLink RX3 25 "PartitionPlay$Nodes" "shown" "[I", Cond.fieldLink RX3 28 "PartitionPlay$Nodes" "net" "LPartitionPlay$Net;", Cond.fieldLink RX3 38 "PartitionPlay$Net" "size" "I", Cond.fieldLink RX3 9 "PartitionPlay$Nodes" "heights" "[I", Cond.fieldLink RX3 15 "PartitionPlay$Nodes" "known" "[I", Cond.fieldLink RX3 44 "PartitionPlay$Net" "rumours" "[I", Cond.fieldLink RX3 18 "PartitionPlay$Nodes" "up" "[Z", Cond.fieldLink RX3 22 "PartitionPlay$Nodes" "grew" "[Z", Cond.fieldLink RX3 47 "PartitionPlay$Nodes" "group" "I", Cond.methodLink RX3 32 yJ7_fill_53178, Cond.methodLink RX4 65 yX4_meetEvents, Cond.instanceMethod yX4_meetEvents, Cond.selects RX4 yX4_meetEvents yX4_meetEvents, Cond.code yX4_meetEvents cX4_meetEvents 3 none, Cond.fieldLink RX4 41 "PartitionPlay$Play" "schedule" "LPartitionPlay$Schedule;", Cond.fieldLink RX4 102 "PartitionPlay$Schedule" "size" "I", Cond.fieldLink RX4 111 "PartitionPlay$Schedule" "kinds" "[I", Cond.fieldLink RX4 114 "PartitionPlay$Schedule" "as" "[I", Cond.methodLink RX4 107 yX5_happensAt, Cond.instanceMethod yX5_happensAt]
def wsX6_minimal_r4 : List Cond := [Cond.selects RX5 yX5_happensAt yX5_happensAt, Cond.initialized RX5, Cond.code yX5_happensAt cX5_happensAt 3 (some .boolean), Cond.fieldLink RX5 24 "PartitionPlay$Schedule" "leftOut" "[Z", Cond.fieldLink RX5 9 "PartitionPlay$Schedule" "kinds" "[I", Cond.fieldLink RX5 15 "PartitionPlay$Schedule" "turns" "[I", Cond.static yX6_isTimed, Cond.initialized RX6, Cond.code yX6_isTimed cX6_isTimed 1 (some .boolean), Cond.methodLink RX4 117 yX3_meet, Cond.instanceMethod yX3_meet, Cond.selects RX3 yX3_meet yX3_meet, Cond.code yX3_meet cX3_meet 3 none, Cond.methodLink RX3 50 yX2_has, Cond.instanceMethod yX2_has, Cond.selects RX2 yX2_has yX2_has, Cond.initialized RX2, Cond.code yX2_has cX2_has 2 (some .boolean), Cond.fieldLink RX2 21 "PartitionPlay$Net" "size" "I", Cond.methodLink RX3 54 yX3_forgetShown, Cond.instanceMethod yX3_forgetShown, Cond.selects RX3 yX3_forgetShown yX3_forgetShown, Cond.code yX3_forgetShown cX3_forgetShown 3 none, Cond.static yX6_pair]
def wsX6_minimal_r5 : List Cond := [Cond.code yX6_pair cX6_pair 2 (some .int), Cond.methodLink RX4 69 yX4_takeInComings, Cond.instanceMethod yX4_takeInComings, Cond.selects RX4 yX4_takeInComings yX4_takeInComings, Cond.code yX4_takeInComings cX4_takeInComings 4 none, Cond.methodLink RX4 120 yX0_firstAt, Cond.instanceMethod yX0_firstAt, Cond.selects RX0 yX0_firstAt yX0_firstAt, Cond.code yX0_firstAt cX0_firstAt 2 (some .int), Cond.static yX6_isTurn, Cond.code yX6_isTurn cX6_isTurn 1 (some .boolean), Cond.methodLink RX4 124 yX0_letterOf, Cond.instanceMethod yX0_letterOf, Cond.selects RX0 yX0_letterOf yX0_letterOf, Cond.code yX0_letterOf cX0_letterOf 2 (some .int), Cond.fieldLink RX0 9 "PartitionPlay$Comings" "letters" "[I", Cond.methodLink RX0 38 yX0_has, Cond.instanceMethod yX0_has, Cond.selects RX0 yX0_has yX0_has, Cond.code yX0_has cX0_has 2 (some .boolean), Cond.methodLink RX4 127 yX4_takeIn, Cond.instanceMethod yX4_takeIn, Cond.selects RX4 yX4_takeIn yX4_takeIn, Cond.code yX4_takeIn cX4_takeIn 4 none]
def wsX6_minimal_r6 : List Cond := [Cond.fieldLink RX4 137 "PartitionPlay$Letters" "senders" "[I", Cond.fieldLink RX4 140 "PartitionPlay$Letters" "receivers" "[I", Cond.fieldLink RX4 146 "PartitionPlay$Letters" "heights" "[I", Cond.fieldLink RX4 147 "PartitionPlay$Letters" "rumours" "[I", Cond.fieldLink RX4 153 "PartitionPlay$Letters" "takenIn" "[I", Cond.methodLink RX4 133 yX1_has, Cond.instanceMethod yX1_has, Cond.selects RX1 yX1_has yX1_has, Cond.code yX1_has cX1_has 2 (some .boolean), Cond.methodLink RX4 143 yX3_canReach, Cond.instanceMethod yX3_canReach, Cond.selects RX3 yX3_canReach yX3_canReach, Cond.code yX3_canReach cX3_canReach 3 (some .boolean), Cond.methodLink RX4 150 yX3_takeIn, Cond.instanceMethod yX3_takeIn, Cond.selects RX3 yX3_takeIn yX3_takeIn, Cond.code yX3_takeIn cX3_takeIn 6 none, Cond.methodLink RX3 62 Lib.Math.max.name, Cond.static Lib.Math.max.name, Cond.code Lib.Math.max.name Lib.Math.max.code 2 (some .int), Cond.methodLink RX4 130 yX0_behind, Cond.instanceMethod yX0_behind, Cond.selects RX0 yX0_behind yX0_behind, Cond.code yX0_behind cX0_behind 2 (some .int)]
def wsX6_minimal_r7 : List Cond := [Cond.fieldLink RX0 15 "PartitionPlay$Comings" "followers" "[I", Cond.methodLink RX4 72 yX3_grow, Cond.instanceMethod yX3_grow, Cond.selects RX3 yX3_grow yX3_grow, Cond.code yX3_grow cX3_grow 2 none, Cond.methodLink RX3 67 yX3_thatShowedEnoughTo, Cond.instanceMethod yX3_thatShowedEnoughTo, Cond.selects RX3 yX3_thatShowedEnoughTo yX3_thatShowedEnoughTo, Cond.code yX3_thatShowedEnoughTo cX3_thatShowedEnoughTo 4 (some .int), Cond.methodLink RX3 71 yX2_isMoreThanHalf, Cond.instanceMethod yX2_isMoreThanHalf, Cond.selects RX2 yX2_isMoreThanHalf yX2_isMoreThanHalf, Cond.code yX2_isMoreThanHalf cX2_isMoreThanHalf 2 (some .boolean), Cond.methodLink RX4 75 yX4_sendLetters, Cond.instanceMethod yX4_sendLetters, Cond.selects RX4 yX4_sendLetters yX4_sendLetters, Cond.code yX4_sendLetters cX4_sendLetters 5 none, Cond.fieldLink RX4 37 "PartitionPlay$Play" "net" "LPartitionPlay$Net;", Cond.fieldLink RX4 156 "PartitionPlay$Net" "size" "I", Cond.fieldLink RX4 159 "PartitionPlay$Nodes" "up" "[Z", Cond.fieldLink RX4 162 "PartitionPlay$Net" "behaviours" "[I", Cond.fieldLink RX4 165 "PartitionPlay$Nodes" "grew" "[Z", Cond.methodLink RX4 168 yX4_sendFrom, Cond.instanceMethod yX4_sendFrom]
def wsX6_minimal_r8 : List Cond := [Cond.selects RX4 yX4_sendFrom yX4_sendFrom, Cond.code yX4_sendFrom cX4_sendFrom 6 none, Cond.fieldLink RX4 171 "PartitionPlay$Nodes" "heights" "[I", Cond.fieldLink RX4 175 "PartitionPlay$Nodes" "known" "[I", Cond.fieldLink RX4 182 "PartitionPlay$Net" "delays" "[I", Cond.methodLink RX4 172 yX2_heightSaid, Cond.instanceMethod yX2_heightSaid, Cond.selects RX2 yX2_heightSaid yX2_heightSaid, Cond.code yX2_heightSaid cX2_heightSaid 3 (some .int), Cond.fieldLink RX2 9 "PartitionPlay$Net" "behaviours" "[I", Cond.methodLink RX4 178 yX1_add, Cond.instanceMethod yX1_add, Cond.selects RX1 yX1_add yX1_add, Cond.code yX1_add cX1_add 6 (some .int), Cond.fieldLink RX1 9 "PartitionPlay$Letters" "senders" "[I", Cond.fieldLink RX1 15 "PartitionPlay$Letters" "receivers" "[I", Cond.fieldLink RX1 18 "PartitionPlay$Letters" "turns" "[I", Cond.fieldLink RX1 21 "PartitionPlay$Letters" "heights" "[I", Cond.fieldLink RX1 24 "PartitionPlay$Letters" "rumours" "[I", Cond.fieldLink RX1 27 "PartitionPlay$Letters" "firstComings" "[I", Cond.fieldLink RX1 30 "PartitionPlay$Letters" "takenIn" "[I", Cond.methodLink RX4 188 yX4_post, Cond.instanceMethod yX4_post, Cond.selects RX4 yX4_post yX4_post]
def wsX6_minimal_r9 : List Cond := [Cond.code yX4_post cX4_post 5 none, Cond.fieldLink RX4 200 "PartitionPlay$Letters" "lost" "I", Cond.fieldLink RX4 206 "PartitionPlay$Letters" "firstComings" "[I", Cond.methodLink RX4 191 yX5_names, Cond.instanceMethod yX5_names, Cond.selects RX5 yX5_names yX5_names, Cond.code yX5_names cX5_names 2 (some .boolean), Cond.fieldLink RX5 28 "PartitionPlay$Schedule" "namings" "[I", Cond.static yX6_isLetter, Cond.code yX6_isLetter cX6_isLetter 1 (some .boolean), Cond.methodLink RX4 194 yX4_isAlsoLost, Cond.instanceMethod yX4_isAlsoLost, Cond.selects RX4 yX4_isAlsoLost yX4_isAlsoLost, Cond.code yX4_isAlsoLost cX4_isAlsoLost 2 (some .boolean), Cond.methodLink RX4 197 yX5_loses, Cond.instanceMethod yX5_loses, Cond.selects RX5 yX5_loses yX5_loses, Cond.code yX5_loses cX5_loses 3 (some .boolean), Cond.fieldLink RX5 31 "PartitionPlay$Schedule" "size" "I", Cond.methodLink RX5 56 yX5_does, Cond.instanceMethod yX5_does, Cond.selects RX5 yX5_does yX5_does, Cond.code yX5_does cX5_does 4 (some .boolean), Cond.fieldLink RX5 18 "PartitionPlay$Schedule" "as" "[I"]
def wsX6_minimal_r10 : List Cond := [Cond.methodLink RX4 203 yX5_lateness, Cond.instanceMethod yX5_lateness, Cond.selects RX5 yX5_lateness yX5_lateness, Cond.code yX5_lateness cX5_lateness 4 (some .int), Cond.fieldLink RX5 21 "PartitionPlay$Schedule" "bs" "[I", Cond.methodLink RX4 209 yX0_add, Cond.instanceMethod yX0_add, Cond.selects RX0 yX0_add yX0_add, Cond.code yX0_add cX0_add 3 none, Cond.methodLink RX4 211 yX4_postDoubles, Cond.instanceMethod yX4_postDoubles, Cond.selects RX4 yX4_postDoubles yX4_postDoubles, Cond.code yX4_postDoubles cX4_postDoubles 4 none, Cond.fieldLink RX4 218 "PartitionPlay$Schedule" "bs" "[I", Cond.methodLink RX4 214 yX5_does, Cond.methodLink RX4 78 yX4_keepRecord, Cond.instanceMethod yX4_keepRecord, Cond.selects RX4 yX4_keepRecord yX4_keepRecord, Cond.code yX4_keepRecord cX4_keepRecord 3 none, Cond.fieldLink RX4 25 "PartitionPlay$Play" "heights" "[I", Cond.fieldLink RX4 29 "PartitionPlay$Play" "held" "[Z", Cond.static yX6_place, Cond.code yX6_place cX6_place 2 (some .int), Cond.methodLink RX4 224 yX3_keepTheRule]
def wsX6_minimal_r11 : List Cond := [Cond.instanceMethod yX3_keepTheRule, Cond.selects RX3 yX3_keepTheRule yX3_keepTheRule, Cond.code yX3_keepTheRule cX3_keepTheRule 3 (some .boolean), Cond.fieldLink RX3 74 "PartitionPlay$Net" "behaviours" "[I", Cond.methodLink RX3 77 yX3_noLowerThan, Cond.instanceMethod yX3_noLowerThan, Cond.selects RX3 yX3_noLowerThan yX3_noLowerThan, Cond.code yX3_noLowerThan cX3_noLowerThan 4 (some .int)]
def wsX6_minimal : List Cond := .code yX6_minimal cX6_minimal 4 (some .int) :: ((wsX6_minimal_r1 ++ (wsX6_minimal_r2 ++ (wsX6_minimal_r3 ++ (wsX6_minimal_r4 ++ (wsX6_minimal_r5 ++ (wsX6_minimal_r6 ++ (wsX6_minimal_r7 ++ (wsX6_minimal_r8 ++ (wsX6_minimal_r9 ++ (wsX6_minimal_r10 ++ wsX6_minimal_r11)))))))))) ++ wsX60 ++ wsX40 ++ wsX50 ++ wsX10 ++ wsX00 ++ wsX30 ++ wsX20)
def wsX6_sets_r1 : List Cond := [Cond.fieldLink RX6 39 "PartitionPlay" "shownPlay" "LPartitionPlay$Play;", Cond.fieldLink RX6 147 "PartitionPlay$Play" "turns" "I", Cond.fieldLink RX6 43 "PartitionPlay" "trial" "LPartitionPlay$Play;", Cond.methodLink RX6 120 yX4_run, Cond.instanceMethod yX4_run, Cond.selects RX4 yX4_run yX4_run, Cond.initialized RX4, Cond.code yX4_run cX4_run 4 (some .boolean), Cond.fieldLink RX4 58 "PartitionPlay$Play" "turns" "I", Cond.fieldLink RX4 54 "PartitionPlay$Play" "nodes" "LPartitionPlay$Nodes;", Cond.fieldLink RX4 45 "PartitionPlay$Play" "stopsAtFailure" "Z", Cond.fieldLink RX4 33 "PartitionPlay$Play" "failedAt" "I", Cond.methodLink RX4 61 yX4_begin, Cond.instanceMethod yX4_begin, Cond.selects RX4 yX4_begin yX4_begin, Cond.code yX4_begin cX4_begin 3 none, Cond.methodLink RX4 81 Lib.Math.min.name, Cond.static Lib.Math.min.name, Cond.initialized "java/lang/Math", Cond.code Lib.Math.min.name Lib.Math.min.code 2 (some .int), Cond.fieldLink RX4 87 "PartitionPlay$Play" "alsoLost" "I", Cond.fieldLink RX4 90 "PartitionPlay$Play" "taken" "I", Cond.fieldLink RX4 93 "PartitionPlay$Play" "gone" "I", Cond.fieldLink RX4 21 "PartitionPlay$Play" "letters" "LPartitionPlay$Letters;"]
def wsX6_sets_r2 : List Cond := [Cond.fieldLink RX4 12 "PartitionPlay$Play" "comings" "LPartitionPlay$Comings;", Cond.methodLink RX4 96 yX1_clear, Cond.instanceMethod yX1_clear, Cond.selects RX1 yX1_clear yX1_clear, Cond.initialized RX1, Cond.code yX1_clear cX1_clear 1 none, Cond.fieldLink RX1 33 "PartitionPlay$Letters" "size" "I", Cond.fieldLink RX1 37 "PartitionPlay$Letters" "lost" "I", Cond.methodLink RX4 99 yX0_clear, Cond.instanceMethod yX0_clear, Cond.selects RX0 yX0_clear yX0_clear, Cond.initialized RX0, Cond.code yX0_clear cX0_clear 1 none, Cond.fieldLink RX0 24 "PartitionPlay$Comings" "size" "I", Cond.fieldLink RX0 18 "PartitionPlay$Comings" "firsts" "[I", Cond.fieldLink RX0 21 "PartitionPlay$Comings" "lasts" "[I", Cond.methodLink RX0 28 yJ7_fill_53178, Cond.static yJ7_fill_53178, Cond.initialized RJ7, Cond.code yJ7_fill_53178 cJ7_fill_53178 4 none, Cond.methodLink RX4 100 yX3_begin, Cond.instanceMethod yX3_begin, Cond.selects RX3 yX3_begin yX3_begin, Cond.initialized RX3]
def wsX6_sets_r3 : List Cond := [Cond.code yX3_begin cX3_begin 2 none, Cond.fieldLink RX3 25 "PartitionPlay$Nodes" "shown" "[I", Cond.fieldLink RX3 28 "PartitionPlay$Nodes" "net" "LPartitionPlay$Net;", Cond.fieldLink RX3 38 "PartitionPlay$Net" "size" "I", Cond.fieldLink RX3 9 "PartitionPlay$Nodes" "heights" "[I", Cond.fieldLink RX3 15 "PartitionPlay$Nodes" "known" "[I", Cond.fieldLink RX3 44 "PartitionPlay$Net" "rumours" "[I", Cond.fieldLink RX3 18 "PartitionPlay$Nodes" "up" "[Z", Cond.fieldLink RX3 22 "PartitionPlay$Nodes" "grew" "[Z", Cond.fieldLink RX3 47 "PartitionPlay$Nodes" "group" "I", Cond.methodLink RX3 32 yJ7_fill_53178, Cond.methodLink RX4 65 yX4_meetEvents, Cond.instanceMethod yX4_meetEvents, Cond.selects RX4 yX4_meetEvents yX4_meetEvents, Cond.code yX4_meetEvents cX4_meetEvents 3 none, Cond.fieldLink RX4 41 "PartitionPlay$Play" "schedule" "LPartitionPlay$Schedule;", Cond.fieldLink RX4 102 "PartitionPlay$Schedule" "size" "I", Cond.fieldLink RX4 111 "PartitionPlay$Schedule" "kinds" "[I", Cond.fieldLink RX4 114 "PartitionPlay$Schedule" "as" "[I", Cond.methodLink RX4 107 yX5_happensAt, Cond.instanceMethod yX5_happensAt, Cond.selects RX5 yX5_happensAt yX5_happensAt, Cond.initialized RX5, Cond.code yX5_happensAt cX5_happensAt 3 (some .boolean)]
def wsX6_sets_r4 : List Cond := [Cond.fieldLink RX5 24 "PartitionPlay$Schedule" "leftOut" "[Z", Cond.fieldLink RX5 9 "PartitionPlay$Schedule" "kinds" "[I", Cond.fieldLink RX5 15 "PartitionPlay$Schedule" "turns" "[I", Cond.static yX6_isTimed, Cond.initialized RX6, Cond.code yX6_isTimed cX6_isTimed 1 (some .boolean), Cond.methodLink RX4 117 yX3_meet, Cond.instanceMethod yX3_meet, Cond.selects RX3 yX3_meet yX3_meet, Cond.code yX3_meet cX3_meet 3 none, Cond.methodLink RX3 50 yX2_has, Cond.instanceMethod yX2_has, Cond.selects RX2 yX2_has yX2_has, Cond.initialized RX2, Cond.code yX2_has cX2_has 2 (some .boolean), Cond.fieldLink RX2 21 "PartitionPlay$Net" "size" "I", Cond.methodLink RX3 54 yX3_forgetShown, Cond.instanceMethod yX3_forgetShown, Cond.selects RX3 yX3_forgetShown yX3_forgetShown, Cond.code yX3_forgetShown cX3_forgetShown 3 none, Cond.static yX6_pair, Cond.code yX6_pair cX6_pair 2 (some .int), Cond.methodLink RX4 69 yX4_takeInComings, Cond.instanceMethod yX4_takeInComings]
def wsX6_sets_r5 : List Cond := [Cond.selects RX4 yX4_takeInComings yX4_takeInComings, Cond.code yX4_takeInComings cX4_takeInComings 4 none, Cond.methodLink RX4 120 yX0_firstAt, Cond.instanceMethod yX0_firstAt, Cond.selects RX0 yX0_firstAt yX0_firstAt, Cond.code yX0_firstAt cX0_firstAt 2 (some .int), Cond.static yX6_isTurn, Cond.code yX6_isTurn cX6_isTurn 1 (some .boolean), Cond.methodLink RX4 124 yX0_letterOf, Cond.instanceMethod yX0_letterOf, Cond.selects RX0 yX0_letterOf yX0_letterOf, Cond.code yX0_letterOf cX0_letterOf 2 (some .int), Cond.fieldLink RX0 9 "PartitionPlay$Comings" "letters" "[I", Cond.methodLink RX0 38 yX0_has, Cond.instanceMethod yX0_has, Cond.selects RX0 yX0_has yX0_has, Cond.code yX0_has cX0_has 2 (some .boolean), Cond.methodLink RX4 127 yX4_takeIn, Cond.instanceMethod yX4_takeIn, Cond.selects RX4 yX4_takeIn yX4_takeIn, Cond.code yX4_takeIn cX4_takeIn 4 none, Cond.fieldLink RX4 137 "PartitionPlay$Letters" "senders" "[I", Cond.fieldLink RX4 140 "PartitionPlay$Letters" "receivers" "[I", Cond.fieldLink RX4 146 "PartitionPlay$Letters" "heights" "[I"]
def wsX6_sets_r6 : List Cond := [Cond.fieldLink RX4 147 "PartitionPlay$Letters" "rumours" "[I", Cond.fieldLink RX4 153 "PartitionPlay$Letters" "takenIn" "[I", Cond.methodLink RX4 133 yX1_has, Cond.instanceMethod yX1_has, Cond.selects RX1 yX1_has yX1_has, Cond.code yX1_has cX1_has 2 (some .boolean), Cond.methodLink RX4 143 yX3_canReach, Cond.instanceMethod yX3_canReach, Cond.selects RX3 yX3_canReach yX3_canReach, Cond.code yX3_canReach cX3_canReach 3 (some .boolean), Cond.methodLink RX4 150 yX3_takeIn, Cond.instanceMethod yX3_takeIn, Cond.selects RX3 yX3_takeIn yX3_takeIn, Cond.code yX3_takeIn cX3_takeIn 6 none, Cond.methodLink RX3 62 Lib.Math.max.name, Cond.static Lib.Math.max.name, Cond.code Lib.Math.max.name Lib.Math.max.code 2 (some .int), Cond.methodLink RX4 130 yX0_behind, Cond.instanceMethod yX0_behind, Cond.selects RX0 yX0_behind yX0_behind, Cond.code yX0_behind cX0_behind 2 (some .int), Cond.fieldLink RX0 15 "PartitionPlay$Comings" "followers" "[I", Cond.methodLink RX4 72 yX3_grow, Cond.instanceMethod yX3_grow]
def wsX6_sets_r7 : List Cond := [Cond.selects RX3 yX3_grow yX3_grow, Cond.code yX3_grow cX3_grow 2 none, Cond.methodLink RX3 67 yX3_thatShowedEnoughTo, Cond.instanceMethod yX3_thatShowedEnoughTo, Cond.selects RX3 yX3_thatShowedEnoughTo yX3_thatShowedEnoughTo, Cond.code yX3_thatShowedEnoughTo cX3_thatShowedEnoughTo 4 (some .int), Cond.methodLink RX3 71 yX2_isMoreThanHalf, Cond.instanceMethod yX2_isMoreThanHalf, Cond.selects RX2 yX2_isMoreThanHalf yX2_isMoreThanHalf, Cond.code yX2_isMoreThanHalf cX2_isMoreThanHalf 2 (some .boolean), Cond.methodLink RX4 75 yX4_sendLetters, Cond.instanceMethod yX4_sendLetters, Cond.selects RX4 yX4_sendLetters yX4_sendLetters, Cond.code yX4_sendLetters cX4_sendLetters 5 none, Cond.fieldLink RX4 37 "PartitionPlay$Play" "net" "LPartitionPlay$Net;", Cond.fieldLink RX4 156 "PartitionPlay$Net" "size" "I", Cond.fieldLink RX4 159 "PartitionPlay$Nodes" "up" "[Z", Cond.fieldLink RX4 162 "PartitionPlay$Net" "behaviours" "[I", Cond.fieldLink RX4 165 "PartitionPlay$Nodes" "grew" "[Z", Cond.methodLink RX4 168 yX4_sendFrom, Cond.instanceMethod yX4_sendFrom, Cond.selects RX4 yX4_sendFrom yX4_sendFrom, Cond.code yX4_sendFrom cX4_sendFrom 6 none, Cond.fieldLink RX4 171 "PartitionPlay$Nodes" "heights" "[I"]
def wsX6_sets_r8 : List Cond := [Cond.fieldLink RX4 175 "PartitionPlay$Nodes" "known" "[I", Cond.fieldLink RX4 182 "PartitionPlay$Net" "delays" "[I", Cond.methodLink RX4 172 yX2_heightSaid, Cond.instanceMethod yX2_heightSaid, Cond.selects RX2 yX2_heightSaid yX2_heightSaid, Cond.code yX2_heightSaid cX2_heightSaid 3 (some .int), Cond.fieldLink RX2 9 "PartitionPlay$Net" "behaviours" "[I", Cond.methodLink RX4 178 yX1_add, Cond.instanceMethod yX1_add, Cond.selects RX1 yX1_add yX1_add, Cond.code yX1_add cX1_add 6 (some .int), Cond.fieldLink RX1 9 "PartitionPlay$Letters" "senders" "[I", Cond.fieldLink RX1 15 "PartitionPlay$Letters" "receivers" "[I", Cond.fieldLink RX1 18 "PartitionPlay$Letters" "turns" "[I", Cond.fieldLink RX1 21 "PartitionPlay$Letters" "heights" "[I", Cond.fieldLink RX1 24 "PartitionPlay$Letters" "rumours" "[I", Cond.fieldLink RX1 27 "PartitionPlay$Letters" "firstComings" "[I", Cond.fieldLink RX1 30 "PartitionPlay$Letters" "takenIn" "[I", Cond.methodLink RX4 188 yX4_post, Cond.instanceMethod yX4_post, Cond.selects RX4 yX4_post yX4_post, Cond.code yX4_post cX4_post 5 none, Cond.fieldLink RX4 200 "PartitionPlay$Letters" "lost" "I", Cond.fieldLink RX4 206 "PartitionPlay$Letters" "firstComings" "[I"]
def wsX6_sets_r9 : List Cond := [Cond.methodLink RX4 191 yX5_names, Cond.instanceMethod yX5_names, Cond.selects RX5 yX5_names yX5_names, Cond.code yX5_names cX5_names 2 (some .boolean), Cond.fieldLink RX5 28 "PartitionPlay$Schedule" "namings" "[I", Cond.static yX6_isLetter, Cond.code yX6_isLetter cX6_isLetter 1 (some .boolean), Cond.methodLink RX4 194 yX4_isAlsoLost, Cond.instanceMethod yX4_isAlsoLost, Cond.selects RX4 yX4_isAlsoLost yX4_isAlsoLost, Cond.code yX4_isAlsoLost cX4_isAlsoLost 2 (some .boolean), Cond.methodLink RX4 197 yX5_loses, Cond.instanceMethod yX5_loses, Cond.selects RX5 yX5_loses yX5_loses, Cond.code yX5_loses cX5_loses 3 (some .boolean), Cond.fieldLink RX5 31 "PartitionPlay$Schedule" "size" "I", Cond.methodLink RX5 56 yX5_does, Cond.instanceMethod yX5_does, Cond.selects RX5 yX5_does yX5_does, Cond.code yX5_does cX5_does 4 (some .boolean), Cond.fieldLink RX5 18 "PartitionPlay$Schedule" "as" "[I", Cond.methodLink RX4 203 yX5_lateness, Cond.instanceMethod yX5_lateness, Cond.selects RX5 yX5_lateness yX5_lateness]
def wsX6_sets_r10 : List Cond := [Cond.code yX5_lateness cX5_lateness 4 (some .int), Cond.fieldLink RX5 21 "PartitionPlay$Schedule" "bs" "[I", Cond.methodLink RX4 209 yX0_add, Cond.instanceMethod yX0_add, Cond.selects RX0 yX0_add yX0_add, Cond.code yX0_add cX0_add 3 none, Cond.methodLink RX4 211 yX4_postDoubles, Cond.instanceMethod yX4_postDoubles, Cond.selects RX4 yX4_postDoubles yX4_postDoubles, Cond.code yX4_postDoubles cX4_postDoubles 4 none, Cond.fieldLink RX4 218 "PartitionPlay$Schedule" "bs" "[I", Cond.methodLink RX4 214 yX5_does, Cond.methodLink RX4 78 yX4_keepRecord, Cond.instanceMethod yX4_keepRecord, Cond.selects RX4 yX4_keepRecord yX4_keepRecord, Cond.code yX4_keepRecord cX4_keepRecord 3 none, Cond.fieldLink RX4 25 "PartitionPlay$Play" "heights" "[I", Cond.fieldLink RX4 29 "PartitionPlay$Play" "held" "[Z", Cond.static yX6_place, Cond.code yX6_place cX6_place 2 (some .int), Cond.methodLink RX4 224 yX3_keepTheRule, Cond.instanceMethod yX3_keepTheRule, Cond.selects RX3 yX3_keepTheRule yX3_keepTheRule, Cond.code yX3_keepTheRule cX3_keepTheRule 3 (some .boolean)]
def wsX6_sets_r11 : List Cond := [Cond.fieldLink RX3 74 "PartitionPlay$Net" "behaviours" "[I", Cond.methodLink RX3 77 yX3_noLowerThan, Cond.instanceMethod yX3_noLowerThan, Cond.selects RX3 yX3_noLowerThan yX3_noLowerThan, Cond.code yX3_noLowerThan cX3_noLowerThan 4 (some .int)]
def wsX6_sets : List Cond := .code yX6_sets cX6_sets 4 (some .int) :: ((wsX6_sets_r1 ++ (wsX6_sets_r2 ++ (wsX6_sets_r3 ++ (wsX6_sets_r4 ++ (wsX6_sets_r5 ++ (wsX6_sets_r6 ++ (wsX6_sets_r7 ++ (wsX6_sets_r8 ++ (wsX6_sets_r9 ++ (wsX6_sets_r10 ++ wsX6_sets_r11)))))))))) ++ wsX60 ++ wsX40 ++ wsX10 ++ wsX00 ++ wsX30 ++ wsX20 ++ wsX50)
def wsX6_count : List Cond := .code yX6_count cX6_count 2 (some .int) :: ([.fieldLink RX6 23 "PartitionPlay" "net" "LPartitionPlay$Net;", .fieldLink RX6 186 "PartitionPlay$Net" "size" "I", .fieldLink RX6 30 "PartitionPlay" "schedule" "LPartitionPlay$Schedule;", .fieldLink RX6 104 "PartitionPlay$Schedule" "size" "I", .fieldLink RX6 39 "PartitionPlay" "shownPlay" "LPartitionPlay$Play;", .fieldLink RX6 147 "PartitionPlay$Play" "turns" "I", .fieldLink RX6 152 "PartitionPlay$Play" "letters" "LPartitionPlay$Letters;", .fieldLink RX6 187 "PartitionPlay$Letters" "size" "I", .fieldLink RX6 188 "PartitionPlay$Letters" "lost" "I", .fieldLink RX6 191 "PartitionPlay$Play" "taken" "I", .fieldLink RX6 194 "PartitionPlay$Play" "gone" "I"] ++ wsX60 ++ wsX20 ++ wsX50 ++ wsX40 ++ wsX10)
def wsX7_init_r1 : List Cond := [Cond.methodLink RX7 1 objectInit, Cond.instanceMethod objectInit, Cond.code objectInit ⟨#[0xb1]⟩ 1 none, Cond.arrayClass .int, Cond.fieldLink RX7 7 "PartitionPlayModel" "behaviour" "[I", Cond.fieldLink RX7 13 "PartitionPlayModel" "delay" "[I", Cond.fieldLink RX7 16 "PartitionPlayModel" "rumours" "[I", Cond.fieldLink RX7 19 "PartitionPlayModel" "kind" "[I", Cond.fieldLink RX7 22 "PartitionPlayModel" "when" "[I", Cond.fieldLink RX7 25 "PartitionPlayModel" "first" "[I", Cond.fieldLink RX7 28 "PartitionPlayModel" "second" "[I", Cond.arrayClass .boolean, Cond.fieldLink RX7 31 "PartitionPlayModel" "isOut" "[Z", Cond.fieldLink RX7 35 "PartitionPlayModel" "turns" "[I", Cond.fieldLink RX7 38 "PartitionPlayModel" "letters" "[I", Cond.fieldLink RX7 41 "PartitionPlayModel" "lost" "[I", Cond.fieldLink RX7 44 "PartitionPlayModel" "taken" "[I", Cond.fieldLink RX7 47 "PartitionPlayModel" "gone" "[I", Cond.fieldLink RX7 50 "PartitionPlayModel" "failed" "[I", Cond.fieldLink RX7 53 "PartitionPlayModel" "heights" "[I", Cond.fieldLink RX7 56 "PartitionPlayModel" "held" "[Z", Cond.fieldLink RX7 59 "PartitionPlayModel" "known" "[I", Cond.fieldLink RX7 62 "PartitionPlayModel" "from" "[I", Cond.fieldLink RX7 65 "PartitionPlayModel" "to" "[I"]
def wsX7_init_r2 : List Cond := [Cond.fieldLink RX7 68 "PartitionPlayModel" "sent" "[I", Cond.fieldLink RX7 71 "PartitionPlayModel" "height" "[I", Cond.fieldLink RX7 74 "PartitionPlayModel" "carried" "[I", Cond.fieldLink RX7 77 "PartitionPlayModel" "comes" "[I", Cond.fieldLink RX7 80 "PartitionPlayModel" "often" "[I", Cond.fieldLink RX7 83 "PartitionPlayModel" "doubles" "[I", Cond.fieldLink RX7 86 "PartitionPlayModel" "now" "[I", Cond.fieldLink RX7 89 "PartitionPlayModel" "knows" "[I", Cond.fieldLink RX7 92 "PartitionPlayModel" "shown" "[I", Cond.fieldLink RX7 95 "PartitionPlayModel" "isDown" "[Z", Cond.fieldLink RX7 98 "PartitionPlayModel" "grew" "[Z", Cond.fieldLink RX7 101 "PartitionPlayModel" "n" "I"]
def wsX7_init : List Cond := .code yX7_init cX7_init 3 none :: ((wsX7_init_r1 ++ wsX7_init_r2) ++ wsX70)
def wsX7_in : List Cond := .code yX7_in cX7_in 3 (some .boolean) :: ([])
def wsX7_isNode : List Cond := .code yX7_isNode cX7_isNode 2 (some .boolean) :: ([.fieldLink RX7 101 "PartitionPlayModel" "n" "I", .methodLink RX7 105 yX7_in, .static yX7_in, .initialized RX7, .code yX7_in cX7_in 3 (some .boolean)] ++ wsX70)
def wsX7_behaviour : List Cond := .code yX7_behaviour cX7_behaviour 4 (some .int) :: ([.fieldLink RX7 7 "PartitionPlayModel" "behaviour" "[I", .methodLink RX7 109 yX7_isNode, .instanceMethod yX7_isNode, .selects RX7 yX7_isNode yX7_isNode, .initialized RX7, .code yX7_isNode cX7_isNode 2 (some .boolean), .fieldLink RX7 101 "PartitionPlayModel" "n" "I", .methodLink RX7 105 yX7_in, .static yX7_in, .code yX7_in cX7_in 3 (some .boolean)] ++ wsX70)
def wsX7_delay : List Cond := .code yX7_delay cX7_delay 5 (some .int) :: ([.fieldLink RX7 13 "PartitionPlayModel" "delay" "[I", .methodLink RX7 109 yX7_isNode, .instanceMethod yX7_isNode, .selects RX7 yX7_isNode yX7_isNode, .initialized RX7, .code yX7_isNode cX7_isNode 2 (some .boolean), .fieldLink RX7 101 "PartitionPlayModel" "n" "I", .methodLink RX7 105 yX7_in, .static yX7_in, .code yX7_in cX7_in 3 (some .boolean)] ++ wsX70)
def wsX7_bits : List Cond := .code yX7_bits cX7_bits 3 (some .int) :: ([])
def wsX7_tell : List Cond := .code yX7_tell cX7_tell 3 (some .int) :: ([.fieldLink RX7 16 "PartitionPlayModel" "rumours" "[I", .methodLink RX7 109 yX7_isNode, .instanceMethod yX7_isNode, .selects RX7 yX7_isNode yX7_isNode, .initialized RX7, .code yX7_isNode cX7_isNode 2 (some .boolean), .fieldLink RX7 101 "PartitionPlayModel" "n" "I", .methodLink RX7 105 yX7_in, .static yX7_in, .code yX7_in cX7_in 3 (some .boolean), .methodLink RX7 113 yX7_bits, .static yX7_bits, .code yX7_bits cX7_bits 3 (some .int)] ++ wsX70)
def wsX7_event : List Cond := .code yX7_event cX7_event 5 (some .int) :: ([.fieldLink RX7 101 "PartitionPlayModel" "n" "I", .fieldLink RX7 117 "PartitionPlayModel" "events" "I", .fieldLink RX7 19 "PartitionPlayModel" "kind" "[I", .fieldLink RX7 22 "PartitionPlayModel" "when" "[I", .fieldLink RX7 25 "PartitionPlayModel" "first" "[I", .fieldLink RX7 28 "PartitionPlayModel" "second" "[I", .methodLink RX7 105 yX7_in, .static yX7_in, .initialized RX7, .code yX7_in cX7_in 3 (some .boolean), .methodLink RX7 109 yX7_isNode, .instanceMethod yX7_isNode, .selects RX7 yX7_isNode yX7_isNode, .code yX7_isNode cX7_isNode 2 (some .boolean)] ++ wsX70)
def wsX7_remove : List Cond := .code yX7_remove cX7_remove 3 none :: ([.fieldLink RX7 117 "PartitionPlayModel" "events" "I", .fieldLink RX7 19 "PartitionPlayModel" "kind" "[I", .fieldLink RX7 22 "PartitionPlayModel" "when" "[I", .fieldLink RX7 25 "PartitionPlayModel" "first" "[I", .fieldLink RX7 28 "PartitionPlayModel" "second" "[I"] ++ wsX70)
def wsX7_drop : List Cond := .code yX7_drop cX7_drop 2 (some .int) :: ([.fieldLink RX7 117 "PartitionPlayModel" "events" "I", .methodLink RX7 105 yX7_in, .static yX7_in, .initialized RX7, .code yX7_in cX7_in 3 (some .boolean), .methodLink RX7 120 yX7_remove, .instanceMethod yX7_remove, .selects RX7 yX7_remove yX7_remove, .code yX7_remove cX7_remove 3 none, .fieldLink RX7 19 "PartitionPlayModel" "kind" "[I", .fieldLink RX7 22 "PartitionPlayModel" "when" "[I", .fieldLink RX7 25 "PartitionPlayModel" "first" "[I", .fieldLink RX7 28 "PartitionPlayModel" "second" "[I"] ++ wsX70)
def wsX7_told : List Cond := .code yX7_told cX7_told 3 (some .int) :: ([.fieldLink RX7 117 "PartitionPlayModel" "events" "I", .fieldLink RX7 19 "PartitionPlayModel" "kind" "[I", .fieldLink RX7 22 "PartitionPlayModel" "when" "[I", .fieldLink RX7 25 "PartitionPlayModel" "first" "[I", .fieldLink RX7 28 "PartitionPlayModel" "second" "[I", .methodLink RX7 105 yX7_in, .static yX7_in, .initialized RX7, .code yX7_in cX7_in 3 (some .boolean)] ++ wsX70)
def wsX7_isTogether : List Cond := .code yX7_isTogether cX7_isTogether 3 (some .boolean) :: ([.fieldLink RX7 124 "PartitionPlayModel" "group" "I"] ++ wsX70)
def wsX7_happen : List Cond := .code yX7_happen cX7_happen 5 none :: ([.fieldLink RX7 117 "PartitionPlayModel" "events" "I", .fieldLink RX7 31 "PartitionPlayModel" "isOut" "[Z", .fieldLink RX7 19 "PartitionPlayModel" "kind" "[I", .fieldLink RX7 22 "PartitionPlayModel" "when" "[I", .fieldLink RX7 25 "PartitionPlayModel" "first" "[I", .fieldLink RX7 124 "PartitionPlayModel" "group" "I", .fieldLink RX7 95 "PartitionPlayModel" "isDown" "[Z", .fieldLink RX7 92 "PartitionPlayModel" "shown" "[I"] ++ wsX70)
def wsX7_come : List Cond := .code yX7_come cX7_come 6 none :: ([.fieldLink RX7 65 "PartitionPlayModel" "to" "[I", .fieldLink RX7 95 "PartitionPlayModel" "isDown" "[Z", .fieldLink RX7 62 "PartitionPlayModel" "from" "[I", .fieldLink RX7 47 "PartitionPlayModel" "gone" "[I", .fieldLink RX7 44 "PartitionPlayModel" "taken" "[I", .fieldLink RX7 80 "PartitionPlayModel" "often" "[I", .fieldLink RX7 92 "PartitionPlayModel" "shown" "[I", .fieldLink RX7 71 "PartitionPlayModel" "height" "[I", .fieldLink RX7 89 "PartitionPlayModel" "knows" "[I", .fieldLink RX7 74 "PartitionPlayModel" "carried" "[I", .methodLink RX7 127 yX7_isTogether, .instanceMethod yX7_isTogether, .selects RX7 yX7_isTogether yX7_isTogether, .initialized RX7, .code yX7_isTogether cX7_isTogether 3 (some .boolean), .fieldLink RX7 124 "PartitionPlayModel" "group" "I"] ++ wsX70)
def wsX7_takeIn_r1 : List Cond := [Cond.fieldLink RX7 38 "PartitionPlayModel" "letters" "[I", Cond.fieldLink RX7 77 "PartitionPlayModel" "comes" "[I", Cond.fieldLink RX7 83 "PartitionPlayModel" "doubles" "[I", Cond.methodLink RX7 105 yX7_in, Cond.static yX7_in, Cond.initialized RX7, Cond.code yX7_in cX7_in 3 (some .boolean), Cond.methodLink RX7 131 yX7_come, Cond.instanceMethod yX7_come, Cond.selects RX7 yX7_come yX7_come, Cond.code yX7_come cX7_come 6 none, Cond.fieldLink RX7 65 "PartitionPlayModel" "to" "[I", Cond.fieldLink RX7 95 "PartitionPlayModel" "isDown" "[Z", Cond.fieldLink RX7 62 "PartitionPlayModel" "from" "[I", Cond.fieldLink RX7 47 "PartitionPlayModel" "gone" "[I", Cond.fieldLink RX7 44 "PartitionPlayModel" "taken" "[I", Cond.fieldLink RX7 80 "PartitionPlayModel" "often" "[I", Cond.fieldLink RX7 92 "PartitionPlayModel" "shown" "[I", Cond.fieldLink RX7 71 "PartitionPlayModel" "height" "[I", Cond.fieldLink RX7 89 "PartitionPlayModel" "knows" "[I", Cond.fieldLink RX7 74 "PartitionPlayModel" "carried" "[I", Cond.methodLink RX7 127 yX7_isTogether, Cond.instanceMethod yX7_isTogether, Cond.selects RX7 yX7_isTogether yX7_isTogether]
def wsX7_takeIn_r2 : List Cond := [Cond.code yX7_isTogether cX7_isTogether 3 (some .boolean), Cond.fieldLink RX7 124 "PartitionPlayModel" "group" "I"]
def wsX7_takeIn : List Cond := .code yX7_takeIn cX7_takeIn 7 none :: ((wsX7_takeIn_r1 ++ wsX7_takeIn_r2) ++ wsX70)
def wsX7_grow : List Cond := .code yX7_grow cX7_grow 4 none :: ([.fieldLink RX7 101 "PartitionPlayModel" "n" "I", .fieldLink RX7 92 "PartitionPlayModel" "shown" "[I", .fieldLink RX7 86 "PartitionPlayModel" "now" "[I", .fieldLink RX7 98 "PartitionPlayModel" "grew" "[Z", .fieldLink RX7 95 "PartitionPlayModel" "isDown" "[Z"] ++ wsX70)
def wsX7_send : List Cond := .code yX7_send cX7_send 9 none :: ([.fieldLink RX7 38 "PartitionPlayModel" "letters" "[I", .fieldLink RX7 62 "PartitionPlayModel" "from" "[I", .fieldLink RX7 65 "PartitionPlayModel" "to" "[I", .fieldLink RX7 68 "PartitionPlayModel" "sent" "[I", .fieldLink RX7 71 "PartitionPlayModel" "height" "[I", .fieldLink RX7 7 "PartitionPlayModel" "behaviour" "[I", .fieldLink RX7 86 "PartitionPlayModel" "now" "[I", .fieldLink RX7 74 "PartitionPlayModel" "carried" "[I", .fieldLink RX7 89 "PartitionPlayModel" "knows" "[I", .fieldLink RX7 80 "PartitionPlayModel" "often" "[I", .fieldLink RX7 77 "PartitionPlayModel" "comes" "[I", .fieldLink RX7 13 "PartitionPlayModel" "delay" "[I", .fieldLink RX7 135 "PartitionPlayModel" "lostToo" "I", .fieldLink RX7 83 "PartitionPlayModel" "doubles" "[I", .fieldLink RX7 117 "PartitionPlayModel" "events" "I", .fieldLink RX7 31 "PartitionPlayModel" "isOut" "[Z", .fieldLink RX7 19 "PartitionPlayModel" "kind" "[I", .fieldLink RX7 25 "PartitionPlayModel" "first" "[I", .fieldLink RX7 28 "PartitionPlayModel" "second" "[I", .fieldLink RX7 41 "PartitionPlayModel" "lost" "[I"] ++ wsX70)
def wsX7_isRule : List Cond := .code yX7_isRule cX7_isRule 4 (some .boolean) :: ([.fieldLink RX7 101 "PartitionPlayModel" "n" "I", .fieldLink RX7 7 "PartitionPlayModel" "behaviour" "[I", .fieldLink RX7 86 "PartitionPlayModel" "now" "[I"] ++ wsX70)
def wsX7_run_r1 : List Cond := [Cond.fieldLink RX7 35 "PartitionPlayModel" "turns" "[I", Cond.fieldLink RX7 38 "PartitionPlayModel" "letters" "[I", Cond.fieldLink RX7 41 "PartitionPlayModel" "lost" "[I", Cond.fieldLink RX7 44 "PartitionPlayModel" "taken" "[I", Cond.fieldLink RX7 47 "PartitionPlayModel" "gone" "[I", Cond.fieldLink RX7 50 "PartitionPlayModel" "failed" "[I", Cond.fieldLink RX7 124 "PartitionPlayModel" "group" "I", Cond.fieldLink RX7 86 "PartitionPlayModel" "now" "[I", Cond.fieldLink RX7 89 "PartitionPlayModel" "knows" "[I", Cond.fieldLink RX7 16 "PartitionPlayModel" "rumours" "[I", Cond.fieldLink RX7 95 "PartitionPlayModel" "isDown" "[Z", Cond.fieldLink RX7 92 "PartitionPlayModel" "shown" "[I", Cond.fieldLink RX7 101 "PartitionPlayModel" "n" "I", Cond.fieldLink RX7 7 "PartitionPlayModel" "behaviour" "[I", Cond.fieldLink RX7 98 "PartitionPlayModel" "grew" "[Z", Cond.fieldLink RX7 53 "PartitionPlayModel" "heights" "[I", Cond.fieldLink RX7 56 "PartitionPlayModel" "held" "[Z", Cond.fieldLink RX7 59 "PartitionPlayModel" "known" "[I", Cond.methodLink RX7 138 yX7_happen, Cond.instanceMethod yX7_happen, Cond.selects RX7 yX7_happen yX7_happen, Cond.initialized RX7, Cond.code yX7_happen cX7_happen 5 none, Cond.fieldLink RX7 117 "PartitionPlayModel" "events" "I"]
def wsX7_run_r2 : List Cond := [Cond.fieldLink RX7 31 "PartitionPlayModel" "isOut" "[Z", Cond.fieldLink RX7 19 "PartitionPlayModel" "kind" "[I", Cond.fieldLink RX7 22 "PartitionPlayModel" "when" "[I", Cond.fieldLink RX7 25 "PartitionPlayModel" "first" "[I", Cond.methodLink RX7 141 yX7_takeIn, Cond.instanceMethod yX7_takeIn, Cond.selects RX7 yX7_takeIn yX7_takeIn, Cond.code yX7_takeIn cX7_takeIn 7 none, Cond.fieldLink RX7 77 "PartitionPlayModel" "comes" "[I", Cond.fieldLink RX7 83 "PartitionPlayModel" "doubles" "[I", Cond.methodLink RX7 105 yX7_in, Cond.static yX7_in, Cond.code yX7_in cX7_in 3 (some .boolean), Cond.methodLink RX7 131 yX7_come, Cond.instanceMethod yX7_come, Cond.selects RX7 yX7_come yX7_come, Cond.code yX7_come cX7_come 6 none, Cond.fieldLink RX7 65 "PartitionPlayModel" "to" "[I", Cond.fieldLink RX7 62 "PartitionPlayModel" "from" "[I", Cond.fieldLink RX7 80 "PartitionPlayModel" "often" "[I", Cond.fieldLink RX7 71 "PartitionPlayModel" "height" "[I", Cond.fieldLink RX7 74 "PartitionPlayModel" "carried" "[I", Cond.methodLink RX7 127 yX7_isTogether, Cond.instanceMethod yX7_isTogether]
def wsX7_run_r3 : List Cond := [Cond.selects RX7 yX7_isTogether yX7_isTogether, Cond.code yX7_isTogether cX7_isTogether 3 (some .boolean), Cond.methodLink RX7 145 yX7_grow, Cond.instanceMethod yX7_grow, Cond.selects RX7 yX7_grow yX7_grow, Cond.code yX7_grow cX7_grow 4 none, Cond.methodLink RX7 148 yX7_send, Cond.instanceMethod yX7_send, Cond.selects RX7 yX7_send yX7_send, Cond.code yX7_send cX7_send 9 none, Cond.fieldLink RX7 68 "PartitionPlayModel" "sent" "[I", Cond.fieldLink RX7 13 "PartitionPlayModel" "delay" "[I", Cond.fieldLink RX7 135 "PartitionPlayModel" "lostToo" "I", Cond.fieldLink RX7 28 "PartitionPlayModel" "second" "[I", Cond.methodLink RX7 152 yX7_isRule, Cond.instanceMethod yX7_isRule, Cond.selects RX7 yX7_isRule yX7_isRule, Cond.code yX7_isRule cX7_isRule 4 (some .boolean)]
def wsX7_run : List Cond := .code yX7_run cX7_run 6 none :: ((wsX7_run_r1 ++ (wsX7_run_r2 ++ wsX7_run_r3)) ++ wsX70)
def wsX7_isFailing_r1 : List Cond := [Cond.fieldLink RX7 35 "PartitionPlayModel" "turns" "[I", Cond.fieldLink RX7 50 "PartitionPlayModel" "failed" "[I", Cond.methodLink RX7 156 yX7_run, Cond.instanceMethod yX7_run, Cond.selects RX7 yX7_run yX7_run, Cond.initialized RX7, Cond.code yX7_run cX7_run 6 none, Cond.fieldLink RX7 38 "PartitionPlayModel" "letters" "[I", Cond.fieldLink RX7 41 "PartitionPlayModel" "lost" "[I", Cond.fieldLink RX7 44 "PartitionPlayModel" "taken" "[I", Cond.fieldLink RX7 47 "PartitionPlayModel" "gone" "[I", Cond.fieldLink RX7 124 "PartitionPlayModel" "group" "I", Cond.fieldLink RX7 86 "PartitionPlayModel" "now" "[I", Cond.fieldLink RX7 89 "PartitionPlayModel" "knows" "[I", Cond.fieldLink RX7 16 "PartitionPlayModel" "rumours" "[I", Cond.fieldLink RX7 95 "PartitionPlayModel" "isDown" "[Z", Cond.fieldLink RX7 92 "PartitionPlayModel" "shown" "[I", Cond.fieldLink RX7 101 "PartitionPlayModel" "n" "I", Cond.fieldLink RX7 7 "PartitionPlayModel" "behaviour" "[I", Cond.fieldLink RX7 98 "PartitionPlayModel" "grew" "[Z", Cond.fieldLink RX7 53 "PartitionPlayModel" "heights" "[I", Cond.fieldLink RX7 56 "PartitionPlayModel" "held" "[Z", Cond.fieldLink RX7 59 "PartitionPlayModel" "known" "[I", Cond.methodLink RX7 138 yX7_happen]
def wsX7_isFailing_r2 : List Cond := [Cond.instanceMethod yX7_happen, Cond.selects RX7 yX7_happen yX7_happen, Cond.code yX7_happen cX7_happen 5 none, Cond.fieldLink RX7 117 "PartitionPlayModel" "events" "I", Cond.fieldLink RX7 31 "PartitionPlayModel" "isOut" "[Z", Cond.fieldLink RX7 19 "PartitionPlayModel" "kind" "[I", Cond.fieldLink RX7 22 "PartitionPlayModel" "when" "[I", Cond.fieldLink RX7 25 "PartitionPlayModel" "first" "[I", Cond.methodLink RX7 141 yX7_takeIn, Cond.instanceMethod yX7_takeIn, Cond.selects RX7 yX7_takeIn yX7_takeIn, Cond.code yX7_takeIn cX7_takeIn 7 none, Cond.fieldLink RX7 77 "PartitionPlayModel" "comes" "[I", Cond.fieldLink RX7 83 "PartitionPlayModel" "doubles" "[I", Cond.methodLink RX7 105 yX7_in, Cond.static yX7_in, Cond.code yX7_in cX7_in 3 (some .boolean), Cond.methodLink RX7 131 yX7_come, Cond.instanceMethod yX7_come, Cond.selects RX7 yX7_come yX7_come, Cond.code yX7_come cX7_come 6 none, Cond.fieldLink RX7 65 "PartitionPlayModel" "to" "[I", Cond.fieldLink RX7 62 "PartitionPlayModel" "from" "[I", Cond.fieldLink RX7 80 "PartitionPlayModel" "often" "[I"]
def wsX7_isFailing_r3 : List Cond := [Cond.fieldLink RX7 71 "PartitionPlayModel" "height" "[I", Cond.fieldLink RX7 74 "PartitionPlayModel" "carried" "[I", Cond.methodLink RX7 127 yX7_isTogether, Cond.instanceMethod yX7_isTogether, Cond.selects RX7 yX7_isTogether yX7_isTogether, Cond.code yX7_isTogether cX7_isTogether 3 (some .boolean), Cond.methodLink RX7 145 yX7_grow, Cond.instanceMethod yX7_grow, Cond.selects RX7 yX7_grow yX7_grow, Cond.code yX7_grow cX7_grow 4 none, Cond.methodLink RX7 148 yX7_send, Cond.instanceMethod yX7_send, Cond.selects RX7 yX7_send yX7_send, Cond.code yX7_send cX7_send 9 none, Cond.fieldLink RX7 68 "PartitionPlayModel" "sent" "[I", Cond.fieldLink RX7 13 "PartitionPlayModel" "delay" "[I", Cond.fieldLink RX7 135 "PartitionPlayModel" "lostToo" "I", Cond.fieldLink RX7 28 "PartitionPlayModel" "second" "[I", Cond.methodLink RX7 152 yX7_isRule, Cond.instanceMethod yX7_isRule, Cond.selects RX7 yX7_isRule yX7_isRule, Cond.code yX7_isRule cX7_isRule 4 (some .boolean)]
def wsX7_isFailing : List Cond := .code yX7_isFailing cX7_isFailing 1 (some .boolean) :: ((wsX7_isFailing_r1 ++ (wsX7_isFailing_r2 ++ wsX7_isFailing_r3)) ++ wsX70)
def wsX7_play_r1 : List Cond := [Cond.fieldLink RX7 101 "PartitionPlayModel" "n" "I", Cond.fieldLink RX7 86 "PartitionPlayModel" "now" "[I", Cond.methodLink RX7 105 yX7_in, Cond.static yX7_in, Cond.initialized RX7, Cond.code yX7_in cX7_in 3 (some .boolean), Cond.methodLink RX7 156 yX7_run, Cond.instanceMethod yX7_run, Cond.selects RX7 yX7_run yX7_run, Cond.code yX7_run cX7_run 6 none, Cond.fieldLink RX7 35 "PartitionPlayModel" "turns" "[I", Cond.fieldLink RX7 38 "PartitionPlayModel" "letters" "[I", Cond.fieldLink RX7 41 "PartitionPlayModel" "lost" "[I", Cond.fieldLink RX7 44 "PartitionPlayModel" "taken" "[I", Cond.fieldLink RX7 47 "PartitionPlayModel" "gone" "[I", Cond.fieldLink RX7 50 "PartitionPlayModel" "failed" "[I", Cond.fieldLink RX7 124 "PartitionPlayModel" "group" "I", Cond.fieldLink RX7 89 "PartitionPlayModel" "knows" "[I", Cond.fieldLink RX7 16 "PartitionPlayModel" "rumours" "[I", Cond.fieldLink RX7 95 "PartitionPlayModel" "isDown" "[Z", Cond.fieldLink RX7 92 "PartitionPlayModel" "shown" "[I", Cond.fieldLink RX7 7 "PartitionPlayModel" "behaviour" "[I", Cond.fieldLink RX7 98 "PartitionPlayModel" "grew" "[Z", Cond.fieldLink RX7 53 "PartitionPlayModel" "heights" "[I"]
def wsX7_play_r2 : List Cond := [Cond.fieldLink RX7 56 "PartitionPlayModel" "held" "[Z", Cond.fieldLink RX7 59 "PartitionPlayModel" "known" "[I", Cond.methodLink RX7 138 yX7_happen, Cond.instanceMethod yX7_happen, Cond.selects RX7 yX7_happen yX7_happen, Cond.code yX7_happen cX7_happen 5 none, Cond.fieldLink RX7 117 "PartitionPlayModel" "events" "I", Cond.fieldLink RX7 31 "PartitionPlayModel" "isOut" "[Z", Cond.fieldLink RX7 19 "PartitionPlayModel" "kind" "[I", Cond.fieldLink RX7 22 "PartitionPlayModel" "when" "[I", Cond.fieldLink RX7 25 "PartitionPlayModel" "first" "[I", Cond.methodLink RX7 141 yX7_takeIn, Cond.instanceMethod yX7_takeIn, Cond.selects RX7 yX7_takeIn yX7_takeIn, Cond.code yX7_takeIn cX7_takeIn 7 none, Cond.fieldLink RX7 77 "PartitionPlayModel" "comes" "[I", Cond.fieldLink RX7 83 "PartitionPlayModel" "doubles" "[I", Cond.methodLink RX7 131 yX7_come, Cond.instanceMethod yX7_come, Cond.selects RX7 yX7_come yX7_come, Cond.code yX7_come cX7_come 6 none, Cond.fieldLink RX7 65 "PartitionPlayModel" "to" "[I", Cond.fieldLink RX7 62 "PartitionPlayModel" "from" "[I", Cond.fieldLink RX7 80 "PartitionPlayModel" "often" "[I"]
def wsX7_play_r3 : List Cond := [Cond.fieldLink RX7 71 "PartitionPlayModel" "height" "[I", Cond.fieldLink RX7 74 "PartitionPlayModel" "carried" "[I", Cond.methodLink RX7 127 yX7_isTogether, Cond.instanceMethod yX7_isTogether, Cond.selects RX7 yX7_isTogether yX7_isTogether, Cond.code yX7_isTogether cX7_isTogether 3 (some .boolean), Cond.methodLink RX7 145 yX7_grow, Cond.instanceMethod yX7_grow, Cond.selects RX7 yX7_grow yX7_grow, Cond.code yX7_grow cX7_grow 4 none, Cond.methodLink RX7 148 yX7_send, Cond.instanceMethod yX7_send, Cond.selects RX7 yX7_send yX7_send, Cond.code yX7_send cX7_send 9 none, Cond.fieldLink RX7 68 "PartitionPlayModel" "sent" "[I", Cond.fieldLink RX7 13 "PartitionPlayModel" "delay" "[I", Cond.fieldLink RX7 135 "PartitionPlayModel" "lostToo" "I", Cond.fieldLink RX7 28 "PartitionPlayModel" "second" "[I", Cond.methodLink RX7 152 yX7_isRule, Cond.instanceMethod yX7_isRule, Cond.selects RX7 yX7_isRule yX7_isRule, Cond.code yX7_isRule cX7_isRule 4 (some .boolean)]
def wsX7_play : List Cond := .code yX7_play cX7_play 4 (some .int) :: ((wsX7_play_r1 ++ (wsX7_play_r2 ++ wsX7_play_r3)) ++ wsX70)
def wsX7_isTurn : List Cond := .code yX7_isTurn cX7_isTurn 2 (some .boolean) :: ([.fieldLink RX7 35 "PartitionPlayModel" "turns" "[I", .methodLink RX7 105 yX7_in, .static yX7_in, .initialized RX7, .code yX7_in cX7_in 3 (some .boolean)] ++ wsX70)
def wsX7_height : List Cond := .code yX7_height cX7_height 3 (some .int) :: ([.fieldLink RX7 53 "PartitionPlayModel" "heights" "[I", .methodLink RX7 159 yX7_isTurn, .instanceMethod yX7_isTurn, .selects RX7 yX7_isTurn yX7_isTurn, .initialized RX7, .code yX7_isTurn cX7_isTurn 2 (some .boolean), .fieldLink RX7 35 "PartitionPlayModel" "turns" "[I", .methodLink RX7 105 yX7_in, .static yX7_in, .code yX7_in cX7_in 3 (some .boolean), .methodLink RX7 109 yX7_isNode, .instanceMethod yX7_isNode, .selects RX7 yX7_isNode yX7_isNode, .code yX7_isNode cX7_isNode 2 (some .boolean), .fieldLink RX7 101 "PartitionPlayModel" "n" "I"] ++ wsX70)
def wsX7_holds : List Cond := .code yX7_holds cX7_holds 2 (some .int) :: ([.fieldLink RX7 56 "PartitionPlayModel" "held" "[Z", .methodLink RX7 159 yX7_isTurn, .instanceMethod yX7_isTurn, .selects RX7 yX7_isTurn yX7_isTurn, .initialized RX7, .code yX7_isTurn cX7_isTurn 2 (some .boolean), .fieldLink RX7 35 "PartitionPlayModel" "turns" "[I", .methodLink RX7 105 yX7_in, .static yX7_in, .code yX7_in cX7_in 3 (some .boolean)] ++ wsX70)
def wsX7_fails : List Cond := .code yX7_fails cX7_fails 1 (some .int) :: ([.fieldLink RX7 35 "PartitionPlayModel" "turns" "[I", .fieldLink RX7 50 "PartitionPlayModel" "failed" "[I"] ++ wsX70)
def wsX7_letter : List Cond := .code yX7_letter cX7_letter 3 (some .int) :: ([.fieldLink RX7 38 "PartitionPlayModel" "letters" "[I", .fieldLink RX7 62 "PartitionPlayModel" "from" "[I", .fieldLink RX7 65 "PartitionPlayModel" "to" "[I", .fieldLink RX7 68 "PartitionPlayModel" "sent" "[I", .fieldLink RX7 71 "PartitionPlayModel" "height" "[I", .fieldLink RX7 74 "PartitionPlayModel" "carried" "[I", .fieldLink RX7 77 "PartitionPlayModel" "comes" "[I", .fieldLink RX7 80 "PartitionPlayModel" "often" "[I", .methodLink RX7 105 yX7_in, .static yX7_in, .initialized RX7, .code yX7_in cX7_in 3 (some .boolean)] ++ wsX70)
def wsX7_reached : List Cond := .code yX7_reached cX7_reached 4 (some .int) :: ([.fieldLink RX7 35 "PartitionPlayModel" "turns" "[I", .fieldLink RX7 101 "PartitionPlayModel" "n" "I", .fieldLink RX7 59 "PartitionPlayModel" "known" "[I", .methodLink RX7 105 yX7_in, .static yX7_in, .initialized RX7, .code yX7_in cX7_in 3 (some .boolean)] ++ wsX70)
def wsX7_bytes : List Cond := .code yX7_bytes cX7_bytes 4 (some .int) :: ([.fieldLink RX7 35 "PartitionPlayModel" "turns" "[I", .fieldLink RX7 38 "PartitionPlayModel" "letters" "[I", .fieldLink RX7 62 "PartitionPlayModel" "from" "[I", .fieldLink RX7 74 "PartitionPlayModel" "carried" "[I", .methodLink RX7 109 yX7_isNode, .instanceMethod yX7_isNode, .selects RX7 yX7_isNode yX7_isNode, .initialized RX7, .code yX7_isNode cX7_isNode 2 (some .boolean), .fieldLink RX7 101 "PartitionPlayModel" "n" "I", .methodLink RX7 105 yX7_in, .static yX7_in, .code yX7_in cX7_in 3 (some .boolean), .methodLink RX7 113 yX7_bits, .static yX7_bits, .code yX7_bits cX7_bits 3 (some .int)] ++ wsX70)
def wsX7_shrink_r1 : List Cond := [Cond.fieldLink RX7 35 "PartitionPlayModel" "turns" "[I", Cond.fieldLink RX7 117 "PartitionPlayModel" "events" "I", Cond.fieldLink RX7 31 "PartitionPlayModel" "isOut" "[Z", Cond.methodLink RX7 162 yX7_isFailing, Cond.instanceMethod yX7_isFailing, Cond.selects RX7 yX7_isFailing yX7_isFailing, Cond.initialized RX7, Cond.code yX7_isFailing cX7_isFailing 1 (some .boolean), Cond.fieldLink RX7 50 "PartitionPlayModel" "failed" "[I", Cond.methodLink RX7 156 yX7_run, Cond.instanceMethod yX7_run, Cond.selects RX7 yX7_run yX7_run, Cond.code yX7_run cX7_run 6 none, Cond.fieldLink RX7 38 "PartitionPlayModel" "letters" "[I", Cond.fieldLink RX7 41 "PartitionPlayModel" "lost" "[I", Cond.fieldLink RX7 44 "PartitionPlayModel" "taken" "[I", Cond.fieldLink RX7 47 "PartitionPlayModel" "gone" "[I", Cond.fieldLink RX7 124 "PartitionPlayModel" "group" "I", Cond.fieldLink RX7 86 "PartitionPlayModel" "now" "[I", Cond.fieldLink RX7 89 "PartitionPlayModel" "knows" "[I", Cond.fieldLink RX7 16 "PartitionPlayModel" "rumours" "[I", Cond.fieldLink RX7 95 "PartitionPlayModel" "isDown" "[Z", Cond.fieldLink RX7 92 "PartitionPlayModel" "shown" "[I", Cond.fieldLink RX7 101 "PartitionPlayModel" "n" "I"]
def wsX7_shrink_r2 : List Cond := [Cond.fieldLink RX7 7 "PartitionPlayModel" "behaviour" "[I", Cond.fieldLink RX7 98 "PartitionPlayModel" "grew" "[Z", Cond.fieldLink RX7 53 "PartitionPlayModel" "heights" "[I", Cond.fieldLink RX7 56 "PartitionPlayModel" "held" "[Z", Cond.fieldLink RX7 59 "PartitionPlayModel" "known" "[I", Cond.methodLink RX7 138 yX7_happen, Cond.instanceMethod yX7_happen, Cond.selects RX7 yX7_happen yX7_happen, Cond.code yX7_happen cX7_happen 5 none, Cond.fieldLink RX7 19 "PartitionPlayModel" "kind" "[I", Cond.fieldLink RX7 22 "PartitionPlayModel" "when" "[I", Cond.fieldLink RX7 25 "PartitionPlayModel" "first" "[I", Cond.methodLink RX7 141 yX7_takeIn, Cond.instanceMethod yX7_takeIn, Cond.selects RX7 yX7_takeIn yX7_takeIn, Cond.code yX7_takeIn cX7_takeIn 7 none, Cond.fieldLink RX7 77 "PartitionPlayModel" "comes" "[I", Cond.fieldLink RX7 83 "PartitionPlayModel" "doubles" "[I", Cond.methodLink RX7 105 yX7_in, Cond.static yX7_in, Cond.code yX7_in cX7_in 3 (some .boolean), Cond.methodLink RX7 131 yX7_come, Cond.instanceMethod yX7_come, Cond.selects RX7 yX7_come yX7_come]
def wsX7_shrink_r3 : List Cond := [Cond.code yX7_come cX7_come 6 none, Cond.fieldLink RX7 65 "PartitionPlayModel" "to" "[I", Cond.fieldLink RX7 62 "PartitionPlayModel" "from" "[I", Cond.fieldLink RX7 80 "PartitionPlayModel" "often" "[I", Cond.fieldLink RX7 71 "PartitionPlayModel" "height" "[I", Cond.fieldLink RX7 74 "PartitionPlayModel" "carried" "[I", Cond.methodLink RX7 127 yX7_isTogether, Cond.instanceMethod yX7_isTogether, Cond.selects RX7 yX7_isTogether yX7_isTogether, Cond.code yX7_isTogether cX7_isTogether 3 (some .boolean), Cond.methodLink RX7 145 yX7_grow, Cond.instanceMethod yX7_grow, Cond.selects RX7 yX7_grow yX7_grow, Cond.code yX7_grow cX7_grow 4 none, Cond.methodLink RX7 148 yX7_send, Cond.instanceMethod yX7_send, Cond.selects RX7 yX7_send yX7_send, Cond.code yX7_send cX7_send 9 none, Cond.fieldLink RX7 68 "PartitionPlayModel" "sent" "[I", Cond.fieldLink RX7 13 "PartitionPlayModel" "delay" "[I", Cond.fieldLink RX7 135 "PartitionPlayModel" "lostToo" "I", Cond.fieldLink RX7 28 "PartitionPlayModel" "second" "[I", Cond.methodLink RX7 152 yX7_isRule, Cond.instanceMethod yX7_isRule]
def wsX7_shrink_r4 : List Cond := [Cond.selects RX7 yX7_isRule yX7_isRule, Cond.code yX7_isRule cX7_isRule 4 (some .boolean), Cond.methodLink RX7 120 yX7_remove, Cond.instanceMethod yX7_remove, Cond.selects RX7 yX7_remove yX7_remove, Cond.code yX7_remove cX7_remove 3 none]
def wsX7_shrink : List Cond := .code yX7_shrink cX7_shrink 3 (some .int) :: ((wsX7_shrink_r1 ++ (wsX7_shrink_r2 ++ (wsX7_shrink_r3 ++ wsX7_shrink_r4))) ++ wsX70)
def wsX7_minimal_r1 : List Cond := [Cond.fieldLink RX7 35 "PartitionPlayModel" "turns" "[I", Cond.fieldLink RX7 117 "PartitionPlayModel" "events" "I", Cond.fieldLink RX7 31 "PartitionPlayModel" "isOut" "[Z", Cond.methodLink RX7 162 yX7_isFailing, Cond.instanceMethod yX7_isFailing, Cond.selects RX7 yX7_isFailing yX7_isFailing, Cond.initialized RX7, Cond.code yX7_isFailing cX7_isFailing 1 (some .boolean), Cond.fieldLink RX7 50 "PartitionPlayModel" "failed" "[I", Cond.methodLink RX7 156 yX7_run, Cond.instanceMethod yX7_run, Cond.selects RX7 yX7_run yX7_run, Cond.code yX7_run cX7_run 6 none, Cond.fieldLink RX7 38 "PartitionPlayModel" "letters" "[I", Cond.fieldLink RX7 41 "PartitionPlayModel" "lost" "[I", Cond.fieldLink RX7 44 "PartitionPlayModel" "taken" "[I", Cond.fieldLink RX7 47 "PartitionPlayModel" "gone" "[I", Cond.fieldLink RX7 124 "PartitionPlayModel" "group" "I", Cond.fieldLink RX7 86 "PartitionPlayModel" "now" "[I", Cond.fieldLink RX7 89 "PartitionPlayModel" "knows" "[I", Cond.fieldLink RX7 16 "PartitionPlayModel" "rumours" "[I", Cond.fieldLink RX7 95 "PartitionPlayModel" "isDown" "[Z", Cond.fieldLink RX7 92 "PartitionPlayModel" "shown" "[I", Cond.fieldLink RX7 101 "PartitionPlayModel" "n" "I"]
def wsX7_minimal_r2 : List Cond := [Cond.fieldLink RX7 7 "PartitionPlayModel" "behaviour" "[I", Cond.fieldLink RX7 98 "PartitionPlayModel" "grew" "[Z", Cond.fieldLink RX7 53 "PartitionPlayModel" "heights" "[I", Cond.fieldLink RX7 56 "PartitionPlayModel" "held" "[Z", Cond.fieldLink RX7 59 "PartitionPlayModel" "known" "[I", Cond.methodLink RX7 138 yX7_happen, Cond.instanceMethod yX7_happen, Cond.selects RX7 yX7_happen yX7_happen, Cond.code yX7_happen cX7_happen 5 none, Cond.fieldLink RX7 19 "PartitionPlayModel" "kind" "[I", Cond.fieldLink RX7 22 "PartitionPlayModel" "when" "[I", Cond.fieldLink RX7 25 "PartitionPlayModel" "first" "[I", Cond.methodLink RX7 141 yX7_takeIn, Cond.instanceMethod yX7_takeIn, Cond.selects RX7 yX7_takeIn yX7_takeIn, Cond.code yX7_takeIn cX7_takeIn 7 none, Cond.fieldLink RX7 77 "PartitionPlayModel" "comes" "[I", Cond.fieldLink RX7 83 "PartitionPlayModel" "doubles" "[I", Cond.methodLink RX7 105 yX7_in, Cond.static yX7_in, Cond.code yX7_in cX7_in 3 (some .boolean), Cond.methodLink RX7 131 yX7_come, Cond.instanceMethod yX7_come, Cond.selects RX7 yX7_come yX7_come]
def wsX7_minimal_r3 : List Cond := [Cond.code yX7_come cX7_come 6 none, Cond.fieldLink RX7 65 "PartitionPlayModel" "to" "[I", Cond.fieldLink RX7 62 "PartitionPlayModel" "from" "[I", Cond.fieldLink RX7 80 "PartitionPlayModel" "often" "[I", Cond.fieldLink RX7 71 "PartitionPlayModel" "height" "[I", Cond.fieldLink RX7 74 "PartitionPlayModel" "carried" "[I", Cond.methodLink RX7 127 yX7_isTogether, Cond.instanceMethod yX7_isTogether, Cond.selects RX7 yX7_isTogether yX7_isTogether, Cond.code yX7_isTogether cX7_isTogether 3 (some .boolean), Cond.methodLink RX7 145 yX7_grow, Cond.instanceMethod yX7_grow, Cond.selects RX7 yX7_grow yX7_grow, Cond.code yX7_grow cX7_grow 4 none, Cond.methodLink RX7 148 yX7_send, Cond.instanceMethod yX7_send, Cond.selects RX7 yX7_send yX7_send, Cond.code yX7_send cX7_send 9 none, Cond.fieldLink RX7 68 "PartitionPlayModel" "sent" "[I", Cond.fieldLink RX7 13 "PartitionPlayModel" "delay" "[I", Cond.fieldLink RX7 135 "PartitionPlayModel" "lostToo" "I", Cond.fieldLink RX7 28 "PartitionPlayModel" "second" "[I", Cond.methodLink RX7 152 yX7_isRule, Cond.instanceMethod yX7_isRule]
def wsX7_minimal_r4 : List Cond := [Cond.selects RX7 yX7_isRule yX7_isRule, Cond.code yX7_isRule cX7_isRule 4 (some .boolean)]
def wsX7_minimal : List Cond := .code yX7_minimal cX7_minimal 3 (some .int) :: ((wsX7_minimal_r1 ++ (wsX7_minimal_r2 ++ (wsX7_minimal_r3 ++ wsX7_minimal_r4))) ++ wsX70)
def wsX7_sets_r1 : List Cond := [Cond.fieldLink RX7 35 "PartitionPlayModel" "turns" "[I", Cond.fieldLink RX7 135 "PartitionPlayModel" "lostToo" "I", Cond.methodLink RX7 105 yX7_in, Cond.static yX7_in, Cond.initialized RX7, Cond.code yX7_in cX7_in 3 (some .boolean), Cond.methodLink RX7 162 yX7_isFailing, Cond.instanceMethod yX7_isFailing, Cond.selects RX7 yX7_isFailing yX7_isFailing, Cond.code yX7_isFailing cX7_isFailing 1 (some .boolean), Cond.fieldLink RX7 50 "PartitionPlayModel" "failed" "[I", Cond.methodLink RX7 156 yX7_run, Cond.instanceMethod yX7_run, Cond.selects RX7 yX7_run yX7_run, Cond.code yX7_run cX7_run 6 none, Cond.fieldLink RX7 38 "PartitionPlayModel" "letters" "[I", Cond.fieldLink RX7 41 "PartitionPlayModel" "lost" "[I", Cond.fieldLink RX7 44 "PartitionPlayModel" "taken" "[I", Cond.fieldLink RX7 47 "PartitionPlayModel" "gone" "[I", Cond.fieldLink RX7 124 "PartitionPlayModel" "group" "I", Cond.fieldLink RX7 86 "PartitionPlayModel" "now" "[I", Cond.fieldLink RX7 89 "PartitionPlayModel" "knows" "[I", Cond.fieldLink RX7 16 "PartitionPlayModel" "rumours" "[I", Cond.fieldLink RX7 95 "PartitionPlayModel" "isDown" "[Z"]
def wsX7_sets_r2 : List Cond := [Cond.fieldLink RX7 92 "PartitionPlayModel" "shown" "[I", Cond.fieldLink RX7 101 "PartitionPlayModel" "n" "I", Cond.fieldLink RX7 7 "PartitionPlayModel" "behaviour" "[I", Cond.fieldLink RX7 98 "PartitionPlayModel" "grew" "[Z", Cond.fieldLink RX7 53 "PartitionPlayModel" "heights" "[I", Cond.fieldLink RX7 56 "PartitionPlayModel" "held" "[Z", Cond.fieldLink RX7 59 "PartitionPlayModel" "known" "[I", Cond.methodLink RX7 138 yX7_happen, Cond.instanceMethod yX7_happen, Cond.selects RX7 yX7_happen yX7_happen, Cond.code yX7_happen cX7_happen 5 none, Cond.fieldLink RX7 117 "PartitionPlayModel" "events" "I", Cond.fieldLink RX7 31 "PartitionPlayModel" "isOut" "[Z", Cond.fieldLink RX7 19 "PartitionPlayModel" "kind" "[I", Cond.fieldLink RX7 22 "PartitionPlayModel" "when" "[I", Cond.fieldLink RX7 25 "PartitionPlayModel" "first" "[I", Cond.methodLink RX7 141 yX7_takeIn, Cond.instanceMethod yX7_takeIn, Cond.selects RX7 yX7_takeIn yX7_takeIn, Cond.code yX7_takeIn cX7_takeIn 7 none, Cond.fieldLink RX7 77 "PartitionPlayModel" "comes" "[I", Cond.fieldLink RX7 83 "PartitionPlayModel" "doubles" "[I", Cond.methodLink RX7 131 yX7_come, Cond.instanceMethod yX7_come]
def wsX7_sets_r3 : List Cond := [Cond.selects RX7 yX7_come yX7_come, Cond.code yX7_come cX7_come 6 none, Cond.fieldLink RX7 65 "PartitionPlayModel" "to" "[I", Cond.fieldLink RX7 62 "PartitionPlayModel" "from" "[I", Cond.fieldLink RX7 80 "PartitionPlayModel" "often" "[I", Cond.fieldLink RX7 71 "PartitionPlayModel" "height" "[I", Cond.fieldLink RX7 74 "PartitionPlayModel" "carried" "[I", Cond.methodLink RX7 127 yX7_isTogether, Cond.instanceMethod yX7_isTogether, Cond.selects RX7 yX7_isTogether yX7_isTogether, Cond.code yX7_isTogether cX7_isTogether 3 (some .boolean), Cond.methodLink RX7 145 yX7_grow, Cond.instanceMethod yX7_grow, Cond.selects RX7 yX7_grow yX7_grow, Cond.code yX7_grow cX7_grow 4 none, Cond.methodLink RX7 148 yX7_send, Cond.instanceMethod yX7_send, Cond.selects RX7 yX7_send yX7_send, Cond.code yX7_send cX7_send 9 none, Cond.fieldLink RX7 68 "PartitionPlayModel" "sent" "[I", Cond.fieldLink RX7 13 "PartitionPlayModel" "delay" "[I", Cond.fieldLink RX7 28 "PartitionPlayModel" "second" "[I", Cond.methodLink RX7 152 yX7_isRule, Cond.instanceMethod yX7_isRule]
def wsX7_sets_r4 : List Cond := [Cond.selects RX7 yX7_isRule yX7_isRule, Cond.code yX7_isRule cX7_isRule 4 (some .boolean)]
def wsX7_sets : List Cond := .code yX7_sets cX7_sets 4 (some .int) :: ((wsX7_sets_r1 ++ (wsX7_sets_r2 ++ (wsX7_sets_r3 ++ wsX7_sets_r4))) ++ wsX70)
def wsX7_count : List Cond := .code yX7_count cX7_count 2 (some .int) :: ([.fieldLink RX7 101 "PartitionPlayModel" "n" "I", .fieldLink RX7 117 "PartitionPlayModel" "events" "I", .fieldLink RX7 35 "PartitionPlayModel" "turns" "[I", .fieldLink RX7 38 "PartitionPlayModel" "letters" "[I", .fieldLink RX7 41 "PartitionPlayModel" "lost" "[I", .fieldLink RX7 44 "PartitionPlayModel" "taken" "[I", .fieldLink RX7 47 "PartitionPlayModel" "gone" "[I"] ++ wsX70)
def wsJ9_max_7cf53 : List Cond := .code yJ9_max_7cf53 cJ9_max_7cf53 2 (some .int) :: ([])
def wsJ9_min_7cf53 : List Cond := .code yJ9_min_7cf53 cJ9_min_7cf53 2 (some .int) :: ([])
def wsL_cell : List Cond := .code yL_cell cL_cell 2 (some .int) :: ([])
theorem inJ6 : ∀ w ∈ wsJ60, w ∈ lw_tbl := by decide +kernel
theorem inJ9 : ∀ w ∈ wsJ90, w ∈ lw_tbl := by decide +kernel
theorem inJ7 : ∀ w ∈ wsJ70, w ∈ lw_tbl := by decide +kernel
abbrev vwCl : List vw_C := [(RX0, TX0, 5), (RX1, TX1, 9), (RX2, TX2, 4), (RX3, TX3, 7), (RX4, TX4, 13), (RX5, TX5, 7), (RX6, TX6, 4), (RX7, TX7, 34)]
end
section
theorem dX0_init_0 : decode cX0_init 0 = .ok (.aload_n 0, 1) := by decide +kernel
theorem dX0_init_1 : decode cX0_init 1 = .ok (.invokespecial 3, 3) := by decide +kernel
theorem dX0_init_4 : decode cX0_init 4 = .ok (.aload_n 0, 1) := by decide +kernel
theorem dX0_init_5 : decode cX0_init 5 = .ok (.sipush 1220, 3) := by decide +kernel
theorem dX0_init_8 : decode cX0_init 8 = .ok (.newarray .int, 2) := by decide +kernel
theorem dX0_init_10 : decode cX0_init 10 = .ok (.putfield 9, 3) := by decide +kernel
theorem dX0_init_13 : decode cX0_init 13 = .ok (.aload_n 0, 1) := by decide +kernel
theorem dX0_init_14 : decode cX0_init 14 = .ok (.sipush 1220, 3) := by decide +kernel
theorem dX0_init_17 : decode cX0_init 17 = .ok (.newarray .int, 2) := by decide +kernel
theorem dX0_init_19 : decode cX0_init 19 = .ok (.putfield 15, 3) := by decide +kernel
theorem dX0_init_22 : decode cX0_init 22 = .ok (.aload_n 0, 1) := by decide +kernel
theorem dX0_init_23 : decode cX0_init 23 = .ok (.bipush 40, 2) := by decide +kernel
theorem dX0_init_25 : decode cX0_init 25 = .ok (.newarray .int, 2) := by decide +kernel
theorem dX0_init_27 : decode cX0_init 27 = .ok (.putfield 18, 3) := by decide +kernel
theorem dX0_init_30 : decode cX0_init 30 = .ok (.aload_n 0, 1) := by decide +kernel
theorem dX0_init_31 : decode cX0_init 31 = .ok (.bipush 40, 2) := by decide +kernel
theorem dX0_init_33 : decode cX0_init 33 = .ok (.newarray .int, 2) := by decide +kernel
theorem dX0_init_35 : decode cX0_init 35 = .ok (.putfield 21, 3) := by decide +kernel
theorem dX0_init_38 : decode cX0_init 38 = .ok (.return_, 1) := by decide +kernel
set_option maxRecDepth 20000 in
theorem ggX0_clear_J7_fill_53178 : GoodIn wsX0_clear wsJ7_fill_53178 := goodIn_r _ [7] (by decide +kernel) (by decide +kernel)
set_option maxRecDepth 20000 in
theorem gX0_clear_J7_fill_53178 : GoodIn wsX0_clear (va_wsS RX0 28 yJ7_fill_53178 wsJ7_fill_53178) := goodIn_app (goodIn_of _ (by decide +kernel)) ggX0_clear_J7_fill_53178
theorem dX0_clear_0 : decode cX0_clear 0 = .ok (.aload_n 0, 1) := by decide +kernel
theorem dX0_clear_1 : decode cX0_clear 1 = .ok (.iconst 0, 1) := by decide +kernel
theorem dX0_clear_2 : decode cX0_clear 2 = .ok (.putfield 24, 3) := by decide +kernel
theorem dX0_clear_5 : decode cX0_clear 5 = .ok (.aload_n 0, 1) := by decide +kernel
theorem dX0_clear_6 : decode cX0_clear 6 = .ok (.getfield 18, 3) := by decide +kernel
theorem dX0_clear_9 : decode cX0_clear 9 = .ok (.iconst (-1), 1) := by decide +kernel
theorem dX0_clear_10 : decode cX0_clear 10 = .ok (.invokestatic 28, 3) := by decide +kernel
theorem dX0_clear_13 : decode cX0_clear 13 = .ok (.aload_n 0, 1) := by decide +kernel
theorem dX0_clear_14 : decode cX0_clear 14 = .ok (.getfield 21, 3) := by decide +kernel
theorem dX0_clear_17 : decode cX0_clear 17 = .ok (.iconst (-1), 1) := by decide +kernel
theorem dX0_clear_18 : decode cX0_clear 18 = .ok (.invokestatic 28, 3) := by decide +kernel
theorem dX0_clear_21 : decode cX0_clear 21 = .ok (.return_, 1) := by decide +kernel
theorem dX0_add_0 : decode cX0_add 0 = .ok (.iload_n 2, 1) := by decide +kernel
theorem dX0_add_1 : decode cX0_add 1 = .ok (.ifCond .lt 19, 3) := by decide +kernel
theorem dX0_add_4 : decode cX0_add 4 = .ok (.iload_n 2, 1) := by decide +kernel
theorem dX0_add_5 : decode cX0_add 5 = .ok (.bipush 40, 2) := by decide +kernel
theorem dX0_add_7 : decode cX0_add 7 = .ok (.if_icmp .ge 13, 3) := by decide +kernel
theorem dX0_add_10 : decode cX0_add 10 = .ok (.aload_n 0, 1) := by decide +kernel
theorem dX0_add_11 : decode cX0_add 11 = .ok (.getfield 24, 3) := by decide +kernel
theorem dX0_add_14 : decode cX0_add 14 = .ok (.sipush 1220, 3) := by decide +kernel
theorem dX0_add_17 : decode cX0_add 17 = .ok (.if_icmp .lt 4, 3) := by decide +kernel
theorem dX0_add_20 : decode cX0_add 20 = .ok (.return_, 1) := by decide +kernel
theorem dX0_add_21 : decode cX0_add 21 = .ok (.aload_n 0, 1) := by decide +kernel
theorem dX0_add_22 : decode cX0_add 22 = .ok (.getfield 9, 3) := by decide +kernel
theorem dX0_add_25 : decode cX0_add 25 = .ok (.aload_n 0, 1) := by decide +kernel
theorem dX0_add_26 : decode cX0_add 26 = .ok (.getfield 24, 3) := by decide +kernel
theorem dX0_add_29 : decode cX0_add 29 = .ok (.iload_n 1, 1) := by decide +kernel
theorem dX0_add_30 : decode cX0_add 30 = .ok (.iastore, 1) := by decide +kernel
theorem dX0_add_31 : decode cX0_add 31 = .ok (.aload_n 0, 1) := by decide +kernel
theorem dX0_add_32 : decode cX0_add 32 = .ok (.getfield 15, 3) := by decide +kernel
theorem dX0_add_35 : decode cX0_add 35 = .ok (.aload_n 0, 1) := by decide +kernel
theorem dX0_add_36 : decode cX0_add 36 = .ok (.getfield 24, 3) := by decide +kernel
theorem dX0_add_39 : decode cX0_add 39 = .ok (.iconst (-1), 1) := by decide +kernel
theorem dX0_add_40 : decode cX0_add 40 = .ok (.iastore, 1) := by decide +kernel
theorem dX0_add_41 : decode cX0_add 41 = .ok (.aload_n 0, 1) := by decide +kernel
theorem dX0_add_42 : decode cX0_add 42 = .ok (.getfield 21, 3) := by decide +kernel
theorem dX0_add_45 : decode cX0_add 45 = .ok (.iload_n 2, 1) := by decide +kernel
theorem dX0_add_46 : decode cX0_add 46 = .ok (.iaload, 1) := by decide +kernel
theorem dX0_add_47 : decode cX0_add 47 = .ok (.iconst (-1), 1) := by decide +kernel
theorem dX0_add_48 : decode cX0_add 48 = .ok (.if_icmp .ne 16, 3) := by decide +kernel
theorem dX0_add_51 : decode cX0_add 51 = .ok (.aload_n 0, 1) := by decide +kernel
theorem dX0_add_52 : decode cX0_add 52 = .ok (.getfield 18, 3) := by decide +kernel
theorem dX0_add_55 : decode cX0_add 55 = .ok (.iload_n 2, 1) := by decide +kernel
theorem dX0_add_56 : decode cX0_add 56 = .ok (.aload_n 0, 1) := by decide +kernel
theorem dX0_add_57 : decode cX0_add 57 = .ok (.getfield 24, 3) := by decide +kernel
theorem dX0_add_60 : decode cX0_add 60 = .ok (.iastore, 1) := by decide +kernel
theorem dX0_add_61 : decode cX0_add 61 = .ok (.goto 18, 3) := by decide +kernel
theorem dX0_add_64 : decode cX0_add 64 = .ok (.aload_n 0, 1) := by decide +kernel
theorem dX0_add_65 : decode cX0_add 65 = .ok (.getfield 15, 3) := by decide +kernel
theorem dX0_add_68 : decode cX0_add 68 = .ok (.aload_n 0, 1) := by decide +kernel
theorem dX0_add_69 : decode cX0_add 69 = .ok (.getfield 21, 3) := by decide +kernel
theorem dX0_add_72 : decode cX0_add 72 = .ok (.iload_n 2, 1) := by decide +kernel
theorem dX0_add_73 : decode cX0_add 73 = .ok (.iaload, 1) := by decide +kernel
theorem dX0_add_74 : decode cX0_add 74 = .ok (.aload_n 0, 1) := by decide +kernel
theorem dX0_add_75 : decode cX0_add 75 = .ok (.getfield 24, 3) := by decide +kernel
theorem dX0_add_78 : decode cX0_add 78 = .ok (.iastore, 1) := by decide +kernel
theorem dX0_add_79 : decode cX0_add 79 = .ok (.aload_n 0, 1) := by decide +kernel
theorem dX0_add_80 : decode cX0_add 80 = .ok (.getfield 21, 3) := by decide +kernel
theorem dX0_add_83 : decode cX0_add 83 = .ok (.iload_n 2, 1) := by decide +kernel
theorem dX0_add_84 : decode cX0_add 84 = .ok (.aload_n 0, 1) := by decide +kernel
theorem dX0_add_85 : decode cX0_add 85 = .ok (.getfield 24, 3) := by decide +kernel
theorem dX0_add_88 : decode cX0_add 88 = .ok (.iastore, 1) := by decide +kernel
theorem dX0_add_89 : decode cX0_add 89 = .ok (.aload_n 0, 1) := by decide +kernel
theorem dX0_add_90 : decode cX0_add 90 = .ok (.dup, 1) := by decide +kernel
theorem dX0_add_91 : decode cX0_add 91 = .ok (.getfield 24, 3) := by decide +kernel
theorem dX0_add_94 : decode cX0_add 94 = .ok (.iconst 1, 1) := by decide +kernel
theorem dX0_add_95 : decode cX0_add 95 = .ok (.iadd, 1) := by decide +kernel
theorem dX0_add_96 : decode cX0_add 96 = .ok (.putfield 24, 3) := by decide +kernel
theorem dX0_add_99 : decode cX0_add 99 = .ok (.return_, 1) := by decide +kernel
set_option maxRecDepth 20000 in
theorem ggX0_firstAt_X6_isTurn : GoodIn wsX0_firstAt wsX6_isTurn := goodIn_r _ [4] (by decide +kernel) (by decide +kernel)
set_option maxRecDepth 20000 in
theorem gX0_firstAt_X6_isTurn_n34 : GoodIn wsX0_firstAt (wsX6_isTurn) := ggX0_firstAt_X6_isTurn
theorem dX0_firstAt_0 : decode cX0_firstAt 0 = .ok (.iload_n 1, 1) := by decide +kernel
theorem dX0_firstAt_1 : decode cX0_firstAt 1 = .ok (.invokestatic 34, 3) := by decide +kernel
theorem dX0_firstAt_4 : decode cX0_firstAt 4 = .ok (.ifCond .eq 12, 3) := by decide +kernel
theorem dX0_firstAt_7 : decode cX0_firstAt 7 = .ok (.aload_n 0, 1) := by decide +kernel
theorem dX0_firstAt_8 : decode cX0_firstAt 8 = .ok (.getfield 18, 3) := by decide +kernel
theorem dX0_firstAt_11 : decode cX0_firstAt 11 = .ok (.iload_n 1, 1) := by decide +kernel
theorem dX0_firstAt_12 : decode cX0_firstAt 12 = .ok (.iaload, 1) := by decide +kernel
theorem dX0_firstAt_13 : decode cX0_firstAt 13 = .ok (.goto 4, 3) := by decide +kernel
theorem dX0_firstAt_16 : decode cX0_firstAt 16 = .ok (.iconst (-1), 1) := by decide +kernel
theorem dX0_firstAt_17 : decode cX0_firstAt 17 = .ok (.ireturn, 1) := by decide +kernel
theorem dX0_has_0 : decode cX0_has 0 = .ok (.iload_n 1, 1) := by decide +kernel
theorem dX0_has_1 : decode cX0_has 1 = .ok (.ifCond .lt 15, 3) := by decide +kernel
theorem dX0_has_4 : decode cX0_has 4 = .ok (.iload_n 1, 1) := by decide +kernel
theorem dX0_has_5 : decode cX0_has 5 = .ok (.aload_n 0, 1) := by decide +kernel
theorem dX0_has_6 : decode cX0_has 6 = .ok (.getfield 24, 3) := by decide +kernel
theorem dX0_has_9 : decode cX0_has 9 = .ok (.if_icmp .ge 7, 3) := by decide +kernel
theorem dX0_has_12 : decode cX0_has 12 = .ok (.iconst 1, 1) := by decide +kernel
theorem dX0_has_13 : decode cX0_has 13 = .ok (.goto 4, 3) := by decide +kernel
theorem dX0_has_16 : decode cX0_has 16 = .ok (.iconst 0, 1) := by decide +kernel
theorem dX0_has_17 : decode cX0_has 17 = .ok (.ireturn, 1) := by decide +kernel
set_option maxRecDepth 20000 in
theorem ggX0_behind_X0_has : GoodIn wsX0_behind wsX0_has := goodIn_r _ [6, 7, 8, 9, 10, 11, 12] (by decide +kernel) (by decide +kernel)
set_option maxRecDepth 20000 in
theorem gX0_behind_X0_has : GoodIn wsX0_behind (wsV RX0 38 RX0 yX0_has wsX0_has) := goodIn_app (goodIn_of _ (by decide +kernel)) ggX0_behind_X0_has
theorem dX0_behind_0 : decode cX0_behind 0 = .ok (.aload_n 0, 1) := by decide +kernel
theorem dX0_behind_1 : decode cX0_behind 1 = .ok (.iload_n 1, 1) := by decide +kernel
theorem dX0_behind_2 : decode cX0_behind 2 = .ok (.invokevirtual 38, 3) := by decide +kernel
theorem dX0_behind_5 : decode cX0_behind 5 = .ok (.ifCond .eq 12, 3) := by decide +kernel
theorem dX0_behind_8 : decode cX0_behind 8 = .ok (.aload_n 0, 1) := by decide +kernel
theorem dX0_behind_9 : decode cX0_behind 9 = .ok (.getfield 15, 3) := by decide +kernel
theorem dX0_behind_12 : decode cX0_behind 12 = .ok (.iload_n 1, 1) := by decide +kernel
theorem dX0_behind_13 : decode cX0_behind 13 = .ok (.iaload, 1) := by decide +kernel
theorem dX0_behind_14 : decode cX0_behind 14 = .ok (.goto 4, 3) := by decide +kernel
theorem dX0_behind_17 : decode cX0_behind 17 = .ok (.iconst (-1), 1) := by decide +kernel
theorem dX0_behind_18 : decode cX0_behind 18 = .ok (.ireturn, 1) := by decide +kernel
set_option maxRecDepth 20000 in
theorem ggX0_letterOf_X0_has : GoodIn wsX0_letterOf wsX0_has := goodIn_r _ [6, 7, 8, 9, 10, 11, 12] (by decide +kernel) (by decide +kernel)
set_option maxRecDepth 20000 in
theorem gX0_letterOf_X0_has : GoodIn wsX0_letterOf (wsV RX0 38 RX0 yX0_has wsX0_has) := goodIn_app (goodIn_of _ (by decide +kernel)) ggX0_letterOf_X0_has
theorem dX0_letterOf_0 : decode cX0_letterOf 0 = .ok (.aload_n 0, 1) := by decide +kernel
theorem dX0_letterOf_1 : decode cX0_letterOf 1 = .ok (.iload_n 1, 1) := by decide +kernel
theorem dX0_letterOf_2 : decode cX0_letterOf 2 = .ok (.invokevirtual 38, 3) := by decide +kernel
theorem dX0_letterOf_5 : decode cX0_letterOf 5 = .ok (.ifCond .eq 12, 3) := by decide +kernel
theorem dX0_letterOf_8 : decode cX0_letterOf 8 = .ok (.aload_n 0, 1) := by decide +kernel
theorem dX0_letterOf_9 : decode cX0_letterOf 9 = .ok (.getfield 9, 3) := by decide +kernel
theorem dX0_letterOf_12 : decode cX0_letterOf 12 = .ok (.iload_n 1, 1) := by decide +kernel
theorem dX0_letterOf_13 : decode cX0_letterOf 13 = .ok (.iaload, 1) := by decide +kernel
theorem dX0_letterOf_14 : decode cX0_letterOf 14 = .ok (.goto 4, 3) := by decide +kernel
theorem dX0_letterOf_17 : decode cX0_letterOf 17 = .ok (.iconst (-1), 1) := by decide +kernel
theorem dX0_letterOf_18 : decode cX0_letterOf 18 = .ok (.ireturn, 1) := by decide +kernel
theorem dX1_init_0 : decode cX1_init 0 = .ok (.aload_n 0, 1) := by decide +kernel
theorem dX1_init_1 : decode cX1_init 1 = .ok (.invokespecial 3, 3) := by decide +kernel
theorem dX1_init_4 : decode cX1_init 4 = .ok (.aload_n 0, 1) := by decide +kernel
theorem dX1_init_5 : decode cX1_init 5 = .ok (.sipush 1200, 3) := by decide +kernel
theorem dX1_init_8 : decode cX1_init 8 = .ok (.newarray .int, 2) := by decide +kernel
theorem dX1_init_10 : decode cX1_init 10 = .ok (.putfield 9, 3) := by decide +kernel
theorem dX1_init_13 : decode cX1_init 13 = .ok (.aload_n 0, 1) := by decide +kernel
theorem dX1_init_14 : decode cX1_init 14 = .ok (.sipush 1200, 3) := by decide +kernel
theorem dX1_init_17 : decode cX1_init 17 = .ok (.newarray .int, 2) := by decide +kernel
theorem dX1_init_19 : decode cX1_init 19 = .ok (.putfield 15, 3) := by decide +kernel
theorem dX1_init_22 : decode cX1_init 22 = .ok (.aload_n 0, 1) := by decide +kernel
theorem dX1_init_23 : decode cX1_init 23 = .ok (.sipush 1200, 3) := by decide +kernel
theorem dX1_init_26 : decode cX1_init 26 = .ok (.newarray .int, 2) := by decide +kernel
theorem dX1_init_28 : decode cX1_init 28 = .ok (.putfield 18, 3) := by decide +kernel
theorem dX1_init_31 : decode cX1_init 31 = .ok (.aload_n 0, 1) := by decide +kernel
theorem dX1_init_32 : decode cX1_init 32 = .ok (.sipush 1200, 3) := by decide +kernel
theorem dX1_init_35 : decode cX1_init 35 = .ok (.newarray .int, 2) := by decide +kernel
theorem dX1_init_37 : decode cX1_init 37 = .ok (.putfield 21, 3) := by decide +kernel
theorem dX1_init_40 : decode cX1_init 40 = .ok (.aload_n 0, 1) := by decide +kernel
theorem dX1_init_41 : decode cX1_init 41 = .ok (.sipush 1200, 3) := by decide +kernel
theorem dX1_init_44 : decode cX1_init 44 = .ok (.newarray .int, 2) := by decide +kernel
theorem dX1_init_46 : decode cX1_init 46 = .ok (.putfield 24, 3) := by decide +kernel
theorem dX1_init_49 : decode cX1_init 49 = .ok (.aload_n 0, 1) := by decide +kernel
theorem dX1_init_50 : decode cX1_init 50 = .ok (.sipush 1200, 3) := by decide +kernel
theorem dX1_init_53 : decode cX1_init 53 = .ok (.newarray .int, 2) := by decide +kernel
theorem dX1_init_55 : decode cX1_init 55 = .ok (.putfield 27, 3) := by decide +kernel
theorem dX1_init_58 : decode cX1_init 58 = .ok (.aload_n 0, 1) := by decide +kernel
theorem dX1_init_59 : decode cX1_init 59 = .ok (.sipush 1200, 3) := by decide +kernel
theorem dX1_init_62 : decode cX1_init 62 = .ok (.newarray .int, 2) := by decide +kernel
theorem dX1_init_64 : decode cX1_init 64 = .ok (.putfield 30, 3) := by decide +kernel
theorem dX1_init_67 : decode cX1_init 67 = .ok (.return_, 1) := by decide +kernel
theorem dX1_has_0 : decode cX1_has 0 = .ok (.iload_n 1, 1) := by decide +kernel
theorem dX1_has_1 : decode cX1_has 1 = .ok (.ifCond .lt 15, 3) := by decide +kernel
theorem dX1_has_4 : decode cX1_has 4 = .ok (.iload_n 1, 1) := by decide +kernel
theorem dX1_has_5 : decode cX1_has 5 = .ok (.aload_n 0, 1) := by decide +kernel
theorem dX1_has_6 : decode cX1_has 6 = .ok (.getfield 33, 3) := by decide +kernel
theorem dX1_has_9 : decode cX1_has 9 = .ok (.if_icmp .ge 7, 3) := by decide +kernel
theorem dX1_has_12 : decode cX1_has 12 = .ok (.iconst 1, 1) := by decide +kernel
theorem dX1_has_13 : decode cX1_has 13 = .ok (.goto 4, 3) := by decide +kernel
theorem dX1_has_16 : decode cX1_has 16 = .ok (.iconst 0, 1) := by decide +kernel
theorem dX1_has_17 : decode cX1_has 17 = .ok (.ireturn, 1) := by decide +kernel
theorem dX1_clear_0 : decode cX1_clear 0 = .ok (.aload_n 0, 1) := by decide +kernel
theorem dX1_clear_1 : decode cX1_clear 1 = .ok (.iconst 0, 1) := by decide +kernel
theorem dX1_clear_2 : decode cX1_clear 2 = .ok (.putfield 33, 3) := by decide +kernel
theorem dX1_clear_5 : decode cX1_clear 5 = .ok (.aload_n 0, 1) := by decide +kernel
theorem dX1_clear_6 : decode cX1_clear 6 = .ok (.iconst 0, 1) := by decide +kernel
theorem dX1_clear_7 : decode cX1_clear 7 = .ok (.putfield 37, 3) := by decide +kernel
theorem dX1_clear_10 : decode cX1_clear 10 = .ok (.return_, 1) := by decide +kernel
theorem dX1_add_0 : decode cX1_add 0 = .ok (.aload_n 0, 1) := by decide +kernel
theorem dX1_add_1 : decode cX1_add 1 = .ok (.getfield 33, 3) := by decide +kernel
theorem dX1_add_4 : decode cX1_add 4 = .ok (.sipush 1200, 3) := by decide +kernel
theorem dX1_add_7 : decode cX1_add 7 = .ok (.if_icmp .lt 5, 3) := by decide +kernel
theorem dX1_add_10 : decode cX1_add 10 = .ok (.iconst (-1), 1) := by decide +kernel
theorem dX1_add_11 : decode cX1_add 11 = .ok (.ireturn, 1) := by decide +kernel
theorem dX1_add_12 : decode cX1_add 12 = .ok (.aload_n 0, 1) := by decide +kernel
theorem dX1_add_13 : decode cX1_add 13 = .ok (.getfield 9, 3) := by decide +kernel
theorem dX1_add_16 : decode cX1_add 16 = .ok (.aload_n 0, 1) := by decide +kernel
theorem dX1_add_17 : decode cX1_add 17 = .ok (.getfield 33, 3) := by decide +kernel
theorem dX1_add_20 : decode cX1_add 20 = .ok (.iload_n 1, 1) := by decide +kernel
theorem dX1_add_21 : decode cX1_add 21 = .ok (.iastore, 1) := by decide +kernel
theorem dX1_add_22 : decode cX1_add 22 = .ok (.aload_n 0, 1) := by decide +kernel
theorem dX1_add_23 : decode cX1_add 23 = .ok (.getfield 15, 3) := by decide +kernel
theorem dX1_add_26 : decode cX1_add 26 = .ok (.aload_n 0, 1) := by decide +kernel
theorem dX1_add_27 : decode cX1_add 27 = .ok (.getfield 33, 3) := by decide +kernel
theorem dX1_add_30 : decode cX1_add 30 = .ok (.iload_n 2, 1) := by decide +kernel
theorem dX1_add_31 : decode cX1_add 31 = .ok (.iastore, 1) := by decide +kernel
theorem dX1_add_32 : decode cX1_add 32 = .ok (.aload_n 0, 1) := by decide +kernel
theorem dX1_add_33 : decode cX1_add 33 = .ok (.getfield 18, 3) := by decide +kernel
theorem dX1_add_36 : decode cX1_add 36 = .ok (.aload_n 0, 1) := by decide +kernel
theorem dX1_add_37 : decode cX1_add 37 = .ok (.getfield 33, 3) := by decide +kernel
theorem dX1_add_40 : decode cX1_add 40 = .ok (.iload_n 3, 1) := by decide +kernel
theorem dX1_add_41 : decode cX1_add 41 = .ok (.iastore, 1) := by decide +kernel
theorem dX1_add_42 : decode cX1_add 42 = .ok (.aload_n 0, 1) := by decide +kernel
theorem dX1_add_43 : decode cX1_add 43 = .ok (.getfield 21, 3) := by decide +kernel
theorem dX1_add_46 : decode cX1_add 46 = .ok (.aload_n 0, 1) := by decide +kernel
theorem dX1_add_47 : decode cX1_add 47 = .ok (.getfield 33, 3) := by decide +kernel
theorem dX1_add_50 : decode cX1_add 50 = .ok (.iload 4, 2) := by decide +kernel
theorem dX1_add_52 : decode cX1_add 52 = .ok (.iastore, 1) := by decide +kernel
theorem dX1_add_53 : decode cX1_add 53 = .ok (.aload_n 0, 1) := by decide +kernel
theorem dX1_add_54 : decode cX1_add 54 = .ok (.getfield 24, 3) := by decide +kernel
theorem dX1_add_57 : decode cX1_add 57 = .ok (.aload_n 0, 1) := by decide +kernel
theorem dX1_add_58 : decode cX1_add 58 = .ok (.getfield 33, 3) := by decide +kernel
theorem dX1_add_61 : decode cX1_add 61 = .ok (.iload 5, 2) := by decide +kernel
theorem dX1_add_63 : decode cX1_add 63 = .ok (.iastore, 1) := by decide +kernel
theorem dX1_add_64 : decode cX1_add 64 = .ok (.aload_n 0, 1) := by decide +kernel
theorem dX1_add_65 : decode cX1_add 65 = .ok (.getfield 27, 3) := by decide +kernel
theorem dX1_add_68 : decode cX1_add 68 = .ok (.aload_n 0, 1) := by decide +kernel
theorem dX1_add_69 : decode cX1_add 69 = .ok (.getfield 33, 3) := by decide +kernel
theorem dX1_add_72 : decode cX1_add 72 = .ok (.iconst (-1), 1) := by decide +kernel
theorem dX1_add_73 : decode cX1_add 73 = .ok (.iastore, 1) := by decide +kernel
theorem dX1_add_74 : decode cX1_add 74 = .ok (.aload_n 0, 1) := by decide +kernel
theorem dX1_add_75 : decode cX1_add 75 = .ok (.getfield 30, 3) := by decide +kernel
theorem dX1_add_78 : decode cX1_add 78 = .ok (.aload_n 0, 1) := by decide +kernel
theorem dX1_add_79 : decode cX1_add 79 = .ok (.getfield 33, 3) := by decide +kernel
theorem dX1_add_82 : decode cX1_add 82 = .ok (.iconst 0, 1) := by decide +kernel
theorem dX1_add_83 : decode cX1_add 83 = .ok (.iastore, 1) := by decide +kernel
theorem dX1_add_84 : decode cX1_add 84 = .ok (.aload_n 0, 1) := by decide +kernel
theorem dX1_add_85 : decode cX1_add 85 = .ok (.dup, 1) := by decide +kernel
theorem dX1_add_86 : decode cX1_add 86 = .ok (.getfield 33, 3) := by decide +kernel
theorem dX1_add_89 : decode cX1_add 89 = .ok (.dup_x1, 1) := by decide +kernel
theorem dX1_add_90 : decode cX1_add 90 = .ok (.iconst 1, 1) := by decide +kernel
theorem dX1_add_91 : decode cX1_add 91 = .ok (.iadd, 1) := by decide +kernel
theorem dX1_add_92 : decode cX1_add 92 = .ok (.putfield 33, 3) := by decide +kernel
theorem dX1_add_95 : decode cX1_add 95 = .ok (.ireturn, 1) := by decide +kernel
set_option maxRecDepth 20000 in
theorem ggX1_bytesFrom_J6_bitCount_0f7a4 : GoodIn wsX1_bytesFrom wsJ6_bitCount_0f7a4 := goodIn_r _ [7, 8, 9, 10] (by decide +kernel) (by decide +kernel)
set_option maxRecDepth 20000 in
theorem gX1_bytesFrom_J6_bitCount_0f7a4 : GoodIn wsX1_bytesFrom (va_wsS RX1 40 yJ6_bitCount_0f7a4 wsJ6_bitCount_0f7a4) := goodIn_app (goodIn_of _ (by decide +kernel)) ggX1_bytesFrom_J6_bitCount_0f7a4
theorem dX1_bytesFrom_0 : decode cX1_bytesFrom 0 = .ok (.iconst 0, 1) := by decide +kernel
theorem dX1_bytesFrom_1 : decode cX1_bytesFrom 1 = .ok (.istore_n 2, 1) := by decide +kernel
theorem dX1_bytesFrom_2 : decode cX1_bytesFrom 2 = .ok (.iconst 0, 1) := by decide +kernel
theorem dX1_bytesFrom_3 : decode cX1_bytesFrom 3 = .ok (.istore_n 3, 1) := by decide +kernel
theorem dX1_bytesFrom_4 : decode cX1_bytesFrom 4 = .ok (.iload_n 3, 1) := by decide +kernel
theorem dX1_bytesFrom_5 : decode cX1_bytesFrom 5 = .ok (.aload_n 0, 1) := by decide +kernel
theorem dX1_bytesFrom_6 : decode cX1_bytesFrom 6 = .ok (.getfield 33, 3) := by decide +kernel
theorem dX1_bytesFrom_9 : decode cX1_bytesFrom 9 = .ok (.if_icmp .ge 33, 3) := by decide +kernel
theorem dX1_bytesFrom_12 : decode cX1_bytesFrom 12 = .ok (.aload_n 0, 1) := by decide +kernel
theorem dX1_bytesFrom_13 : decode cX1_bytesFrom 13 = .ok (.getfield 9, 3) := by decide +kernel
theorem dX1_bytesFrom_16 : decode cX1_bytesFrom 16 = .ok (.iload_n 3, 1) := by decide +kernel
theorem dX1_bytesFrom_17 : decode cX1_bytesFrom 17 = .ok (.iaload, 1) := by decide +kernel
theorem dX1_bytesFrom_18 : decode cX1_bytesFrom 18 = .ok (.iload_n 1, 1) := by decide +kernel
theorem dX1_bytesFrom_19 : decode cX1_bytesFrom 19 = .ok (.if_icmp .ne 17, 3) := by decide +kernel
theorem dX1_bytesFrom_22 : decode cX1_bytesFrom 22 = .ok (.iload_n 2, 1) := by decide +kernel
theorem dX1_bytesFrom_23 : decode cX1_bytesFrom 23 = .ok (.iconst 4, 1) := by decide +kernel
theorem dX1_bytesFrom_24 : decode cX1_bytesFrom 24 = .ok (.aload_n 0, 1) := by decide +kernel
theorem dX1_bytesFrom_25 : decode cX1_bytesFrom 25 = .ok (.getfield 24, 3) := by decide +kernel
theorem dX1_bytesFrom_28 : decode cX1_bytesFrom 28 = .ok (.iload_n 3, 1) := by decide +kernel
theorem dX1_bytesFrom_29 : decode cX1_bytesFrom 29 = .ok (.iaload, 1) := by decide +kernel
theorem dX1_bytesFrom_30 : decode cX1_bytesFrom 30 = .ok (.invokestatic 40, 3) := by decide +kernel
theorem dX1_bytesFrom_33 : decode cX1_bytesFrom 33 = .ok (.iadd, 1) := by decide +kernel
theorem dX1_bytesFrom_34 : decode cX1_bytesFrom 34 = .ok (.iadd, 1) := by decide +kernel
theorem dX1_bytesFrom_35 : decode cX1_bytesFrom 35 = .ok (.istore_n 2, 1) := by decide +kernel
theorem dX1_bytesFrom_36 : decode cX1_bytesFrom 36 = .ok (.iinc 3 1, 3) := by decide +kernel
theorem dX1_bytesFrom_39 : decode cX1_bytesFrom 39 = .ok (.goto (-35), 3) := by decide +kernel
theorem dX1_bytesFrom_42 : decode cX1_bytesFrom 42 = .ok (.iload_n 2, 1) := by decide +kernel
theorem dX1_bytesFrom_43 : decode cX1_bytesFrom 43 = .ok (.ireturn, 1) := by decide +kernel
set_option maxRecDepth 20000 in
theorem ggX2_init_J7_fill_53178 : GoodIn wsX2_init wsJ7_fill_53178 := goodIn_r _ [12] (by decide +kernel) (by decide +kernel)
set_option maxRecDepth 20000 in
theorem gX2_init_J7_fill_53178 : GoodIn wsX2_init (va_wsS RX2 25 yJ7_fill_53178 wsJ7_fill_53178) := goodIn_app (goodIn_of _ (by decide +kernel)) ggX2_init_J7_fill_53178
theorem dX2_init_0 : decode cX2_init 0 = .ok (.aload_n 0, 1) := by decide +kernel
theorem dX2_init_1 : decode cX2_init 1 = .ok (.invokespecial 3, 3) := by decide +kernel
theorem dX2_init_4 : decode cX2_init 4 = .ok (.aload_n 0, 1) := by decide +kernel
theorem dX2_init_5 : decode cX2_init 5 = .ok (.bipush 6, 2) := by decide +kernel
theorem dX2_init_7 : decode cX2_init 7 = .ok (.newarray .int, 2) := by decide +kernel
theorem dX2_init_9 : decode cX2_init 9 = .ok (.putfield 9, 3) := by decide +kernel
theorem dX2_init_12 : decode cX2_init 12 = .ok (.aload_n 0, 1) := by decide +kernel
theorem dX2_init_13 : decode cX2_init 13 = .ok (.bipush 36, 2) := by decide +kernel
theorem dX2_init_15 : decode cX2_init 15 = .ok (.newarray .int, 2) := by decide +kernel
theorem dX2_init_17 : decode cX2_init 17 = .ok (.putfield 15, 3) := by decide +kernel
theorem dX2_init_20 : decode cX2_init 20 = .ok (.aload_n 0, 1) := by decide +kernel
theorem dX2_init_21 : decode cX2_init 21 = .ok (.bipush 6, 2) := by decide +kernel
theorem dX2_init_23 : decode cX2_init 23 = .ok (.newarray .int, 2) := by decide +kernel
theorem dX2_init_25 : decode cX2_init 25 = .ok (.putfield 18, 3) := by decide +kernel
theorem dX2_init_28 : decode cX2_init 28 = .ok (.aload_n 0, 1) := by decide +kernel
theorem dX2_init_29 : decode cX2_init 29 = .ok (.iload_n 1, 1) := by decide +kernel
theorem dX2_init_30 : decode cX2_init 30 = .ok (.putfield 21, 3) := by decide +kernel
theorem dX2_init_33 : decode cX2_init 33 = .ok (.aload_n 0, 1) := by decide +kernel
theorem dX2_init_34 : decode cX2_init 34 = .ok (.getfield 15, 3) := by decide +kernel
theorem dX2_init_37 : decode cX2_init 37 = .ok (.iconst 1, 1) := by decide +kernel
theorem dX2_init_38 : decode cX2_init 38 = .ok (.invokestatic 25, 3) := by decide +kernel
theorem dX2_init_41 : decode cX2_init 41 = .ok (.return_, 1) := by decide +kernel
theorem dX2_has_0 : decode cX2_has 0 = .ok (.iload_n 1, 1) := by decide +kernel
theorem dX2_has_1 : decode cX2_has 1 = .ok (.ifCond .lt 15, 3) := by decide +kernel
theorem dX2_has_4 : decode cX2_has 4 = .ok (.iload_n 1, 1) := by decide +kernel
theorem dX2_has_5 : decode cX2_has 5 = .ok (.aload_n 0, 1) := by decide +kernel
theorem dX2_has_6 : decode cX2_has 6 = .ok (.getfield 21, 3) := by decide +kernel
theorem dX2_has_9 : decode cX2_has 9 = .ok (.if_icmp .ge 7, 3) := by decide +kernel
theorem dX2_has_12 : decode cX2_has 12 = .ok (.iconst 1, 1) := by decide +kernel
theorem dX2_has_13 : decode cX2_has 13 = .ok (.goto 4, 3) := by decide +kernel
theorem dX2_has_16 : decode cX2_has 16 = .ok (.iconst 0, 1) := by decide +kernel
theorem dX2_has_17 : decode cX2_has 17 = .ok (.ireturn, 1) := by decide +kernel
theorem dX2_hasAllOf_0 : decode cX2_hasAllOf 0 = .ok (.iload_n 1, 1) := by decide +kernel
theorem dX2_hasAllOf_1 : decode cX2_hasAllOf 1 = .ok (.iconst 1, 1) := by decide +kernel
theorem dX2_hasAllOf_2 : decode cX2_hasAllOf 2 = .ok (.aload_n 0, 1) := by decide +kernel
theorem dX2_hasAllOf_3 : decode cX2_hasAllOf 3 = .ok (.getfield 21, 3) := by decide +kernel
theorem dX2_hasAllOf_6 : decode cX2_hasAllOf 6 = .ok (.ishl, 1) := by decide +kernel
theorem dX2_hasAllOf_7 : decode cX2_hasAllOf 7 = .ok (.ineg, 1) := by decide +kernel
theorem dX2_hasAllOf_8 : decode cX2_hasAllOf 8 = .ok (.iand, 1) := by decide +kernel
theorem dX2_hasAllOf_9 : decode cX2_hasAllOf 9 = .ok (.ifCond .ne 7, 3) := by decide +kernel
theorem dX2_hasAllOf_12 : decode cX2_hasAllOf 12 = .ok (.iconst 1, 1) := by decide +kernel
theorem dX2_hasAllOf_13 : decode cX2_hasAllOf 13 = .ok (.goto 4, 3) := by decide +kernel
theorem dX2_hasAllOf_16 : decode cX2_hasAllOf 16 = .ok (.iconst 0, 1) := by decide +kernel
theorem dX2_hasAllOf_17 : decode cX2_hasAllOf 17 = .ok (.ireturn, 1) := by decide +kernel
theorem dX2_isMoreThanHalf_0 : decode cX2_isMoreThanHalf 0 = .ok (.iconst 2, 1) := by decide +kernel
theorem dX2_isMoreThanHalf_1 : decode cX2_isMoreThanHalf 1 = .ok (.iload_n 1, 1) := by decide +kernel
theorem dX2_isMoreThanHalf_2 : decode cX2_isMoreThanHalf 2 = .ok (.imul, 1) := by decide +kernel
theorem dX2_isMoreThanHalf_3 : decode cX2_isMoreThanHalf 3 = .ok (.aload_n 0, 1) := by decide +kernel
theorem dX2_isMoreThanHalf_4 : decode cX2_isMoreThanHalf 4 = .ok (.getfield 21, 3) := by decide +kernel
theorem dX2_isMoreThanHalf_7 : decode cX2_isMoreThanHalf 7 = .ok (.if_icmp .le 7, 3) := by decide +kernel
theorem dX2_isMoreThanHalf_10 : decode cX2_isMoreThanHalf 10 = .ok (.iconst 1, 1) := by decide +kernel
theorem dX2_isMoreThanHalf_11 : decode cX2_isMoreThanHalf 11 = .ok (.goto 4, 3) := by decide +kernel
theorem dX2_isMoreThanHalf_14 : decode cX2_isMoreThanHalf 14 = .ok (.iconst 0, 1) := by decide +kernel
theorem dX2_isMoreThanHalf_15 : decode cX2_isMoreThanHalf 15 = .ok (.ireturn, 1) := by decide +kernel
theorem dX2_heightSaid_0 : decode cX2_heightSaid 0 = .ok (.aload_n 0, 1) := by decide +kernel
theorem dX2_heightSaid_1 : decode cX2_heightSaid 1 = .ok (.getfield 9, 3) := by decide +kernel
theorem dX2_heightSaid_4 : decode cX2_heightSaid 4 = .ok (.iload_n 1, 1) := by decide +kernel
theorem dX2_heightSaid_5 : decode cX2_heightSaid 5 = .ok (.iaload, 1) := by decide +kernel
theorem dX2_heightSaid_6 : decode cX2_heightSaid 6 = .ok (.lookupswitch 32 #[(1, 26), (3, 30)], 26) := by decide +kernel
theorem dX2_heightSaid_32 : decode cX2_heightSaid 32 = .ok (.iload_n 2, 1) := by decide +kernel
theorem dX2_heightSaid_33 : decode cX2_heightSaid 33 = .ok (.iconst 3, 1) := by decide +kernel
theorem dX2_heightSaid_34 : decode cX2_heightSaid 34 = .ok (.iadd, 1) := by decide +kernel
theorem dX2_heightSaid_35 : decode cX2_heightSaid 35 = .ok (.ireturn, 1) := by decide +kernel
theorem dX2_heightSaid_36 : decode cX2_heightSaid 36 = .ok (.iconst 0, 1) := by decide +kernel
theorem dX2_heightSaid_37 : decode cX2_heightSaid 37 = .ok (.ireturn, 1) := by decide +kernel
theorem dX2_heightSaid_38 : decode cX2_heightSaid 38 = .ok (.iload_n 2, 1) := by decide +kernel
theorem dX2_heightSaid_39 : decode cX2_heightSaid 39 = .ok (.ireturn, 1) := by decide +kernel
theorem dX3_init_0 : decode cX3_init 0 = .ok (.aload_n 0, 1) := by decide +kernel
theorem dX3_init_1 : decode cX3_init 1 = .ok (.invokespecial 3, 3) := by decide +kernel
theorem dX3_init_4 : decode cX3_init 4 = .ok (.aload_n 0, 1) := by decide +kernel
theorem dX3_init_5 : decode cX3_init 5 = .ok (.bipush 6, 2) := by decide +kernel
theorem dX3_init_7 : decode cX3_init 7 = .ok (.newarray .int, 2) := by decide +kernel
theorem dX3_init_9 : decode cX3_init 9 = .ok (.putfield 9, 3) := by decide +kernel
theorem dX3_init_12 : decode cX3_init 12 = .ok (.aload_n 0, 1) := by decide +kernel
theorem dX3_init_13 : decode cX3_init 13 = .ok (.bipush 6, 2) := by decide +kernel
theorem dX3_init_15 : decode cX3_init 15 = .ok (.newarray .int, 2) := by decide +kernel
theorem dX3_init_17 : decode cX3_init 17 = .ok (.putfield 15, 3) := by decide +kernel
theorem dX3_init_20 : decode cX3_init 20 = .ok (.aload_n 0, 1) := by decide +kernel
theorem dX3_init_21 : decode cX3_init 21 = .ok (.bipush 6, 2) := by decide +kernel
theorem dX3_init_23 : decode cX3_init 23 = .ok (.newarray .boolean, 2) := by decide +kernel
theorem dX3_init_25 : decode cX3_init 25 = .ok (.putfield 18, 3) := by decide +kernel
theorem dX3_init_28 : decode cX3_init 28 = .ok (.aload_n 0, 1) := by decide +kernel
theorem dX3_init_29 : decode cX3_init 29 = .ok (.bipush 6, 2) := by decide +kernel
theorem dX3_init_31 : decode cX3_init 31 = .ok (.newarray .boolean, 2) := by decide +kernel
theorem dX3_init_33 : decode cX3_init 33 = .ok (.putfield 22, 3) := by decide +kernel
theorem dX3_init_36 : decode cX3_init 36 = .ok (.aload_n 0, 1) := by decide +kernel
theorem dX3_init_37 : decode cX3_init 37 = .ok (.bipush 36, 2) := by decide +kernel
theorem dX3_init_39 : decode cX3_init 39 = .ok (.newarray .int, 2) := by decide +kernel
theorem dX3_init_41 : decode cX3_init 41 = .ok (.putfield 25, 3) := by decide +kernel
theorem dX3_init_44 : decode cX3_init 44 = .ok (.aload_n 0, 1) := by decide +kernel
theorem dX3_init_45 : decode cX3_init 45 = .ok (.aload_n 1, 1) := by decide +kernel
theorem dX3_init_46 : decode cX3_init 46 = .ok (.putfield 28, 3) := by decide +kernel
theorem dX3_init_49 : decode cX3_init 49 = .ok (.return_, 1) := by decide +kernel
set_option maxRecDepth 20000 in
theorem ggX3_begin_J7_fill_53178 : GoodIn wsX3_begin wsJ7_fill_53178 := goodIn_r _ [13] (by decide +kernel) (by decide +kernel)
set_option maxRecDepth 20000 in
theorem gX3_begin_J7_fill_53178 : GoodIn wsX3_begin (va_wsS RX3 32 yJ7_fill_53178 wsJ7_fill_53178) := goodIn_app (goodIn_of _ (by decide +kernel)) ggX3_begin_J7_fill_53178
theorem dX3_begin_0 : decode cX3_begin 0 = .ok (.aload_n 0, 1) := by decide +kernel
theorem dX3_begin_1 : decode cX3_begin 1 = .ok (.getfield 25, 3) := by decide +kernel
theorem dX3_begin_4 : decode cX3_begin 4 = .ok (.iconst 0, 1) := by decide +kernel
theorem dX3_begin_5 : decode cX3_begin 5 = .ok (.invokestatic 32, 3) := by decide +kernel
theorem dX3_begin_8 : decode cX3_begin 8 = .ok (.iconst 0, 1) := by decide +kernel
theorem dX3_begin_9 : decode cX3_begin 9 = .ok (.istore_n 1, 1) := by decide +kernel
theorem dX3_begin_10 : decode cX3_begin 10 = .ok (.iload_n 1, 1) := by decide +kernel
theorem dX3_begin_11 : decode cX3_begin 11 = .ok (.aload_n 0, 1) := by decide +kernel
theorem dX3_begin_12 : decode cX3_begin 12 = .ok (.getfield 28, 3) := by decide +kernel
theorem dX3_begin_15 : decode cX3_begin 15 = .ok (.getfield 38, 3) := by decide +kernel
theorem dX3_begin_18 : decode cX3_begin 18 = .ok (.if_icmp .ge 45, 3) := by decide +kernel
theorem dX3_begin_21 : decode cX3_begin 21 = .ok (.aload_n 0, 1) := by decide +kernel
theorem dX3_begin_22 : decode cX3_begin 22 = .ok (.getfield 9, 3) := by decide +kernel
theorem dX3_begin_25 : decode cX3_begin 25 = .ok (.iload_n 1, 1) := by decide +kernel
theorem dX3_begin_26 : decode cX3_begin 26 = .ok (.iconst 0, 1) := by decide +kernel
theorem dX3_begin_27 : decode cX3_begin 27 = .ok (.iastore, 1) := by decide +kernel
theorem dX3_begin_28 : decode cX3_begin 28 = .ok (.aload_n 0, 1) := by decide +kernel
theorem dX3_begin_29 : decode cX3_begin 29 = .ok (.getfield 15, 3) := by decide +kernel
theorem dX3_begin_32 : decode cX3_begin 32 = .ok (.iload_n 1, 1) := by decide +kernel
theorem dX3_begin_33 : decode cX3_begin 33 = .ok (.aload_n 0, 1) := by decide +kernel
theorem dX3_begin_34 : decode cX3_begin 34 = .ok (.getfield 28, 3) := by decide +kernel
theorem dX3_begin_37 : decode cX3_begin 37 = .ok (.getfield 44, 3) := by decide +kernel
theorem dX3_begin_40 : decode cX3_begin 40 = .ok (.iload_n 1, 1) := by decide +kernel
theorem dX3_begin_41 : decode cX3_begin 41 = .ok (.iaload, 1) := by decide +kernel
theorem dX3_begin_42 : decode cX3_begin 42 = .ok (.iastore, 1) := by decide +kernel
theorem dX3_begin_43 : decode cX3_begin 43 = .ok (.aload_n 0, 1) := by decide +kernel
theorem dX3_begin_44 : decode cX3_begin 44 = .ok (.getfield 18, 3) := by decide +kernel
theorem dX3_begin_47 : decode cX3_begin 47 = .ok (.iload_n 1, 1) := by decide +kernel
theorem dX3_begin_48 : decode cX3_begin 48 = .ok (.iconst 1, 1) := by decide +kernel
theorem dX3_begin_49 : decode cX3_begin 49 = .ok (.bastore, 1) := by decide +kernel
theorem dX3_begin_50 : decode cX3_begin 50 = .ok (.aload_n 0, 1) := by decide +kernel
theorem dX3_begin_51 : decode cX3_begin 51 = .ok (.getfield 22, 3) := by decide +kernel
theorem dX3_begin_54 : decode cX3_begin 54 = .ok (.iload_n 1, 1) := by decide +kernel
theorem dX3_begin_55 : decode cX3_begin 55 = .ok (.iconst 0, 1) := by decide +kernel
theorem dX3_begin_56 : decode cX3_begin 56 = .ok (.bastore, 1) := by decide +kernel
theorem dX3_begin_57 : decode cX3_begin 57 = .ok (.iinc 1 1, 3) := by decide +kernel
theorem dX3_begin_60 : decode cX3_begin 60 = .ok (.goto (-50), 3) := by decide +kernel
theorem dX3_begin_63 : decode cX3_begin 63 = .ok (.aload_n 0, 1) := by decide +kernel
theorem dX3_begin_64 : decode cX3_begin 64 = .ok (.iconst 0, 1) := by decide +kernel
theorem dX3_begin_65 : decode cX3_begin 65 = .ok (.putfield 47, 3) := by decide +kernel
theorem dX3_begin_68 : decode cX3_begin 68 = .ok (.return_, 1) := by decide +kernel
set_option maxRecDepth 20000 in
theorem ggX3_meet_X2_has : GoodIn wsX3_meet wsX2_has := goodIn_r _ [8, 9, 27, 28, 29, 30] (by decide +kernel) (by decide +kernel)
set_option maxRecDepth 20000 in
theorem gX3_meet_X2_has : GoodIn wsX3_meet (wsV RX3 50 RX2 yX2_has wsX2_has) := goodIn_app (goodIn_of _ (by decide +kernel)) ggX3_meet_X2_has
set_option maxRecDepth 20000 in
theorem ggX3_meet_X3_forgetShown : GoodIn wsX3_meet wsX3_forgetShown := goodIn_r _ [14, 2, 15, 16, 17, 18, 19, 20, 21, 22, 23, 24, 25, 26, 27, 28, 29, 30] (by decide +kernel) (by decide +kernel)
set_option maxRecDepth 20000 in
theorem gX3_meet_X3_forgetShown : GoodIn wsX3_meet (wsV RX3 54 RX3 yX3_forgetShown wsX3_forgetShown) := goodIn_app (goodIn_of _ (by decide +kernel)) ggX3_meet_X3_forgetShown
theorem dX3_meet_0 : decode cX3_meet 0 = .ok (.iload_n 1, 1) := by decide +kernel
theorem dX3_meet_1 : decode cX3_meet 1 = .ok (.ifCond .ne 11, 3) := by decide +kernel
theorem dX3_meet_4 : decode cX3_meet 4 = .ok (.aload_n 0, 1) := by decide +kernel
theorem dX3_meet_5 : decode cX3_meet 5 = .ok (.iload_n 2, 1) := by decide +kernel
theorem dX3_meet_6 : decode cX3_meet 6 = .ok (.putfield 47, 3) := by decide +kernel
theorem dX3_meet_9 : decode cX3_meet 9 = .ok (.goto 79, 3) := by decide +kernel
theorem dX3_meet_12 : decode cX3_meet 12 = .ok (.iload_n 1, 1) := by decide +kernel
theorem dX3_meet_13 : decode cX3_meet 13 = .ok (.iconst 1, 1) := by decide +kernel
theorem dX3_meet_14 : decode cX3_meet 14 = .ok (.if_icmp .ne 11, 3) := by decide +kernel
theorem dX3_meet_17 : decode cX3_meet 17 = .ok (.aload_n 0, 1) := by decide +kernel
theorem dX3_meet_18 : decode cX3_meet 18 = .ok (.iconst 0, 1) := by decide +kernel
theorem dX3_meet_19 : decode cX3_meet 19 = .ok (.putfield 47, 3) := by decide +kernel
theorem dX3_meet_22 : decode cX3_meet 22 = .ok (.goto 66, 3) := by decide +kernel
theorem dX3_meet_25 : decode cX3_meet 25 = .ok (.iload_n 1, 1) := by decide +kernel
theorem dX3_meet_26 : decode cX3_meet 26 = .ok (.iconst 2, 1) := by decide +kernel
theorem dX3_meet_27 : decode cX3_meet 27 = .ok (.if_icmp .ne 24, 3) := by decide +kernel
theorem dX3_meet_30 : decode cX3_meet 30 = .ok (.aload_n 0, 1) := by decide +kernel
theorem dX3_meet_31 : decode cX3_meet 31 = .ok (.getfield 28, 3) := by decide +kernel
theorem dX3_meet_34 : decode cX3_meet 34 = .ok (.iload_n 2, 1) := by decide +kernel
theorem dX3_meet_35 : decode cX3_meet 35 = .ok (.invokevirtual 50, 3) := by decide +kernel
theorem dX3_meet_38 : decode cX3_meet 38 = .ok (.ifCond .eq 13, 3) := by decide +kernel
theorem dX3_meet_41 : decode cX3_meet 41 = .ok (.aload_n 0, 1) := by decide +kernel
theorem dX3_meet_42 : decode cX3_meet 42 = .ok (.getfield 18, 3) := by decide +kernel
theorem dX3_meet_45 : decode cX3_meet 45 = .ok (.iload_n 2, 1) := by decide +kernel
theorem dX3_meet_46 : decode cX3_meet 46 = .ok (.iconst 0, 1) := by decide +kernel
theorem dX3_meet_47 : decode cX3_meet 47 = .ok (.bastore, 1) := by decide +kernel
theorem dX3_meet_48 : decode cX3_meet 48 = .ok (.goto 40, 3) := by decide +kernel
theorem dX3_meet_51 : decode cX3_meet 51 = .ok (.iload_n 1, 1) := by decide +kernel
theorem dX3_meet_52 : decode cX3_meet 52 = .ok (.iconst 3, 1) := by decide +kernel
theorem dX3_meet_53 : decode cX3_meet 53 = .ok (.if_icmp .ne 35, 3) := by decide +kernel
theorem dX3_meet_56 : decode cX3_meet 56 = .ok (.aload_n 0, 1) := by decide +kernel
theorem dX3_meet_57 : decode cX3_meet 57 = .ok (.getfield 28, 3) := by decide +kernel
theorem dX3_meet_60 : decode cX3_meet 60 = .ok (.iload_n 2, 1) := by decide +kernel
theorem dX3_meet_61 : decode cX3_meet 61 = .ok (.invokevirtual 50, 3) := by decide +kernel
theorem dX3_meet_64 : decode cX3_meet 64 = .ok (.ifCond .eq 24, 3) := by decide +kernel
theorem dX3_meet_67 : decode cX3_meet 67 = .ok (.aload_n 0, 1) := by decide +kernel
theorem dX3_meet_68 : decode cX3_meet 68 = .ok (.getfield 18, 3) := by decide +kernel
theorem dX3_meet_71 : decode cX3_meet 71 = .ok (.iload_n 2, 1) := by decide +kernel
theorem dX3_meet_72 : decode cX3_meet 72 = .ok (.baload, 1) := by decide +kernel
theorem dX3_meet_73 : decode cX3_meet 73 = .ok (.ifCond .ne 15, 3) := by decide +kernel
theorem dX3_meet_76 : decode cX3_meet 76 = .ok (.aload_n 0, 1) := by decide +kernel
theorem dX3_meet_77 : decode cX3_meet 77 = .ok (.getfield 18, 3) := by decide +kernel
theorem dX3_meet_80 : decode cX3_meet 80 = .ok (.iload_n 2, 1) := by decide +kernel
theorem dX3_meet_81 : decode cX3_meet 81 = .ok (.iconst 1, 1) := by decide +kernel
theorem dX3_meet_82 : decode cX3_meet 82 = .ok (.bastore, 1) := by decide +kernel
theorem dX3_meet_83 : decode cX3_meet 83 = .ok (.aload_n 0, 1) := by decide +kernel
theorem dX3_meet_84 : decode cX3_meet 84 = .ok (.iload_n 2, 1) := by decide +kernel
theorem dX3_meet_85 : decode cX3_meet 85 = .ok (.invokevirtual 54, 3) := by decide +kernel
theorem dX3_meet_88 : decode cX3_meet 88 = .ok (.return_, 1) := by decide +kernel
set_option maxRecDepth 20000 in
theorem ggX3_forgetShown_X6_pair : GoodIn wsX3_forgetShown wsX6_pair := goodIn_r _ [6] (by decide +kernel) (by decide +kernel)
set_option maxRecDepth 20000 in
theorem gX3_forgetShown_X6_pair_n58 : GoodIn wsX3_forgetShown (wsX6_pair) := ggX3_forgetShown_X6_pair
theorem dX3_forgetShown_0 : decode cX3_forgetShown 0 = .ok (.iconst 0, 1) := by decide +kernel
theorem dX3_forgetShown_1 : decode cX3_forgetShown 1 = .ok (.istore_n 2, 1) := by decide +kernel
theorem dX3_forgetShown_2 : decode cX3_forgetShown 2 = .ok (.iload_n 2, 1) := by decide +kernel
theorem dX3_forgetShown_3 : decode cX3_forgetShown 3 = .ok (.aload_n 0, 1) := by decide +kernel
theorem dX3_forgetShown_4 : decode cX3_forgetShown 4 = .ok (.getfield 28, 3) := by decide +kernel
theorem dX3_forgetShown_7 : decode cX3_forgetShown 7 = .ok (.getfield 38, 3) := by decide +kernel
theorem dX3_forgetShown_10 : decode cX3_forgetShown 10 = .ok (.if_icmp .ge 20, 3) := by decide +kernel
theorem dX3_forgetShown_13 : decode cX3_forgetShown 13 = .ok (.aload_n 0, 1) := by decide +kernel
theorem dX3_forgetShown_14 : decode cX3_forgetShown 14 = .ok (.getfield 25, 3) := by decide +kernel
theorem dX3_forgetShown_17 : decode cX3_forgetShown 17 = .ok (.iload_n 1, 1) := by decide +kernel
theorem dX3_forgetShown_18 : decode cX3_forgetShown 18 = .ok (.iload_n 2, 1) := by decide +kernel
theorem dX3_forgetShown_19 : decode cX3_forgetShown 19 = .ok (.invokestatic 58, 3) := by decide +kernel
theorem dX3_forgetShown_22 : decode cX3_forgetShown 22 = .ok (.iconst 0, 1) := by decide +kernel
theorem dX3_forgetShown_23 : decode cX3_forgetShown 23 = .ok (.iastore, 1) := by decide +kernel
theorem dX3_forgetShown_24 : decode cX3_forgetShown 24 = .ok (.iinc 2 1, 3) := by decide +kernel
theorem dX3_forgetShown_27 : decode cX3_forgetShown 27 = .ok (.goto (-25), 3) := by decide +kernel
theorem dX3_forgetShown_30 : decode cX3_forgetShown 30 = .ok (.return_, 1) := by decide +kernel
theorem dX3_canReach_0 : decode cX3_canReach 0 = .ok (.aload_n 0, 1) := by decide +kernel
theorem dX3_canReach_1 : decode cX3_canReach 1 = .ok (.getfield 18, 3) := by decide +kernel
theorem dX3_canReach_4 : decode cX3_canReach 4 = .ok (.iload_n 2, 1) := by decide +kernel
theorem dX3_canReach_5 : decode cX3_canReach 5 = .ok (.baload, 1) := by decide +kernel
theorem dX3_canReach_6 : decode cX3_canReach 6 = .ok (.ifCond .eq 26, 3) := by decide +kernel
theorem dX3_canReach_9 : decode cX3_canReach 9 = .ok (.aload_n 0, 1) := by decide +kernel
theorem dX3_canReach_10 : decode cX3_canReach 10 = .ok (.getfield 47, 3) := by decide +kernel
theorem dX3_canReach_13 : decode cX3_canReach 13 = .ok (.iload_n 1, 1) := by decide +kernel
theorem dX3_canReach_14 : decode cX3_canReach 14 = .ok (.ishr, 1) := by decide +kernel
theorem dX3_canReach_15 : decode cX3_canReach 15 = .ok (.iconst 1, 1) := by decide +kernel
theorem dX3_canReach_16 : decode cX3_canReach 16 = .ok (.iand, 1) := by decide +kernel
theorem dX3_canReach_17 : decode cX3_canReach 17 = .ok (.aload_n 0, 1) := by decide +kernel
theorem dX3_canReach_18 : decode cX3_canReach 18 = .ok (.getfield 47, 3) := by decide +kernel
theorem dX3_canReach_21 : decode cX3_canReach 21 = .ok (.iload_n 2, 1) := by decide +kernel
theorem dX3_canReach_22 : decode cX3_canReach 22 = .ok (.ishr, 1) := by decide +kernel
theorem dX3_canReach_23 : decode cX3_canReach 23 = .ok (.iconst 1, 1) := by decide +kernel
theorem dX3_canReach_24 : decode cX3_canReach 24 = .ok (.iand, 1) := by decide +kernel
theorem dX3_canReach_25 : decode cX3_canReach 25 = .ok (.if_icmp .ne 7, 3) := by decide +kernel
theorem dX3_canReach_28 : decode cX3_canReach 28 = .ok (.iconst 1, 1) := by decide +kernel
theorem dX3_canReach_29 : decode cX3_canReach 29 = .ok (.goto 4, 3) := by decide +kernel
theorem dX3_canReach_32 : decode cX3_canReach 32 = .ok (.iconst 0, 1) := by decide +kernel
theorem dX3_canReach_33 : decode cX3_canReach 33 = .ok (.ireturn, 1) := by decide +kernel
set_option maxRecDepth 20000 in
theorem ggX3_takeIn_X6_pair : GoodIn wsX3_takeIn wsX6_pair := goodIn_r _ [9] (by decide +kernel) (by decide +kernel)
set_option maxRecDepth 20000 in
theorem gX3_takeIn_X6_pair_n58 : GoodIn wsX3_takeIn (wsX6_pair) := ggX3_takeIn_X6_pair
theorem dX3_takeIn_0 : decode cX3_takeIn 0 = .ok (.iload_n 2, 1) := by decide +kernel
theorem dX3_takeIn_1 : decode cX3_takeIn 1 = .ok (.iload_n 1, 1) := by decide +kernel
theorem dX3_takeIn_2 : decode cX3_takeIn 2 = .ok (.invokestatic 58, 3) := by decide +kernel
theorem dX3_takeIn_5 : decode cX3_takeIn 5 = .ok (.istore 5, 2) := by decide +kernel
theorem dX3_takeIn_7 : decode cX3_takeIn 7 = .ok (.aload_n 0, 1) := by decide +kernel
theorem dX3_takeIn_8 : decode cX3_takeIn 8 = .ok (.getfield 25, 3) := by decide +kernel
theorem dX3_takeIn_11 : decode cX3_takeIn 11 = .ok (.iload 5, 2) := by decide +kernel
theorem dX3_takeIn_13 : decode cX3_takeIn 13 = .ok (.aload_n 0, 1) := by decide +kernel
theorem dX3_takeIn_14 : decode cX3_takeIn 14 = .ok (.getfield 25, 3) := by decide +kernel
theorem dX3_takeIn_17 : decode cX3_takeIn 17 = .ok (.iload 5, 2) := by decide +kernel
theorem dX3_takeIn_19 : decode cX3_takeIn 19 = .ok (.iaload, 1) := by decide +kernel
theorem dX3_takeIn_20 : decode cX3_takeIn 20 = .ok (.iload_n 3, 1) := by decide +kernel
theorem dX3_takeIn_21 : decode cX3_takeIn 21 = .ok (.invokestatic 62, 3) := by decide +kernel
theorem dX3_takeIn_24 : decode cX3_takeIn 24 = .ok (.iastore, 1) := by decide +kernel
theorem dX3_takeIn_25 : decode cX3_takeIn 25 = .ok (.aload_n 0, 1) := by decide +kernel
theorem dX3_takeIn_26 : decode cX3_takeIn 26 = .ok (.getfield 15, 3) := by decide +kernel
theorem dX3_takeIn_29 : decode cX3_takeIn 29 = .ok (.iload_n 2, 1) := by decide +kernel
theorem dX3_takeIn_30 : decode cX3_takeIn 30 = .ok (.dup2, 1) := by decide +kernel
theorem dX3_takeIn_31 : decode cX3_takeIn 31 = .ok (.iaload, 1) := by decide +kernel
theorem dX3_takeIn_32 : decode cX3_takeIn 32 = .ok (.iload 4, 2) := by decide +kernel
theorem dX3_takeIn_34 : decode cX3_takeIn 34 = .ok (.ior, 1) := by decide +kernel
theorem dX3_takeIn_35 : decode cX3_takeIn 35 = .ok (.iastore, 1) := by decide +kernel
theorem dX3_takeIn_36 : decode cX3_takeIn 36 = .ok (.return_, 1) := by decide +kernel
set_option maxRecDepth 20000 in
theorem ggX3_grow_X3_thatShowedEnoughTo : GoodIn wsX3_grow wsX3_thatShowedEnoughTo := goodIn_r _ [10, 1, 2, 11, 5, 12, 13, 14, 21, 22, 23, 24, 25, 26, 27, 28, 29, 30, 31] (by decide +kernel) (by decide +kernel)
set_option maxRecDepth 20000 in
theorem gX3_grow_X3_thatShowedEnoughTo : GoodIn wsX3_grow (wsV RX3 67 RX3 yX3_thatShowedEnoughTo wsX3_thatShowedEnoughTo) := goodIn_app (goodIn_of _ (by decide +kernel)) ggX3_grow_X3_thatShowedEnoughTo
set_option maxRecDepth 20000 in
theorem ggX3_grow_X2_isMoreThanHalf : GoodIn wsX3_grow wsX2_isMoreThanHalf := goodIn_r _ [19, 20, 28, 29, 30, 31] (by decide +kernel) (by decide +kernel)
set_option maxRecDepth 20000 in
theorem gX3_grow_X2_isMoreThanHalf : GoodIn wsX3_grow (wsV RX3 71 RX2 yX2_isMoreThanHalf wsX2_isMoreThanHalf) := goodIn_app (goodIn_of _ (by decide +kernel)) ggX3_grow_X2_isMoreThanHalf
theorem dX3_grow_0 : decode cX3_grow 0 = .ok (.iconst 0, 1) := by decide +kernel
theorem dX3_grow_1 : decode cX3_grow 1 = .ok (.istore_n 1, 1) := by decide +kernel
theorem dX3_grow_2 : decode cX3_grow 2 = .ok (.iload_n 1, 1) := by decide +kernel
theorem dX3_grow_3 : decode cX3_grow 3 = .ok (.aload_n 0, 1) := by decide +kernel
theorem dX3_grow_4 : decode cX3_grow 4 = .ok (.getfield 28, 3) := by decide +kernel
theorem dX3_grow_7 : decode cX3_grow 7 = .ok (.getfield 38, 3) := by decide +kernel
theorem dX3_grow_10 : decode cX3_grow 10 = .ok (.if_icmp .ge 63, 3) := by decide +kernel
theorem dX3_grow_13 : decode cX3_grow 13 = .ok (.aload_n 0, 1) := by decide +kernel
theorem dX3_grow_14 : decode cX3_grow 14 = .ok (.getfield 22, 3) := by decide +kernel
theorem dX3_grow_17 : decode cX3_grow 17 = .ok (.iload_n 1, 1) := by decide +kernel
theorem dX3_grow_18 : decode cX3_grow 18 = .ok (.aload_n 0, 1) := by decide +kernel
theorem dX3_grow_19 : decode cX3_grow 19 = .ok (.getfield 18, 3) := by decide +kernel
theorem dX3_grow_22 : decode cX3_grow 22 = .ok (.iload_n 1, 1) := by decide +kernel
theorem dX3_grow_23 : decode cX3_grow 23 = .ok (.baload, 1) := by decide +kernel
theorem dX3_grow_24 : decode cX3_grow 24 = .ok (.ifCond .eq 22, 3) := by decide +kernel
theorem dX3_grow_27 : decode cX3_grow 27 = .ok (.aload_n 0, 1) := by decide +kernel
theorem dX3_grow_28 : decode cX3_grow 28 = .ok (.getfield 28, 3) := by decide +kernel
theorem dX3_grow_31 : decode cX3_grow 31 = .ok (.aload_n 0, 1) := by decide +kernel
theorem dX3_grow_32 : decode cX3_grow 32 = .ok (.iload_n 1, 1) := by decide +kernel
theorem dX3_grow_33 : decode cX3_grow 33 = .ok (.invokevirtual 67, 3) := by decide +kernel
theorem dX3_grow_36 : decode cX3_grow 36 = .ok (.invokevirtual 71, 3) := by decide +kernel
theorem dX3_grow_39 : decode cX3_grow 39 = .ok (.ifCond .eq 7, 3) := by decide +kernel
theorem dX3_grow_42 : decode cX3_grow 42 = .ok (.iconst 1, 1) := by decide +kernel
theorem dX3_grow_43 : decode cX3_grow 43 = .ok (.goto 4, 3) := by decide +kernel
theorem dX3_grow_46 : decode cX3_grow 46 = .ok (.iconst 0, 1) := by decide +kernel
theorem dX3_grow_47 : decode cX3_grow 47 = .ok (.bastore, 1) := by decide +kernel
theorem dX3_grow_48 : decode cX3_grow 48 = .ok (.aload_n 0, 1) := by decide +kernel
theorem dX3_grow_49 : decode cX3_grow 49 = .ok (.getfield 22, 3) := by decide +kernel
theorem dX3_grow_52 : decode cX3_grow 52 = .ok (.iload_n 1, 1) := by decide +kernel
theorem dX3_grow_53 : decode cX3_grow 53 = .ok (.baload, 1) := by decide +kernel
theorem dX3_grow_54 : decode cX3_grow 54 = .ok (.ifCond .eq 13, 3) := by decide +kernel
theorem dX3_grow_57 : decode cX3_grow 57 = .ok (.aload_n 0, 1) := by decide +kernel
theorem dX3_grow_58 : decode cX3_grow 58 = .ok (.getfield 9, 3) := by decide +kernel
theorem dX3_grow_61 : decode cX3_grow 61 = .ok (.iload_n 1, 1) := by decide +kernel
theorem dX3_grow_62 : decode cX3_grow 62 = .ok (.dup2, 1) := by decide +kernel
theorem dX3_grow_63 : decode cX3_grow 63 = .ok (.iaload, 1) := by decide +kernel
theorem dX3_grow_64 : decode cX3_grow 64 = .ok (.iconst 1, 1) := by decide +kernel
theorem dX3_grow_65 : decode cX3_grow 65 = .ok (.iadd, 1) := by decide +kernel
theorem dX3_grow_66 : decode cX3_grow 66 = .ok (.iastore, 1) := by decide +kernel
theorem dX3_grow_67 : decode cX3_grow 67 = .ok (.iinc 1 1, 3) := by decide +kernel
theorem dX3_grow_70 : decode cX3_grow 70 = .ok (.goto (-68), 3) := by decide +kernel
theorem dX3_grow_73 : decode cX3_grow 73 = .ok (.return_, 1) := by decide +kernel
set_option maxRecDepth 20000 in
theorem ggX3_thatShowedEnoughTo_X6_pair : GoodIn wsX3_thatShowedEnoughTo wsX6_pair := goodIn_r _ [7] (by decide +kernel) (by decide +kernel)
set_option maxRecDepth 20000 in
theorem gX3_thatShowedEnoughTo_X6_pair_n58 : GoodIn wsX3_thatShowedEnoughTo (wsX6_pair) := ggX3_thatShowedEnoughTo_X6_pair
theorem dX3_thatShowedEnoughTo_0 : decode cX3_thatShowedEnoughTo 0 = .ok (.iconst 0, 1) := by decide +kernel
theorem dX3_thatShowedEnoughTo_1 : decode cX3_thatShowedEnoughTo 1 = .ok (.istore_n 2, 1) := by decide +kernel
theorem dX3_thatShowedEnoughTo_2 : decode cX3_thatShowedEnoughTo 2 = .ok (.iconst 0, 1) := by decide +kernel
theorem dX3_thatShowedEnoughTo_3 : decode cX3_thatShowedEnoughTo 3 = .ok (.istore_n 3, 1) := by decide +kernel
theorem dX3_thatShowedEnoughTo_4 : decode cX3_thatShowedEnoughTo 4 = .ok (.iload_n 3, 1) := by decide +kernel
theorem dX3_thatShowedEnoughTo_5 : decode cX3_thatShowedEnoughTo 5 = .ok (.aload_n 0, 1) := by decide +kernel
theorem dX3_thatShowedEnoughTo_6 : decode cX3_thatShowedEnoughTo 6 = .ok (.getfield 28, 3) := by decide +kernel
theorem dX3_thatShowedEnoughTo_9 : decode cX3_thatShowedEnoughTo 9 = .ok (.getfield 38, 3) := by decide +kernel
theorem dX3_thatShowedEnoughTo_12 : decode cX3_thatShowedEnoughTo 12 = .ok (.if_icmp .ge 36, 3) := by decide +kernel
theorem dX3_thatShowedEnoughTo_15 : decode cX3_thatShowedEnoughTo 15 = .ok (.iload_n 3, 1) := by decide +kernel
theorem dX3_thatShowedEnoughTo_16 : decode cX3_thatShowedEnoughTo 16 = .ok (.iload_n 1, 1) := by decide +kernel
theorem dX3_thatShowedEnoughTo_17 : decode cX3_thatShowedEnoughTo 17 = .ok (.if_icmp .eq 22, 3) := by decide +kernel
theorem dX3_thatShowedEnoughTo_20 : decode cX3_thatShowedEnoughTo 20 = .ok (.aload_n 0, 1) := by decide +kernel
theorem dX3_thatShowedEnoughTo_21 : decode cX3_thatShowedEnoughTo 21 = .ok (.getfield 25, 3) := by decide +kernel
theorem dX3_thatShowedEnoughTo_24 : decode cX3_thatShowedEnoughTo 24 = .ok (.iload_n 1, 1) := by decide +kernel
theorem dX3_thatShowedEnoughTo_25 : decode cX3_thatShowedEnoughTo 25 = .ok (.iload_n 3, 1) := by decide +kernel
theorem dX3_thatShowedEnoughTo_26 : decode cX3_thatShowedEnoughTo 26 = .ok (.invokestatic 58, 3) := by decide +kernel
theorem dX3_thatShowedEnoughTo_29 : decode cX3_thatShowedEnoughTo 29 = .ok (.iaload, 1) := by decide +kernel
theorem dX3_thatShowedEnoughTo_30 : decode cX3_thatShowedEnoughTo 30 = .ok (.aload_n 0, 1) := by decide +kernel
theorem dX3_thatShowedEnoughTo_31 : decode cX3_thatShowedEnoughTo 31 = .ok (.getfield 9, 3) := by decide +kernel
theorem dX3_thatShowedEnoughTo_34 : decode cX3_thatShowedEnoughTo 34 = .ok (.iload_n 1, 1) := by decide +kernel
theorem dX3_thatShowedEnoughTo_35 : decode cX3_thatShowedEnoughTo 35 = .ok (.iaload, 1) := by decide +kernel
theorem dX3_thatShowedEnoughTo_36 : decode cX3_thatShowedEnoughTo 36 = .ok (.if_icmp .lt 6, 3) := by decide +kernel
theorem dX3_thatShowedEnoughTo_39 : decode cX3_thatShowedEnoughTo 39 = .ok (.iinc 2 1, 3) := by decide +kernel
theorem dX3_thatShowedEnoughTo_42 : decode cX3_thatShowedEnoughTo 42 = .ok (.iinc 3 1, 3) := by decide +kernel
theorem dX3_thatShowedEnoughTo_45 : decode cX3_thatShowedEnoughTo 45 = .ok (.goto (-41), 3) := by decide +kernel
theorem dX3_thatShowedEnoughTo_48 : decode cX3_thatShowedEnoughTo 48 = .ok (.iload_n 2, 1) := by decide +kernel
theorem dX3_thatShowedEnoughTo_49 : decode cX3_thatShowedEnoughTo 49 = .ok (.ireturn, 1) := by decide +kernel
set_option maxRecDepth 20000 in
theorem ggX3_keepTheRule_X3_noLowerThan : GoodIn wsX3_keepTheRule wsX3_noLowerThan := goodIn_r _ [13, 1, 2, 4, 20, 21, 22, 23, 24, 25, 26, 27, 28, 29, 30] (by decide +kernel) (by decide +kernel)
set_option maxRecDepth 20000 in
theorem gX3_keepTheRule_X3_noLowerThan : GoodIn wsX3_keepTheRule (wsV RX3 77 RX3 yX3_noLowerThan wsX3_noLowerThan) := goodIn_app (goodIn_of _ (by decide +kernel)) ggX3_keepTheRule_X3_noLowerThan
set_option maxRecDepth 20000 in
theorem ggX3_keepTheRule_X2_isMoreThanHalf : GoodIn wsX3_keepTheRule wsX2_isMoreThanHalf := goodIn_r _ [18, 19, 27, 28, 29, 30] (by decide +kernel) (by decide +kernel)
set_option maxRecDepth 20000 in
theorem gX3_keepTheRule_X2_isMoreThanHalf : GoodIn wsX3_keepTheRule (wsV RX3 71 RX2 yX2_isMoreThanHalf wsX2_isMoreThanHalf) := goodIn_app (goodIn_of _ (by decide +kernel)) ggX3_keepTheRule_X2_isMoreThanHalf
theorem dX3_keepTheRule_0 : decode cX3_keepTheRule 0 = .ok (.iconst 0, 1) := by decide +kernel
theorem dX3_keepTheRule_1 : decode cX3_keepTheRule 1 = .ok (.istore_n 1, 1) := by decide +kernel
theorem dX3_keepTheRule_2 : decode cX3_keepTheRule 2 = .ok (.iconst 0, 1) := by decide +kernel
theorem dX3_keepTheRule_3 : decode cX3_keepTheRule 3 = .ok (.istore_n 2, 1) := by decide +kernel
theorem dX3_keepTheRule_4 : decode cX3_keepTheRule 4 = .ok (.iload_n 2, 1) := by decide +kernel
theorem dX3_keepTheRule_5 : decode cX3_keepTheRule 5 = .ok (.aload_n 0, 1) := by decide +kernel
theorem dX3_keepTheRule_6 : decode cX3_keepTheRule 6 = .ok (.getfield 28, 3) := by decide +kernel
theorem dX3_keepTheRule_9 : decode cX3_keepTheRule 9 = .ok (.getfield 38, 3) := by decide +kernel
theorem dX3_keepTheRule_12 : decode cX3_keepTheRule 12 = .ok (.if_icmp .ge 32, 3) := by decide +kernel
theorem dX3_keepTheRule_15 : decode cX3_keepTheRule 15 = .ok (.aload_n 0, 1) := by decide +kernel
theorem dX3_keepTheRule_16 : decode cX3_keepTheRule 16 = .ok (.getfield 28, 3) := by decide +kernel
theorem dX3_keepTheRule_19 : decode cX3_keepTheRule 19 = .ok (.getfield 74, 3) := by decide +kernel
theorem dX3_keepTheRule_22 : decode cX3_keepTheRule 22 = .ok (.iload_n 2, 1) := by decide +kernel
theorem dX3_keepTheRule_23 : decode cX3_keepTheRule 23 = .ok (.iaload, 1) := by decide +kernel
theorem dX3_keepTheRule_24 : decode cX3_keepTheRule 24 = .ok (.ifCond .ne 14, 3) := by decide +kernel
theorem dX3_keepTheRule_27 : decode cX3_keepTheRule 27 = .ok (.iload_n 1, 1) := by decide +kernel
theorem dX3_keepTheRule_28 : decode cX3_keepTheRule 28 = .ok (.aload_n 0, 1) := by decide +kernel
theorem dX3_keepTheRule_29 : decode cX3_keepTheRule 29 = .ok (.getfield 9, 3) := by decide +kernel
theorem dX3_keepTheRule_32 : decode cX3_keepTheRule 32 = .ok (.iload_n 2, 1) := by decide +kernel
theorem dX3_keepTheRule_33 : decode cX3_keepTheRule 33 = .ok (.iaload, 1) := by decide +kernel
theorem dX3_keepTheRule_34 : decode cX3_keepTheRule 34 = .ok (.invokestatic 62, 3) := by decide +kernel
theorem dX3_keepTheRule_37 : decode cX3_keepTheRule 37 = .ok (.istore_n 1, 1) := by decide +kernel
theorem dX3_keepTheRule_38 : decode cX3_keepTheRule 38 = .ok (.iinc 2 1, 3) := by decide +kernel
theorem dX3_keepTheRule_41 : decode cX3_keepTheRule 41 = .ok (.goto (-37), 3) := by decide +kernel
theorem dX3_keepTheRule_44 : decode cX3_keepTheRule 44 = .ok (.iload_n 1, 1) := by decide +kernel
theorem dX3_keepTheRule_45 : decode cX3_keepTheRule 45 = .ok (.ifCond .eq 20, 3) := by decide +kernel
theorem dX3_keepTheRule_48 : decode cX3_keepTheRule 48 = .ok (.aload_n 0, 1) := by decide +kernel
theorem dX3_keepTheRule_49 : decode cX3_keepTheRule 49 = .ok (.getfield 28, 3) := by decide +kernel
theorem dX3_keepTheRule_52 : decode cX3_keepTheRule 52 = .ok (.aload_n 0, 1) := by decide +kernel
theorem dX3_keepTheRule_53 : decode cX3_keepTheRule 53 = .ok (.iload_n 1, 1) := by decide +kernel
theorem dX3_keepTheRule_54 : decode cX3_keepTheRule 54 = .ok (.iconst 1, 1) := by decide +kernel
theorem dX3_keepTheRule_55 : decode cX3_keepTheRule 55 = .ok (.isub, 1) := by decide +kernel
theorem dX3_keepTheRule_56 : decode cX3_keepTheRule 56 = .ok (.invokevirtual 77, 3) := by decide +kernel
theorem dX3_keepTheRule_59 : decode cX3_keepTheRule 59 = .ok (.invokevirtual 71, 3) := by decide +kernel
theorem dX3_keepTheRule_62 : decode cX3_keepTheRule 62 = .ok (.ifCond .eq 7, 3) := by decide +kernel
theorem dX3_keepTheRule_65 : decode cX3_keepTheRule 65 = .ok (.iconst 1, 1) := by decide +kernel
theorem dX3_keepTheRule_66 : decode cX3_keepTheRule 66 = .ok (.goto 4, 3) := by decide +kernel
theorem dX3_keepTheRule_69 : decode cX3_keepTheRule 69 = .ok (.iconst 0, 1) := by decide +kernel
theorem dX3_keepTheRule_70 : decode cX3_keepTheRule 70 = .ok (.ireturn, 1) := by decide +kernel
theorem dX3_noLowerThan_0 : decode cX3_noLowerThan 0 = .ok (.iconst 0, 1) := by decide +kernel
theorem dX3_noLowerThan_1 : decode cX3_noLowerThan 1 = .ok (.istore_n 2, 1) := by decide +kernel
theorem dX3_noLowerThan_2 : decode cX3_noLowerThan 2 = .ok (.iconst 0, 1) := by decide +kernel
theorem dX3_noLowerThan_3 : decode cX3_noLowerThan 3 = .ok (.istore_n 3, 1) := by decide +kernel
theorem dX3_noLowerThan_4 : decode cX3_noLowerThan 4 = .ok (.iload_n 3, 1) := by decide +kernel
theorem dX3_noLowerThan_5 : decode cX3_noLowerThan 5 = .ok (.aload_n 0, 1) := by decide +kernel
theorem dX3_noLowerThan_6 : decode cX3_noLowerThan 6 = .ok (.getfield 28, 3) := by decide +kernel
theorem dX3_noLowerThan_9 : decode cX3_noLowerThan 9 = .ok (.getfield 38, 3) := by decide +kernel
theorem dX3_noLowerThan_12 : decode cX3_noLowerThan 12 = .ok (.if_icmp .ge 22, 3) := by decide +kernel
theorem dX3_noLowerThan_15 : decode cX3_noLowerThan 15 = .ok (.aload_n 0, 1) := by decide +kernel
theorem dX3_noLowerThan_16 : decode cX3_noLowerThan 16 = .ok (.getfield 9, 3) := by decide +kernel
theorem dX3_noLowerThan_19 : decode cX3_noLowerThan 19 = .ok (.iload_n 3, 1) := by decide +kernel
theorem dX3_noLowerThan_20 : decode cX3_noLowerThan 20 = .ok (.iaload, 1) := by decide +kernel
theorem dX3_noLowerThan_21 : decode cX3_noLowerThan 21 = .ok (.iload_n 1, 1) := by decide +kernel
theorem dX3_noLowerThan_22 : decode cX3_noLowerThan 22 = .ok (.if_icmp .lt 6, 3) := by decide +kernel
theorem dX3_noLowerThan_25 : decode cX3_noLowerThan 25 = .ok (.iinc 2 1, 3) := by decide +kernel
theorem dX3_noLowerThan_28 : decode cX3_noLowerThan 28 = .ok (.iinc 3 1, 3) := by decide +kernel
theorem dX3_noLowerThan_31 : decode cX3_noLowerThan 31 = .ok (.goto (-27), 3) := by decide +kernel
theorem dX3_noLowerThan_34 : decode cX3_noLowerThan 34 = .ok (.iload_n 2, 1) := by decide +kernel
theorem dX3_noLowerThan_35 : decode cX3_noLowerThan 35 = .ok (.ireturn, 1) := by decide +kernel
theorem dX3_greatestHeight_0 : decode cX3_greatestHeight 0 = .ok (.iconst 0, 1) := by decide +kernel
theorem dX3_greatestHeight_1 : decode cX3_greatestHeight 1 = .ok (.istore_n 1, 1) := by decide +kernel
theorem dX3_greatestHeight_2 : decode cX3_greatestHeight 2 = .ok (.iconst 0, 1) := by decide +kernel
theorem dX3_greatestHeight_3 : decode cX3_greatestHeight 3 = .ok (.istore_n 2, 1) := by decide +kernel
theorem dX3_greatestHeight_4 : decode cX3_greatestHeight 4 = .ok (.iload_n 2, 1) := by decide +kernel
theorem dX3_greatestHeight_5 : decode cX3_greatestHeight 5 = .ok (.aload_n 0, 1) := by decide +kernel
theorem dX3_greatestHeight_6 : decode cX3_greatestHeight 6 = .ok (.getfield 28, 3) := by decide +kernel
theorem dX3_greatestHeight_9 : decode cX3_greatestHeight 9 = .ok (.getfield 38, 3) := by decide +kernel
theorem dX3_greatestHeight_12 : decode cX3_greatestHeight 12 = .ok (.if_icmp .ge 20, 3) := by decide +kernel
theorem dX3_greatestHeight_15 : decode cX3_greatestHeight 15 = .ok (.iload_n 1, 1) := by decide +kernel
theorem dX3_greatestHeight_16 : decode cX3_greatestHeight 16 = .ok (.aload_n 0, 1) := by decide +kernel
theorem dX3_greatestHeight_17 : decode cX3_greatestHeight 17 = .ok (.getfield 9, 3) := by decide +kernel
theorem dX3_greatestHeight_20 : decode cX3_greatestHeight 20 = .ok (.iload_n 2, 1) := by decide +kernel
theorem dX3_greatestHeight_21 : decode cX3_greatestHeight 21 = .ok (.iaload, 1) := by decide +kernel
theorem dX3_greatestHeight_22 : decode cX3_greatestHeight 22 = .ok (.invokestatic 62, 3) := by decide +kernel
theorem dX3_greatestHeight_25 : decode cX3_greatestHeight 25 = .ok (.istore_n 1, 1) := by decide +kernel
theorem dX3_greatestHeight_26 : decode cX3_greatestHeight 26 = .ok (.iinc 2 1, 3) := by decide +kernel
theorem dX3_greatestHeight_29 : decode cX3_greatestHeight 29 = .ok (.goto (-25), 3) := by decide +kernel
theorem dX3_greatestHeight_32 : decode cX3_greatestHeight 32 = .ok (.iload_n 1, 1) := by decide +kernel
theorem dX3_greatestHeight_33 : decode cX3_greatestHeight 33 = .ok (.ireturn, 1) := by decide +kernel
theorem dX3_thatKnow_0 : decode cX3_thatKnow 0 = .ok (.iconst 0, 1) := by decide +kernel
theorem dX3_thatKnow_1 : decode cX3_thatKnow 1 = .ok (.istore_n 2, 1) := by decide +kernel
theorem dX3_thatKnow_2 : decode cX3_thatKnow 2 = .ok (.iconst 0, 1) := by decide +kernel
theorem dX3_thatKnow_3 : decode cX3_thatKnow 3 = .ok (.istore_n 3, 1) := by decide +kernel
theorem dX3_thatKnow_4 : decode cX3_thatKnow 4 = .ok (.iload_n 3, 1) := by decide +kernel
theorem dX3_thatKnow_5 : decode cX3_thatKnow 5 = .ok (.aload_n 0, 1) := by decide +kernel
theorem dX3_thatKnow_6 : decode cX3_thatKnow 6 = .ok (.getfield 28, 3) := by decide +kernel
theorem dX3_thatKnow_9 : decode cX3_thatKnow 9 = .ok (.getfield 38, 3) := by decide +kernel
theorem dX3_thatKnow_12 : decode cX3_thatKnow 12 = .ok (.if_icmp .ge 22, 3) := by decide +kernel
theorem dX3_thatKnow_15 : decode cX3_thatKnow 15 = .ok (.iload_n 2, 1) := by decide +kernel
theorem dX3_thatKnow_16 : decode cX3_thatKnow 16 = .ok (.aload_n 0, 1) := by decide +kernel
theorem dX3_thatKnow_17 : decode cX3_thatKnow 17 = .ok (.getfield 15, 3) := by decide +kernel
theorem dX3_thatKnow_20 : decode cX3_thatKnow 20 = .ok (.iload_n 3, 1) := by decide +kernel
theorem dX3_thatKnow_21 : decode cX3_thatKnow 21 = .ok (.iaload, 1) := by decide +kernel
theorem dX3_thatKnow_22 : decode cX3_thatKnow 22 = .ok (.iload_n 1, 1) := by decide +kernel
theorem dX3_thatKnow_23 : decode cX3_thatKnow 23 = .ok (.ishr, 1) := by decide +kernel
theorem dX3_thatKnow_24 : decode cX3_thatKnow 24 = .ok (.iconst 1, 1) := by decide +kernel
theorem dX3_thatKnow_25 : decode cX3_thatKnow 25 = .ok (.iand, 1) := by decide +kernel
theorem dX3_thatKnow_26 : decode cX3_thatKnow 26 = .ok (.iadd, 1) := by decide +kernel
theorem dX3_thatKnow_27 : decode cX3_thatKnow 27 = .ok (.istore_n 2, 1) := by decide +kernel
theorem dX3_thatKnow_28 : decode cX3_thatKnow 28 = .ok (.iinc 3 1, 3) := by decide +kernel
theorem dX3_thatKnow_31 : decode cX3_thatKnow 31 = .ok (.goto (-27), 3) := by decide +kernel
theorem dX3_thatKnow_34 : decode cX3_thatKnow 34 = .ok (.iload_n 2, 1) := by decide +kernel
theorem dX3_thatKnow_35 : decode cX3_thatKnow 35 = .ok (.ireturn, 1) := by decide +kernel
set_option maxRecDepth 20000 in
theorem ggX4_init_X0_init : GoodIn wsX4_init wsX0_init := goodIn_r _ [25, 26, 2, 3, 12, 27, 28, 29, 30, 51, 52, 53, 54, 55] (by decide +kernel) (by decide +kernel)
set_option maxRecDepth 20000 in
theorem gX4_init_X0_init_n11 : GoodIn wsX4_init (wsX0_init) := ggX4_init_X0_init
set_option maxRecDepth 20000 in
theorem ggX4_init_X1_init : GoodIn wsX4_init wsX1_init := goodIn_r _ [32, 33, 2, 3, 12, 34, 35, 36, 37, 38, 39, 40, 69, 70, 71, 72, 73, 74, 75, 76, 77] (by decide +kernel) (by decide +kernel)
set_option maxRecDepth 20000 in
theorem gX4_init_X1_init_n20 : GoodIn wsX4_init (wsX1_init) := ggX4_init_X1_init
set_option maxRecDepth 20000 in
theorem ggX4_init_X3_init : GoodIn wsX4_init wsX3_init := goodIn_r _ [43, 44, 2, 3, 12, 45, 46, 14, 47, 48, 49, 50, 78, 79, 80, 81, 82, 83, 84] (by decide +kernel) (by decide +kernel)
set_option maxRecDepth 20000 in
theorem gX4_init_X3_init : GoodIn wsX4_init (wsX3_init) := ggX4_init_X3_init
theorem dX4_init_0 : decode cX4_init 0 = .ok (.aload_n 0, 1) := by decide +kernel
theorem dX4_init_1 : decode cX4_init 1 = .ok (.invokespecial 3, 3) := by decide +kernel
theorem dX4_init_4 : decode cX4_init 4 = .ok (.aload_n 0, 1) := by decide +kernel
theorem dX4_init_5 : decode cX4_init 5 = .ok (.new 9, 3) := by decide +kernel
theorem dX4_init_8 : decode cX4_init 8 = .ok (.dup, 1) := by decide +kernel
theorem dX4_init_9 : decode cX4_init 9 = .ok (.invokespecial 11, 3) := by decide +kernel
theorem dX4_init_12 : decode cX4_init 12 = .ok (.putfield 12, 3) := by decide +kernel
theorem dX4_init_15 : decode cX4_init 15 = .ok (.aload_n 0, 1) := by decide +kernel
theorem dX4_init_16 : decode cX4_init 16 = .ok (.new 18, 3) := by decide +kernel
theorem dX4_init_19 : decode cX4_init 19 = .ok (.dup, 1) := by decide +kernel
theorem dX4_init_20 : decode cX4_init 20 = .ok (.invokespecial 20, 3) := by decide +kernel
theorem dX4_init_23 : decode cX4_init 23 = .ok (.putfield 21, 3) := by decide +kernel
theorem dX4_init_26 : decode cX4_init 26 = .ok (.aload_n 0, 1) := by decide +kernel
theorem dX4_init_27 : decode cX4_init 27 = .ok (.sipush 240, 3) := by decide +kernel
theorem dX4_init_30 : decode cX4_init 30 = .ok (.newarray .int, 2) := by decide +kernel
theorem dX4_init_32 : decode cX4_init 32 = .ok (.putfield 25, 3) := by decide +kernel
theorem dX4_init_35 : decode cX4_init 35 = .ok (.aload_n 0, 1) := by decide +kernel
theorem dX4_init_36 : decode cX4_init 36 = .ok (.bipush 40, 2) := by decide +kernel
theorem dX4_init_38 : decode cX4_init 38 = .ok (.newarray .boolean, 2) := by decide +kernel
theorem dX4_init_40 : decode cX4_init 40 = .ok (.putfield 29, 3) := by decide +kernel
theorem dX4_init_43 : decode cX4_init 43 = .ok (.aload_n 0, 1) := by decide +kernel
theorem dX4_init_44 : decode cX4_init 44 = .ok (.iconst (-1), 1) := by decide +kernel
theorem dX4_init_45 : decode cX4_init 45 = .ok (.putfield 33, 3) := by decide +kernel
theorem dX4_init_48 : decode cX4_init 48 = .ok (.aload_n 0, 1) := by decide +kernel
theorem dX4_init_49 : decode cX4_init 49 = .ok (.aload_n 1, 1) := by decide +kernel
theorem dX4_init_50 : decode cX4_init 50 = .ok (.putfield 37, 3) := by decide +kernel
theorem dX4_init_53 : decode cX4_init 53 = .ok (.aload_n 0, 1) := by decide +kernel
theorem dX4_init_54 : decode cX4_init 54 = .ok (.aload_n 2, 1) := by decide +kernel
theorem dX4_init_55 : decode cX4_init 55 = .ok (.putfield 41, 3) := by decide +kernel
theorem dX4_init_58 : decode cX4_init 58 = .ok (.aload_n 0, 1) := by decide +kernel
theorem dX4_init_59 : decode cX4_init 59 = .ok (.iload_n 3, 1) := by decide +kernel
theorem dX4_init_60 : decode cX4_init 60 = .ok (.putfield 45, 3) := by decide +kernel
theorem dX4_init_63 : decode cX4_init 63 = .ok (.aload_n 0, 1) := by decide +kernel
theorem dX4_init_64 : decode cX4_init 64 = .ok (.new 49, 3) := by decide +kernel
theorem dX4_init_67 : decode cX4_init 67 = .ok (.dup, 1) := by decide +kernel
theorem dX4_init_68 : decode cX4_init 68 = .ok (.aload_n 1, 1) := by decide +kernel
theorem dX4_init_69 : decode cX4_init 69 = .ok (.invokespecial 51, 3) := by decide +kernel
theorem dX4_init_72 : decode cX4_init 72 = .ok (.putfield 54, 3) := by decide +kernel
theorem dX4_init_75 : decode cX4_init 75 = .ok (.return_, 1) := by decide +kernel
theorem dX4_hasTurn_0 : decode cX4_hasTurn 0 = .ok (.iload_n 1, 1) := by decide +kernel
theorem dX4_hasTurn_1 : decode cX4_hasTurn 1 = .ok (.ifCond .lt 15, 3) := by decide +kernel
theorem dX4_hasTurn_4 : decode cX4_hasTurn 4 = .ok (.iload_n 1, 1) := by decide +kernel
theorem dX4_hasTurn_5 : decode cX4_hasTurn 5 = .ok (.aload_n 0, 1) := by decide +kernel
theorem dX4_hasTurn_6 : decode cX4_hasTurn 6 = .ok (.getfield 58, 3) := by decide +kernel
theorem dX4_hasTurn_9 : decode cX4_hasTurn 9 = .ok (.if_icmp .ge 7, 3) := by decide +kernel
theorem dX4_hasTurn_12 : decode cX4_hasTurn 12 = .ok (.iconst 1, 1) := by decide +kernel
theorem dX4_hasTurn_13 : decode cX4_hasTurn 13 = .ok (.goto 4, 3) := by decide +kernel
theorem dX4_hasTurn_16 : decode cX4_hasTurn 16 = .ok (.iconst 0, 1) := by decide +kernel
theorem dX4_hasTurn_17 : decode cX4_hasTurn 17 = .ok (.ireturn, 1) := by decide +kernel
set_option maxRecDepth 20000 in
theorem ggX4_run_X4_begin : GoodIn wsX4_run wsX4_begin := goodIn_r _ [9, 10, 11, 12, 13, 1, 14, 4, 15, 16, 17, 18, 2, 19, 20, 21, 22, 23, 24, 25, 26, 27, 28, 29, 30, 31, 32, 33, 34, 35, 36, 37, 38, 39, 40, 41, 42, 43, 44, 45, 46, 47, 48, 49, 50, 51, 52, 239, 240, 241, 242, 243, 244, 245, 246, 247, 248, 249, 250, 251, 252, 253, 254, 255, 256, 257, 258, 259, 260, 261, 262, 263, 264, 265, 266, 267, 268, 269, 270, 271, 272, 273, 274, 275, 276] (by decide +kernel) (by decide +kernel)
set_option maxRecDepth 20000 in
theorem gX4_run_X4_begin : GoodIn wsX4_run (wsV RX4 61 RX4 yX4_begin wsX4_begin) := goodIn_app (goodIn_of _ (by decide +kernel)) ggX4_run_X4_begin
set_option maxRecDepth 20000 in
theorem ggX4_run_X4_meetEvents : GoodIn wsX4_run wsX4_meetEvents := goodIn_r _ [56, 57, 58, 2, 59, 60, 61, 62, 63, 64, 65, 66, 67, 68, 69, 70, 71, 72, 73, 74, 41, 75, 51, 44, 49, 76, 77, 78, 79, 80, 81, 82, 83, 84, 85, 45, 43, 86, 87, 239, 240, 241, 242, 243, 244, 245, 246, 247, 248, 249, 250, 251, 277, 278, 279, 280, 281, 282, 283, 266, 267, 268, 269, 270, 271, 272, 273, 274, 275, 276] (by decide +kernel) (by decide +kernel)
set_option maxRecDepth 20000 in
theorem gX4_run_X4_meetEvents : GoodIn wsX4_run (wsV RX4 65 RX4 yX4_meetEvents wsX4_meetEvents) := goodIn_app (goodIn_of _ (by decide +kernel)) ggX4_run_X4_meetEvents
set_option maxRecDepth 20000 in
theorem ggX4_run_X4_takeInComings : GoodIn wsX4_run wsX4_takeInComings := goodIn_r _ [91, 18, 92, 93, 94, 29, 95, 32, 96, 70, 97, 98, 99, 100, 101, 102, 103, 104, 105, 106, 31, 107, 108, 109, 8, 110, 17, 111, 112, 2, 16, 113, 114, 115, 15, 116, 117, 118, 22, 119, 24, 120, 121, 122, 41, 123, 49, 51, 124, 125, 126, 127, 43, 128, 129, 12, 130, 47, 86, 87, 131, 132, 133, 134, 135, 239, 240, 241, 242, 243, 244, 245, 246, 247, 248, 249, 250, 251, 261, 262, 263, 264, 265, 252, 253, 254, 255, 256, 257, 258, 259, 260, 266, 267, 268, 269, 270, 271, 272] (by decide +kernel) (by decide +kernel)
set_option maxRecDepth 20000 in
theorem gX4_run_X4_takeInComings : GoodIn wsX4_run (wsV RX4 69 RX4 yX4_takeInComings wsX4_takeInComings) := goodIn_app (goodIn_of _ (by decide +kernel)) ggX4_run_X4_takeInComings
set_option maxRecDepth 20000 in
theorem ggX4_run_X3_grow : GoodIn wsX4_run wsX3_grow := goodIn_r _ [139, 44, 45, 50, 49, 46, 140, 141, 142, 41, 143, 43, 86, 70, 87, 144, 145, 146, 79, 147, 81, 266, 267, 268, 269, 270, 271, 272, 273, 274, 275, 276] (by decide +kernel) (by decide +kernel)
set_option maxRecDepth 20000 in
theorem gX4_run_X3_grow : GoodIn wsX4_run (wsV RX4 72 RX3 yX3_grow wsX3_grow) := goodIn_app (goodIn_of _ (by decide +kernel)) ggX4_run_X3_grow
set_option maxRecDepth 20000 in
theorem ggX4_run_X4_sendLetters : GoodIn wsX4_run wsX4_sendLetters := goodIn_r _ [151, 152, 153, 2, 154, 155, 156, 157, 158, 159, 8, 160, 161, 17, 162, 163, 164, 165, 166, 79, 167, 168, 169, 170, 171, 22, 172, 24, 173, 174, 175, 176, 177, 178, 179, 86, 70, 87, 180, 181, 182, 183, 57, 184, 185, 18, 116, 117, 118, 119, 186, 187, 188, 64, 189, 190, 191, 192, 193, 194, 195, 196, 14, 197, 198, 199, 200, 201, 202, 203, 204, 205, 66, 67, 206, 207, 208, 209, 210, 211, 212, 213, 214, 29, 215, 31, 102, 135, 33, 32, 216, 217, 218, 219, 58, 220, 221, 239, 240, 241, 242, 243, 244, 245, 246, 247, 248, 249, 250, 251, 273, 274, 275, 276, 266, 267, 268, 269, 270, 271, 272, 252, 253, 254, 255, 256, 257, 258, 259, 260, 277, 278, 279, 280, 281, 282, 283, 261, 262, 263, 264, 265] (by decide +kernel) (by decide +kernel)
set_option maxRecDepth 20000 in
theorem gX4_run_X4_sendLetters : GoodIn wsX4_run (wsV RX4 75 RX4 yX4_sendLetters wsX4_sendLetters) := goodIn_app (goodIn_of _ (by decide +kernel)) ggX4_run_X4_sendLetters
set_option maxRecDepth 20000 in
theorem ggX4_run_X4_keepRecord : GoodIn wsX4_run wsX4_keepRecord := goodIn_r _ [225, 152, 153, 226, 2, 161, 227, 4, 228, 70, 229, 230, 231, 232, 41, 233, 44, 45, 234, 46, 128, 129, 12, 130, 235, 236, 237, 238, 144, 145, 146, 79, 147, 81, 239, 240, 241, 242, 243, 244, 245, 246, 247, 248, 249, 250, 251, 273, 274, 275, 276, 266, 267, 268, 269, 270, 271, 272] (by decide +kernel) (by decide +kernel)
set_option maxRecDepth 20000 in
theorem gX4_run_X4_keepRecord : GoodIn wsX4_run (wsV RX4 78 RX4 yX4_keepRecord wsX4_keepRecord) := goodIn_app (goodIn_of _ (by decide +kernel)) ggX4_run_X4_keepRecord
theorem dX4_run_0 : decode cX4_run 0 = .ok (.aload_n 0, 1) := by decide +kernel
theorem dX4_run_1 : decode cX4_run 1 = .ok (.iload_n 1, 1) := by decide +kernel
theorem dX4_run_2 : decode cX4_run 2 = .ok (.iload_n 2, 1) := by decide +kernel
theorem dX4_run_3 : decode cX4_run 3 = .ok (.invokevirtual 61, 3) := by decide +kernel
theorem dX4_run_6 : decode cX4_run 6 = .ok (.iconst 0, 1) := by decide +kernel
theorem dX4_run_7 : decode cX4_run 7 = .ok (.istore_n 3, 1) := by decide +kernel
theorem dX4_run_8 : decode cX4_run 8 = .ok (.iload_n 3, 1) := by decide +kernel
theorem dX4_run_9 : decode cX4_run 9 = .ok (.aload_n 0, 1) := by decide +kernel
theorem dX4_run_10 : decode cX4_run 10 = .ok (.getfield 58, 3) := by decide +kernel
theorem dX4_run_13 : decode cX4_run 13 = .ok (.if_icmp .ge 54, 3) := by decide +kernel
theorem dX4_run_16 : decode cX4_run 16 = .ok (.aload_n 0, 1) := by decide +kernel
theorem dX4_run_17 : decode cX4_run 17 = .ok (.iload_n 3, 1) := by decide +kernel
theorem dX4_run_18 : decode cX4_run 18 = .ok (.invokevirtual 65, 3) := by decide +kernel
theorem dX4_run_21 : decode cX4_run 21 = .ok (.aload_n 0, 1) := by decide +kernel
theorem dX4_run_22 : decode cX4_run 22 = .ok (.iload_n 3, 1) := by decide +kernel
theorem dX4_run_23 : decode cX4_run 23 = .ok (.invokevirtual 69, 3) := by decide +kernel
theorem dX4_run_26 : decode cX4_run 26 = .ok (.aload_n 0, 1) := by decide +kernel
theorem dX4_run_27 : decode cX4_run 27 = .ok (.getfield 54, 3) := by decide +kernel
theorem dX4_run_30 : decode cX4_run 30 = .ok (.invokevirtual 72, 3) := by decide +kernel
theorem dX4_run_33 : decode cX4_run 33 = .ok (.aload_n 0, 1) := by decide +kernel
theorem dX4_run_34 : decode cX4_run 34 = .ok (.iload_n 3, 1) := by decide +kernel
theorem dX4_run_35 : decode cX4_run 35 = .ok (.invokevirtual 75, 3) := by decide +kernel
theorem dX4_run_38 : decode cX4_run 38 = .ok (.aload_n 0, 1) := by decide +kernel
theorem dX4_run_39 : decode cX4_run 39 = .ok (.iload_n 3, 1) := by decide +kernel
theorem dX4_run_40 : decode cX4_run 40 = .ok (.invokevirtual 78, 3) := by decide +kernel
theorem dX4_run_43 : decode cX4_run 43 = .ok (.aload_n 0, 1) := by decide +kernel
theorem dX4_run_44 : decode cX4_run 44 = .ok (.getfield 45, 3) := by decide +kernel
theorem dX4_run_47 : decode cX4_run 47 = .ok (.ifCond .eq 14, 3) := by decide +kernel
theorem dX4_run_50 : decode cX4_run 50 = .ok (.aload_n 0, 1) := by decide +kernel
theorem dX4_run_51 : decode cX4_run 51 = .ok (.getfield 33, 3) := by decide +kernel
theorem dX4_run_54 : decode cX4_run 54 = .ok (.iconst (-1), 1) := by decide +kernel
theorem dX4_run_55 : decode cX4_run 55 = .ok (.if_icmp .eq 6, 3) := by decide +kernel
theorem dX4_run_58 : decode cX4_run 58 = .ok (.goto 9, 3) := by decide +kernel
theorem dX4_run_61 : decode cX4_run 61 = .ok (.iinc 3 1, 3) := by decide +kernel
theorem dX4_run_64 : decode cX4_run 64 = .ok (.goto (-56), 3) := by decide +kernel
theorem dX4_run_67 : decode cX4_run 67 = .ok (.aload_n 0, 1) := by decide +kernel
theorem dX4_run_68 : decode cX4_run 68 = .ok (.getfield 33, 3) := by decide +kernel
theorem dX4_run_71 : decode cX4_run 71 = .ok (.iconst (-1), 1) := by decide +kernel
theorem dX4_run_72 : decode cX4_run 72 = .ok (.if_icmp .eq 7, 3) := by decide +kernel
theorem dX4_run_75 : decode cX4_run 75 = .ok (.iconst 1, 1) := by decide +kernel
theorem dX4_run_76 : decode cX4_run 76 = .ok (.goto 4, 3) := by decide +kernel
theorem dX4_run_79 : decode cX4_run 79 = .ok (.iconst 0, 1) := by decide +kernel
theorem dX4_run_80 : decode cX4_run 80 = .ok (.ireturn, 1) := by decide +kernel
set_option maxRecDepth 20000 in
theorem ggX4_begin_X1_clear : GoodIn wsX4_begin wsX1_clear := goodIn_r _ [17, 18, 19, 60, 61, 62, 63, 64, 65, 66, 67, 68] (by decide +kernel) (by decide +kernel)
set_option maxRecDepth 20000 in
theorem gX4_begin_X1_clear : GoodIn wsX4_begin (wsV RX4 96 RX1 yX1_clear wsX1_clear) := goodIn_app (goodIn_of _ (by decide +kernel)) ggX4_begin_X1_clear
set_option maxRecDepth 20000 in
theorem ggX4_begin_X0_clear : GoodIn wsX4_begin wsX0_clear := goodIn_r _ [24, 25, 26, 27, 28, 29, 30, 31, 69, 70, 71, 72, 73] (by decide +kernel) (by decide +kernel)
set_option maxRecDepth 20000 in
theorem gX4_begin_X0_clear : GoodIn wsX4_begin (wsV RX4 99 RX0 yX0_clear wsX0_clear) := goodIn_app (goodIn_of _ (by decide +kernel)) ggX4_begin_X0_clear
set_option maxRecDepth 20000 in
theorem ggX4_begin_X3_begin : GoodIn wsX4_begin wsX3_begin := goodIn_r _ [36, 37, 38, 39, 40, 41, 42, 43, 44, 45, 46, 29, 30, 31, 74, 75, 76, 77, 78, 79, 80, 81, 82, 83, 84] (by decide +kernel) (by decide +kernel)
set_option maxRecDepth 20000 in
theorem gX4_begin_X3_begin : GoodIn wsX4_begin (wsV RX4 100 RX3 yX3_begin wsX3_begin) := goodIn_app (goodIn_of _ (by decide +kernel)) ggX4_begin_X3_begin
theorem dX4_begin_0 : decode cX4_begin 0 = .ok (.aload_n 0, 1) := by decide +kernel
theorem dX4_begin_1 : decode cX4_begin 1 = .ok (.iload_n 1, 1) := by decide +kernel
theorem dX4_begin_2 : decode cX4_begin 2 = .ok (.bipush 40, 2) := by decide +kernel
theorem dX4_begin_4 : decode cX4_begin 4 = .ok (.invokestatic 81, 3) := by decide +kernel
theorem dX4_begin_7 : decode cX4_begin 7 = .ok (.putfield 58, 3) := by decide +kernel
theorem dX4_begin_10 : decode cX4_begin 10 = .ok (.aload_n 0, 1) := by decide +kernel
theorem dX4_begin_11 : decode cX4_begin 11 = .ok (.iload_n 2, 1) := by decide +kernel
theorem dX4_begin_12 : decode cX4_begin 12 = .ok (.putfield 87, 3) := by decide +kernel
theorem dX4_begin_15 : decode cX4_begin 15 = .ok (.aload_n 0, 1) := by decide +kernel
theorem dX4_begin_16 : decode cX4_begin 16 = .ok (.iconst (-1), 1) := by decide +kernel
theorem dX4_begin_17 : decode cX4_begin 17 = .ok (.putfield 33, 3) := by decide +kernel
theorem dX4_begin_20 : decode cX4_begin 20 = .ok (.aload_n 0, 1) := by decide +kernel
theorem dX4_begin_21 : decode cX4_begin 21 = .ok (.iconst 0, 1) := by decide +kernel
theorem dX4_begin_22 : decode cX4_begin 22 = .ok (.putfield 90, 3) := by decide +kernel
theorem dX4_begin_25 : decode cX4_begin 25 = .ok (.aload_n 0, 1) := by decide +kernel
theorem dX4_begin_26 : decode cX4_begin 26 = .ok (.iconst 0, 1) := by decide +kernel
end
section
theorem dX4_begin_27 : decode cX4_begin 27 = .ok (.putfield 93, 3) := by decide +kernel
theorem dX4_begin_30 : decode cX4_begin 30 = .ok (.aload_n 0, 1) := by decide +kernel
theorem dX4_begin_31 : decode cX4_begin 31 = .ok (.getfield 21, 3) := by decide +kernel
theorem dX4_begin_34 : decode cX4_begin 34 = .ok (.invokevirtual 96, 3) := by decide +kernel
theorem dX4_begin_37 : decode cX4_begin 37 = .ok (.aload_n 0, 1) := by decide +kernel
theorem dX4_begin_38 : decode cX4_begin 38 = .ok (.getfield 12, 3) := by decide +kernel
theorem dX4_begin_41 : decode cX4_begin 41 = .ok (.invokevirtual 99, 3) := by decide +kernel
theorem dX4_begin_44 : decode cX4_begin 44 = .ok (.aload_n 0, 1) := by decide +kernel
theorem dX4_begin_45 : decode cX4_begin 45 = .ok (.getfield 54, 3) := by decide +kernel
theorem dX4_begin_48 : decode cX4_begin 48 = .ok (.invokevirtual 100, 3) := by decide +kernel
theorem dX4_begin_51 : decode cX4_begin 51 = .ok (.return_, 1) := by decide +kernel
set_option maxRecDepth 20000 in
theorem ggX4_meetEvents_X5_happensAt : GoodIn wsX4_meetEvents wsX5_happensAt := goodIn_r _ [10, 11, 12, 13, 14, 15, 16, 52, 53, 54, 55, 56, 57, 58] (by decide +kernel) (by decide +kernel)
set_option maxRecDepth 20000 in
theorem gX4_meetEvents_X5_happensAt : GoodIn wsX4_meetEvents (wsV RX4 107 RX5 yX5_happensAt wsX5_happensAt) := goodIn_app (goodIn_of _ (by decide +kernel)) ggX4_meetEvents_X5_happensAt
set_option maxRecDepth 20000 in
theorem ggX4_meetEvents_X3_meet : GoodIn wsX4_meetEvents wsX3_meet := goodIn_r _ [21, 22, 23, 24, 25, 26, 27, 28, 29, 30, 31, 32, 33, 20, 34, 35, 36, 37, 15, 38, 59, 60, 61, 62, 63, 64, 65, 66, 67, 68, 69] (by decide +kernel) (by decide +kernel)
set_option maxRecDepth 20000 in
theorem gX4_meetEvents_X3_meet : GoodIn wsX4_meetEvents (wsV RX4 117 RX3 yX3_meet wsX3_meet) := goodIn_app (goodIn_of _ (by decide +kernel)) ggX4_meetEvents_X3_meet
theorem dX4_meetEvents_0 : decode cX4_meetEvents 0 = .ok (.iconst 0, 1) := by decide +kernel
theorem dX4_meetEvents_1 : decode cX4_meetEvents 1 = .ok (.istore_n 2, 1) := by decide +kernel
theorem dX4_meetEvents_2 : decode cX4_meetEvents 2 = .ok (.iload_n 2, 1) := by decide +kernel
theorem dX4_meetEvents_3 : decode cX4_meetEvents 3 = .ok (.aload_n 0, 1) := by decide +kernel
theorem dX4_meetEvents_4 : decode cX4_meetEvents 4 = .ok (.getfield 41, 3) := by decide +kernel
theorem dX4_meetEvents_7 : decode cX4_meetEvents 7 = .ok (.getfield 102, 3) := by decide +kernel
theorem dX4_meetEvents_10 : decode cX4_meetEvents 10 = .ok (.if_icmp .ge 46, 3) := by decide +kernel
theorem dX4_meetEvents_13 : decode cX4_meetEvents 13 = .ok (.aload_n 0, 1) := by decide +kernel
theorem dX4_meetEvents_14 : decode cX4_meetEvents 14 = .ok (.getfield 41, 3) := by decide +kernel
theorem dX4_meetEvents_17 : decode cX4_meetEvents 17 = .ok (.iload_n 2, 1) := by decide +kernel
theorem dX4_meetEvents_18 : decode cX4_meetEvents 18 = .ok (.iload_n 1, 1) := by decide +kernel
theorem dX4_meetEvents_19 : decode cX4_meetEvents 19 = .ok (.invokevirtual 107, 3) := by decide +kernel
theorem dX4_meetEvents_22 : decode cX4_meetEvents 22 = .ok (.ifCond .eq 28, 3) := by decide +kernel
theorem dX4_meetEvents_25 : decode cX4_meetEvents 25 = .ok (.aload_n 0, 1) := by decide +kernel
theorem dX4_meetEvents_26 : decode cX4_meetEvents 26 = .ok (.getfield 54, 3) := by decide +kernel
theorem dX4_meetEvents_29 : decode cX4_meetEvents 29 = .ok (.aload_n 0, 1) := by decide +kernel
theorem dX4_meetEvents_30 : decode cX4_meetEvents 30 = .ok (.getfield 41, 3) := by decide +kernel
theorem dX4_meetEvents_33 : decode cX4_meetEvents 33 = .ok (.getfield 111, 3) := by decide +kernel
theorem dX4_meetEvents_36 : decode cX4_meetEvents 36 = .ok (.iload_n 2, 1) := by decide +kernel
theorem dX4_meetEvents_37 : decode cX4_meetEvents 37 = .ok (.iaload, 1) := by decide +kernel
theorem dX4_meetEvents_38 : decode cX4_meetEvents 38 = .ok (.aload_n 0, 1) := by decide +kernel
theorem dX4_meetEvents_39 : decode cX4_meetEvents 39 = .ok (.getfield 41, 3) := by decide +kernel
theorem dX4_meetEvents_42 : decode cX4_meetEvents 42 = .ok (.getfield 114, 3) := by decide +kernel
theorem dX4_meetEvents_45 : decode cX4_meetEvents 45 = .ok (.iload_n 2, 1) := by decide +kernel
theorem dX4_meetEvents_46 : decode cX4_meetEvents 46 = .ok (.iaload, 1) := by decide +kernel
theorem dX4_meetEvents_47 : decode cX4_meetEvents 47 = .ok (.invokevirtual 117, 3) := by decide +kernel
theorem dX4_meetEvents_50 : decode cX4_meetEvents 50 = .ok (.iinc 2 1, 3) := by decide +kernel
theorem dX4_meetEvents_53 : decode cX4_meetEvents 53 = .ok (.goto (-51), 3) := by decide +kernel
theorem dX4_meetEvents_56 : decode cX4_meetEvents 56 = .ok (.return_, 1) := by decide +kernel
set_option maxRecDepth 20000 in
theorem ggX4_takeInComings_X0_firstAt : GoodIn wsX4_takeInComings wsX0_firstAt := goodIn_r _ [6, 7, 8, 9, 10, 78, 79, 80, 81, 82] (by decide +kernel) (by decide +kernel)
set_option maxRecDepth 20000 in
theorem gX4_takeInComings_X0_firstAt : GoodIn wsX4_takeInComings (wsV RX4 120 RX0 yX0_firstAt wsX0_firstAt) := goodIn_app (goodIn_of _ (by decide +kernel)) ggX4_takeInComings_X0_firstAt
set_option maxRecDepth 20000 in
theorem ggX4_takeInComings_X0_letterOf : GoodIn wsX4_takeInComings wsX0_letterOf := goodIn_r _ [14, 15, 16, 17, 18, 5, 19, 20, 78, 79, 80, 81, 82] (by decide +kernel) (by decide +kernel)
set_option maxRecDepth 20000 in
theorem gX4_takeInComings_X0_letterOf : GoodIn wsX4_takeInComings (wsV RX4 124 RX0 yX0_letterOf wsX0_letterOf) := goodIn_app (goodIn_of _ (by decide +kernel)) ggX4_takeInComings_X0_letterOf
set_option maxRecDepth 20000 in
theorem ggX4_takeInComings_X4_takeIn : GoodIn wsX4_takeInComings wsX4_takeIn := goodIn_r _ [25, 26, 27, 28, 29, 30, 31, 32, 33, 34, 35, 36, 37, 38, 39, 40, 41, 42, 43, 44, 45, 46, 47, 48, 49, 50, 51, 52, 53, 54, 55, 56, 57, 58, 9, 59, 65, 66, 67, 68, 69, 70, 71, 72, 73, 74, 75, 76, 77, 83, 84, 85, 86, 87, 88, 89, 90, 91, 92, 93, 94, 95, 96, 97, 98] (by decide +kernel) (by decide +kernel)
set_option maxRecDepth 20000 in
theorem gX4_takeInComings_X4_takeIn : GoodIn wsX4_takeInComings (wsV RX4 127 RX4 yX4_takeIn wsX4_takeIn) := goodIn_app (goodIn_of _ (by decide +kernel)) ggX4_takeInComings_X4_takeIn
set_option maxRecDepth 20000 in
theorem ggX4_takeInComings_X0_behind : GoodIn wsX4_takeInComings wsX0_behind := goodIn_r _ [63, 64, 16, 17, 18, 5, 19, 20, 78, 79, 80, 81, 82] (by decide +kernel) (by decide +kernel)
set_option maxRecDepth 20000 in
theorem gX4_takeInComings_X0_behind : GoodIn wsX4_takeInComings (wsV RX4 130 RX0 yX0_behind wsX0_behind) := goodIn_app (goodIn_of _ (by decide +kernel)) ggX4_takeInComings_X0_behind
theorem dX4_takeInComings_0 : decode cX4_takeInComings 0 = .ok (.aload_n 0, 1) := by decide +kernel
theorem dX4_takeInComings_1 : decode cX4_takeInComings 1 = .ok (.getfield 12, 3) := by decide +kernel
theorem dX4_takeInComings_4 : decode cX4_takeInComings 4 = .ok (.iload_n 1, 1) := by decide +kernel
theorem dX4_takeInComings_5 : decode cX4_takeInComings 5 = .ok (.invokevirtual 120, 3) := by decide +kernel
theorem dX4_takeInComings_8 : decode cX4_takeInComings 8 = .ok (.istore_n 2, 1) := by decide +kernel
theorem dX4_takeInComings_9 : decode cX4_takeInComings 9 = .ok (.iconst 0, 1) := by decide +kernel
theorem dX4_takeInComings_10 : decode cX4_takeInComings 10 = .ok (.istore_n 3, 1) := by decide +kernel
theorem dX4_takeInComings_11 : decode cX4_takeInComings 11 = .ok (.iload_n 3, 1) := by decide +kernel
theorem dX4_takeInComings_12 : decode cX4_takeInComings 12 = .ok (.sipush 1220, 3) := by decide +kernel
theorem dX4_takeInComings_15 : decode cX4_takeInComings 15 = .ok (.if_icmp .ge 35, 3) := by decide +kernel
theorem dX4_takeInComings_18 : decode cX4_takeInComings 18 = .ok (.iload_n 2, 1) := by decide +kernel
theorem dX4_takeInComings_19 : decode cX4_takeInComings 19 = .ok (.iconst (-1), 1) := by decide +kernel
theorem dX4_takeInComings_20 : decode cX4_takeInComings 20 = .ok (.if_icmp .eq 30, 3) := by decide +kernel
theorem dX4_takeInComings_23 : decode cX4_takeInComings 23 = .ok (.aload_n 0, 1) := by decide +kernel
theorem dX4_takeInComings_24 : decode cX4_takeInComings 24 = .ok (.aload_n 0, 1) := by decide +kernel
theorem dX4_takeInComings_25 : decode cX4_takeInComings 25 = .ok (.getfield 12, 3) := by decide +kernel
theorem dX4_takeInComings_28 : decode cX4_takeInComings 28 = .ok (.iload_n 2, 1) := by decide +kernel
theorem dX4_takeInComings_29 : decode cX4_takeInComings 29 = .ok (.invokevirtual 124, 3) := by decide +kernel
theorem dX4_takeInComings_32 : decode cX4_takeInComings 32 = .ok (.invokevirtual 127, 3) := by decide +kernel
theorem dX4_takeInComings_35 : decode cX4_takeInComings 35 = .ok (.aload_n 0, 1) := by decide +kernel
theorem dX4_takeInComings_36 : decode cX4_takeInComings 36 = .ok (.getfield 12, 3) := by decide +kernel
theorem dX4_takeInComings_39 : decode cX4_takeInComings 39 = .ok (.iload_n 2, 1) := by decide +kernel
theorem dX4_takeInComings_40 : decode cX4_takeInComings 40 = .ok (.invokevirtual 130, 3) := by decide +kernel
theorem dX4_takeInComings_43 : decode cX4_takeInComings 43 = .ok (.istore_n 2, 1) := by decide +kernel
theorem dX4_takeInComings_44 : decode cX4_takeInComings 44 = .ok (.iinc 3 1, 3) := by decide +kernel
theorem dX4_takeInComings_47 : decode cX4_takeInComings 47 = .ok (.goto (-36), 3) := by decide +kernel
theorem dX4_takeInComings_50 : decode cX4_takeInComings 50 = .ok (.return_, 1) := by decide +kernel
set_option maxRecDepth 20000 in
theorem ggX4_takeIn_X1_has : GoodIn wsX4_takeIn wsX1_has := goodIn_r _ [14, 15, 49, 50, 51, 52, 53, 54, 55, 56, 57] (by decide +kernel) (by decide +kernel)
set_option maxRecDepth 20000 in
theorem gX4_takeIn_X1_has : GoodIn wsX4_takeIn (wsV RX4 133 RX1 yX1_has wsX1_has) := goodIn_app (goodIn_of _ (by decide +kernel)) ggX4_takeIn_X1_has
set_option maxRecDepth 20000 in
theorem ggX4_takeIn_X3_canReach : GoodIn wsX4_takeIn wsX3_canReach := goodIn_r _ [20, 21, 22, 58, 59, 60, 61, 62, 63, 64] (by decide +kernel) (by decide +kernel)
set_option maxRecDepth 20000 in
theorem gX4_takeIn_X3_canReach : GoodIn wsX4_takeIn (wsV RX4 143 RX3 yX3_canReach wsX3_canReach) := goodIn_app (goodIn_of _ (by decide +kernel)) ggX4_takeIn_X3_canReach
set_option maxRecDepth 20000 in
theorem ggX4_takeIn_X3_takeIn : GoodIn wsX4_takeIn wsX3_takeIn := goodIn_r _ [26, 27, 28, 29, 30, 31, 32, 33, 34, 35, 58, 59, 60, 61, 62, 63, 64] (by decide +kernel) (by decide +kernel)
set_option maxRecDepth 20000 in
theorem gX4_takeIn_X3_takeIn : GoodIn wsX4_takeIn (wsV RX4 150 RX3 yX3_takeIn wsX3_takeIn) := goodIn_app (goodIn_of _ (by decide +kernel)) ggX4_takeIn_X3_takeIn
theorem dX4_takeIn_0 : decode cX4_takeIn 0 = .ok (.aload_n 0, 1) := by decide +kernel
theorem dX4_takeIn_1 : decode cX4_takeIn 1 = .ok (.getfield 21, 3) := by decide +kernel
theorem dX4_takeIn_4 : decode cX4_takeIn 4 = .ok (.iload_n 1, 1) := by decide +kernel
theorem dX4_takeIn_5 : decode cX4_takeIn 5 = .ok (.invokevirtual 133, 3) := by decide +kernel
theorem dX4_takeIn_8 : decode cX4_takeIn 8 = .ok (.ifCond .ne 4, 3) := by decide +kernel
theorem dX4_takeIn_11 : decode cX4_takeIn 11 = .ok (.return_, 1) := by decide +kernel
theorem dX4_takeIn_12 : decode cX4_takeIn 12 = .ok (.aload_n 0, 1) := by decide +kernel
theorem dX4_takeIn_13 : decode cX4_takeIn 13 = .ok (.getfield 21, 3) := by decide +kernel
theorem dX4_takeIn_16 : decode cX4_takeIn 16 = .ok (.getfield 137, 3) := by decide +kernel
theorem dX4_takeIn_19 : decode cX4_takeIn 19 = .ok (.iload_n 1, 1) := by decide +kernel
theorem dX4_takeIn_20 : decode cX4_takeIn 20 = .ok (.iaload, 1) := by decide +kernel
theorem dX4_takeIn_21 : decode cX4_takeIn 21 = .ok (.istore_n 2, 1) := by decide +kernel
theorem dX4_takeIn_22 : decode cX4_takeIn 22 = .ok (.aload_n 0, 1) := by decide +kernel
theorem dX4_takeIn_23 : decode cX4_takeIn 23 = .ok (.getfield 21, 3) := by decide +kernel
theorem dX4_takeIn_26 : decode cX4_takeIn 26 = .ok (.getfield 140, 3) := by decide +kernel
theorem dX4_takeIn_29 : decode cX4_takeIn 29 = .ok (.iload_n 1, 1) := by decide +kernel
theorem dX4_takeIn_30 : decode cX4_takeIn 30 = .ok (.iaload, 1) := by decide +kernel
theorem dX4_takeIn_31 : decode cX4_takeIn 31 = .ok (.istore_n 3, 1) := by decide +kernel
theorem dX4_takeIn_32 : decode cX4_takeIn 32 = .ok (.aload_n 0, 1) := by decide +kernel
theorem dX4_takeIn_33 : decode cX4_takeIn 33 = .ok (.getfield 54, 3) := by decide +kernel
theorem dX4_takeIn_36 : decode cX4_takeIn 36 = .ok (.iload_n 2, 1) := by decide +kernel
theorem dX4_takeIn_37 : decode cX4_takeIn 37 = .ok (.iload_n 3, 1) := by decide +kernel
theorem dX4_takeIn_38 : decode cX4_takeIn 38 = .ok (.invokevirtual 143, 3) := by decide +kernel
theorem dX4_takeIn_41 : decode cX4_takeIn 41 = .ok (.ifCond .ne 14, 3) := by decide +kernel
theorem dX4_takeIn_44 : decode cX4_takeIn 44 = .ok (.aload_n 0, 1) := by decide +kernel
theorem dX4_takeIn_45 : decode cX4_takeIn 45 = .ok (.dup, 1) := by decide +kernel
theorem dX4_takeIn_46 : decode cX4_takeIn 46 = .ok (.getfield 93, 3) := by decide +kernel
theorem dX4_takeIn_49 : decode cX4_takeIn 49 = .ok (.iconst 1, 1) := by decide +kernel
theorem dX4_takeIn_50 : decode cX4_takeIn 50 = .ok (.iadd, 1) := by decide +kernel
theorem dX4_takeIn_51 : decode cX4_takeIn 51 = .ok (.putfield 93, 3) := by decide +kernel
theorem dX4_takeIn_54 : decode cX4_takeIn 54 = .ok (.return_, 1) := by decide +kernel
theorem dX4_takeIn_55 : decode cX4_takeIn 55 = .ok (.aload_n 0, 1) := by decide +kernel
theorem dX4_takeIn_56 : decode cX4_takeIn 56 = .ok (.getfield 54, 3) := by decide +kernel
theorem dX4_takeIn_59 : decode cX4_takeIn 59 = .ok (.iload_n 2, 1) := by decide +kernel
theorem dX4_takeIn_60 : decode cX4_takeIn 60 = .ok (.iload_n 3, 1) := by decide +kernel
theorem dX4_takeIn_61 : decode cX4_takeIn 61 = .ok (.aload_n 0, 1) := by decide +kernel
theorem dX4_takeIn_62 : decode cX4_takeIn 62 = .ok (.getfield 21, 3) := by decide +kernel
theorem dX4_takeIn_65 : decode cX4_takeIn 65 = .ok (.getfield 146, 3) := by decide +kernel
theorem dX4_takeIn_68 : decode cX4_takeIn 68 = .ok (.iload_n 1, 1) := by decide +kernel
theorem dX4_takeIn_69 : decode cX4_takeIn 69 = .ok (.iaload, 1) := by decide +kernel
theorem dX4_takeIn_70 : decode cX4_takeIn 70 = .ok (.aload_n 0, 1) := by decide +kernel
theorem dX4_takeIn_71 : decode cX4_takeIn 71 = .ok (.getfield 21, 3) := by decide +kernel
theorem dX4_takeIn_74 : decode cX4_takeIn 74 = .ok (.getfield 147, 3) := by decide +kernel
theorem dX4_takeIn_77 : decode cX4_takeIn 77 = .ok (.iload_n 1, 1) := by decide +kernel
theorem dX4_takeIn_78 : decode cX4_takeIn 78 = .ok (.iaload, 1) := by decide +kernel
theorem dX4_takeIn_79 : decode cX4_takeIn 79 = .ok (.invokevirtual 150, 3) := by decide +kernel
theorem dX4_takeIn_82 : decode cX4_takeIn 82 = .ok (.aload_n 0, 1) := by decide +kernel
theorem dX4_takeIn_83 : decode cX4_takeIn 83 = .ok (.getfield 21, 3) := by decide +kernel
theorem dX4_takeIn_86 : decode cX4_takeIn 86 = .ok (.getfield 153, 3) := by decide +kernel
theorem dX4_takeIn_89 : decode cX4_takeIn 89 = .ok (.iload_n 1, 1) := by decide +kernel
theorem dX4_takeIn_90 : decode cX4_takeIn 90 = .ok (.dup2, 1) := by decide +kernel
theorem dX4_takeIn_91 : decode cX4_takeIn 91 = .ok (.iaload, 1) := by decide +kernel
theorem dX4_takeIn_92 : decode cX4_takeIn 92 = .ok (.iconst 1, 1) := by decide +kernel
theorem dX4_takeIn_93 : decode cX4_takeIn 93 = .ok (.iadd, 1) := by decide +kernel
theorem dX4_takeIn_94 : decode cX4_takeIn 94 = .ok (.iastore, 1) := by decide +kernel
theorem dX4_takeIn_95 : decode cX4_takeIn 95 = .ok (.aload_n 0, 1) := by decide +kernel
theorem dX4_takeIn_96 : decode cX4_takeIn 96 = .ok (.dup, 1) := by decide +kernel
theorem dX4_takeIn_97 : decode cX4_takeIn 97 = .ok (.getfield 90, 3) := by decide +kernel
theorem dX4_takeIn_100 : decode cX4_takeIn 100 = .ok (.iconst 1, 1) := by decide +kernel
theorem dX4_takeIn_101 : decode cX4_takeIn 101 = .ok (.iadd, 1) := by decide +kernel
theorem dX4_takeIn_102 : decode cX4_takeIn 102 = .ok (.putfield 90, 3) := by decide +kernel
theorem dX4_takeIn_105 : decode cX4_takeIn 105 = .ok (.return_, 1) := by decide +kernel
set_option maxRecDepth 20000 in
theorem ggX4_sendLetters_X4_sendFrom : GoodIn wsX4_sendLetters wsX4_sendFrom := goodIn_r _ [11, 1, 3, 12, 2, 13, 14, 15, 16, 17, 18, 19, 20, 21, 22, 23, 24, 25, 26, 27, 28, 29, 30, 31, 32, 33, 34, 35, 36, 37, 38, 39, 40, 10, 41, 42, 43, 44, 45, 46, 47, 48, 49, 50, 51, 52, 53, 54, 55, 56, 57, 58, 59, 60, 61, 62, 63, 64, 65, 66, 67, 68, 69, 70, 71, 72, 73, 74, 75, 76, 77, 78, 79, 80, 81, 82, 83, 84, 85, 86, 87, 88, 89, 90, 91, 92, 93, 94, 95, 96, 97, 98, 99, 100, 101, 102, 103, 104, 105, 106, 107, 108, 109, 114, 115, 116, 117, 118, 119, 120, 110, 111, 112, 113, 121, 122, 123, 124, 125, 126, 127, 128, 129, 130, 131, 132, 133, 134, 135, 136, 137, 138, 139, 140, 141] (by decide +kernel) (by decide +kernel)
set_option maxRecDepth 20000 in
theorem gX4_sendLetters_X4_sendFrom : GoodIn wsX4_sendLetters (wsV RX4 168 RX4 yX4_sendFrom wsX4_sendFrom) := goodIn_app (goodIn_of _ (by decide +kernel)) ggX4_sendLetters_X4_sendFrom
theorem dX4_sendLetters_0 : decode cX4_sendLetters 0 = .ok (.iload_n 1, 1) := by decide +kernel
theorem dX4_sendLetters_1 : decode cX4_sendLetters 1 = .ok (.iconst 4, 1) := by decide +kernel
theorem dX4_sendLetters_2 : decode cX4_sendLetters 2 = .ok (.irem, 1) := by decide +kernel
theorem dX4_sendLetters_3 : decode cX4_sendLetters 3 = .ok (.ifCond .ne 7, 3) := by decide +kernel
theorem dX4_sendLetters_6 : decode cX4_sendLetters 6 = .ok (.iconst 1, 1) := by decide +kernel
theorem dX4_sendLetters_7 : decode cX4_sendLetters 7 = .ok (.goto 4, 3) := by decide +kernel
theorem dX4_sendLetters_10 : decode cX4_sendLetters 10 = .ok (.iconst 0, 1) := by decide +kernel
theorem dX4_sendLetters_11 : decode cX4_sendLetters 11 = .ok (.istore_n 2, 1) := by decide +kernel
theorem dX4_sendLetters_12 : decode cX4_sendLetters 12 = .ok (.iconst 0, 1) := by decide +kernel
theorem dX4_sendLetters_13 : decode cX4_sendLetters 13 = .ok (.istore_n 3, 1) := by decide +kernel
theorem dX4_sendLetters_14 : decode cX4_sendLetters 14 = .ok (.iload_n 3, 1) := by decide +kernel
theorem dX4_sendLetters_15 : decode cX4_sendLetters 15 = .ok (.aload_n 0, 1) := by decide +kernel
theorem dX4_sendLetters_16 : decode cX4_sendLetters 16 = .ok (.getfield 37, 3) := by decide +kernel
theorem dX4_sendLetters_19 : decode cX4_sendLetters 19 = .ok (.getfield 156, 3) := by decide +kernel
theorem dX4_sendLetters_22 : decode cX4_sendLetters 22 = .ok (.if_icmp .ge 68, 3) := by decide +kernel
theorem dX4_sendLetters_25 : decode cX4_sendLetters 25 = .ok (.aload_n 0, 1) := by decide +kernel
theorem dX4_sendLetters_26 : decode cX4_sendLetters 26 = .ok (.getfield 54, 3) := by decide +kernel
theorem dX4_sendLetters_29 : decode cX4_sendLetters 29 = .ok (.getfield 159, 3) := by decide +kernel
theorem dX4_sendLetters_32 : decode cX4_sendLetters 32 = .ok (.iload_n 3, 1) := by decide +kernel
theorem dX4_sendLetters_33 : decode cX4_sendLetters 33 = .ok (.baload, 1) := by decide +kernel
theorem dX4_sendLetters_34 : decode cX4_sendLetters 34 = .ok (.ifCond .eq 20, 3) := by decide +kernel
theorem dX4_sendLetters_37 : decode cX4_sendLetters 37 = .ok (.aload_n 0, 1) := by decide +kernel
theorem dX4_sendLetters_38 : decode cX4_sendLetters 38 = .ok (.getfield 37, 3) := by decide +kernel
theorem dX4_sendLetters_41 : decode cX4_sendLetters 41 = .ok (.getfield 162, 3) := by decide +kernel
theorem dX4_sendLetters_44 : decode cX4_sendLetters 44 = .ok (.iload_n 3, 1) := by decide +kernel
theorem dX4_sendLetters_45 : decode cX4_sendLetters 45 = .ok (.iaload, 1) := by decide +kernel
theorem dX4_sendLetters_46 : decode cX4_sendLetters 46 = .ok (.iconst 2, 1) := by decide +kernel
theorem dX4_sendLetters_47 : decode cX4_sendLetters 47 = .ok (.if_icmp .eq 7, 3) := by decide +kernel
theorem dX4_sendLetters_50 : decode cX4_sendLetters 50 = .ok (.iconst 1, 1) := by decide +kernel
theorem dX4_sendLetters_51 : decode cX4_sendLetters 51 = .ok (.goto 4, 3) := by decide +kernel
theorem dX4_sendLetters_54 : decode cX4_sendLetters 54 = .ok (.iconst 0, 1) := by decide +kernel
theorem dX4_sendLetters_55 : decode cX4_sendLetters 55 = .ok (.istore 4, 2) := by decide +kernel
theorem dX4_sendLetters_57 : decode cX4_sendLetters 57 = .ok (.iload 4, 2) := by decide +kernel
theorem dX4_sendLetters_59 : decode cX4_sendLetters 59 = .ok (.ifCond .eq 25, 3) := by decide +kernel
theorem dX4_sendLetters_62 : decode cX4_sendLetters 62 = .ok (.iload_n 2, 1) := by decide +kernel
theorem dX4_sendLetters_63 : decode cX4_sendLetters 63 = .ok (.ifCond .ne 15, 3) := by decide +kernel
theorem dX4_sendLetters_66 : decode cX4_sendLetters 66 = .ok (.aload_n 0, 1) := by decide +kernel
theorem dX4_sendLetters_67 : decode cX4_sendLetters 67 = .ok (.getfield 54, 3) := by decide +kernel
theorem dX4_sendLetters_70 : decode cX4_sendLetters 70 = .ok (.getfield 165, 3) := by decide +kernel
theorem dX4_sendLetters_73 : decode cX4_sendLetters 73 = .ok (.iload_n 3, 1) := by decide +kernel
theorem dX4_sendLetters_74 : decode cX4_sendLetters 74 = .ok (.baload, 1) := by decide +kernel
theorem dX4_sendLetters_75 : decode cX4_sendLetters 75 = .ok (.ifCond .eq 9, 3) := by decide +kernel
theorem dX4_sendLetters_78 : decode cX4_sendLetters 78 = .ok (.aload_n 0, 1) := by decide +kernel
theorem dX4_sendLetters_79 : decode cX4_sendLetters 79 = .ok (.iload_n 3, 1) := by decide +kernel
theorem dX4_sendLetters_80 : decode cX4_sendLetters 80 = .ok (.iload_n 1, 1) := by decide +kernel
theorem dX4_sendLetters_81 : decode cX4_sendLetters 81 = .ok (.invokevirtual 168, 3) := by decide +kernel
theorem dX4_sendLetters_84 : decode cX4_sendLetters 84 = .ok (.iinc 3 1, 3) := by decide +kernel
theorem dX4_sendLetters_87 : decode cX4_sendLetters 87 = .ok (.goto (-73), 3) := by decide +kernel
theorem dX4_sendLetters_90 : decode cX4_sendLetters 90 = .ok (.return_, 1) := by decide +kernel
set_option maxRecDepth 20000 in
theorem ggX4_sendFrom_X2_heightSaid : GoodIn wsX4_sendFrom wsX2_heightSaid := goodIn_r _ [12, 13, 110, 111, 112, 113] (by decide +kernel) (by decide +kernel)
set_option maxRecDepth 20000 in
theorem gX4_sendFrom_X2_heightSaid : GoodIn wsX4_sendFrom (wsV RX4 172 RX2 yX2_heightSaid wsX2_heightSaid) := goodIn_app (goodIn_of _ (by decide +kernel)) ggX4_sendFrom_X2_heightSaid
set_option maxRecDepth 20000 in
theorem ggX4_sendFrom_X1_add : GoodIn wsX4_sendFrom wsX1_add := goodIn_r _ [18, 19, 20, 21, 22, 23, 24, 25, 26, 114, 115, 116, 117, 118, 119, 120, 121, 122] (by decide +kernel) (by decide +kernel)
set_option maxRecDepth 20000 in
theorem gX4_sendFrom_X1_add : GoodIn wsX4_sendFrom (wsV RX4 178 RX1 yX1_add wsX1_add) := goodIn_app (goodIn_of _ (by decide +kernel)) ggX4_sendFrom_X1_add
set_option maxRecDepth 20000 in
theorem ggX4_sendFrom_X6_pair : GoodIn wsX4_sendFrom wsX6_pair := goodIn_r _ [29] (by decide +kernel) (by decide +kernel)
set_option maxRecDepth 20000 in
theorem gX4_sendFrom_X6_pair_n185 : GoodIn wsX4_sendFrom (wsX6_pair) := ggX4_sendFrom_X6_pair
set_option maxRecDepth 20000 in
theorem ggX4_sendFrom_X4_post : GoodIn wsX4_sendFrom wsX4_post := goodIn_r _ [34, 5, 35, 36, 37, 38, 39, 40, 41, 17, 42, 19, 43, 44, 45, 46, 47, 48, 49, 28, 50, 51, 52, 53, 33, 54, 55, 56, 57, 58, 59, 60, 61, 62, 63, 64, 65, 66, 67, 68, 69, 70, 71, 72, 73, 74, 75, 76, 77, 78, 79, 80, 81, 82, 83, 84, 85, 86, 87, 88, 89, 90, 91, 92, 93, 94, 95, 96, 97, 98, 99, 100, 101, 102, 114, 115, 116, 117, 118, 119, 120, 121, 122, 123, 124, 125, 126, 127, 128, 129, 130, 131, 132, 133, 134] (by decide +kernel) (by decide +kernel)
set_option maxRecDepth 20000 in
theorem gX4_sendFrom_X4_post : GoodIn wsX4_sendFrom (wsV RX4 188 RX4 yX4_post wsX4_post) := goodIn_app (goodIn_of _ (by decide +kernel)) ggX4_sendFrom_X4_post
theorem dX4_sendFrom_0 : decode cX4_sendFrom 0 = .ok (.aload_n 0, 1) := by decide +kernel
theorem dX4_sendFrom_1 : decode cX4_sendFrom 1 = .ok (.getfield 37, 3) := by decide +kernel
theorem dX4_sendFrom_4 : decode cX4_sendFrom 4 = .ok (.iload_n 1, 1) := by decide +kernel
theorem dX4_sendFrom_5 : decode cX4_sendFrom 5 = .ok (.aload_n 0, 1) := by decide +kernel
theorem dX4_sendFrom_6 : decode cX4_sendFrom 6 = .ok (.getfield 54, 3) := by decide +kernel
theorem dX4_sendFrom_9 : decode cX4_sendFrom 9 = .ok (.getfield 171, 3) := by decide +kernel
theorem dX4_sendFrom_12 : decode cX4_sendFrom 12 = .ok (.iload_n 1, 1) := by decide +kernel
theorem dX4_sendFrom_13 : decode cX4_sendFrom 13 = .ok (.iaload, 1) := by decide +kernel
theorem dX4_sendFrom_14 : decode cX4_sendFrom 14 = .ok (.invokevirtual 172, 3) := by decide +kernel
theorem dX4_sendFrom_17 : decode cX4_sendFrom 17 = .ok (.istore_n 3, 1) := by decide +kernel
theorem dX4_sendFrom_18 : decode cX4_sendFrom 18 = .ok (.iconst 0, 1) := by decide +kernel
theorem dX4_sendFrom_19 : decode cX4_sendFrom 19 = .ok (.istore 4, 2) := by decide +kernel
theorem dX4_sendFrom_21 : decode cX4_sendFrom 21 = .ok (.iload 4, 2) := by decide +kernel
theorem dX4_sendFrom_23 : decode cX4_sendFrom 23 = .ok (.aload_n 0, 1) := by decide +kernel
theorem dX4_sendFrom_24 : decode cX4_sendFrom 24 = .ok (.getfield 37, 3) := by decide +kernel
theorem dX4_sendFrom_27 : decode cX4_sendFrom 27 = .ok (.getfield 156, 3) := by decide +kernel
theorem dX4_sendFrom_30 : decode cX4_sendFrom 30 = .ok (.if_icmp .ge 60, 3) := by decide +kernel
theorem dX4_sendFrom_33 : decode cX4_sendFrom 33 = .ok (.iload 4, 2) := by decide +kernel
theorem dX4_sendFrom_35 : decode cX4_sendFrom 35 = .ok (.iload_n 1, 1) := by decide +kernel
theorem dX4_sendFrom_36 : decode cX4_sendFrom 36 = .ok (.if_icmp .eq 48, 3) := by decide +kernel
theorem dX4_sendFrom_39 : decode cX4_sendFrom 39 = .ok (.aload_n 0, 1) := by decide +kernel
theorem dX4_sendFrom_40 : decode cX4_sendFrom 40 = .ok (.getfield 21, 3) := by decide +kernel
theorem dX4_sendFrom_43 : decode cX4_sendFrom 43 = .ok (.iload_n 1, 1) := by decide +kernel
theorem dX4_sendFrom_44 : decode cX4_sendFrom 44 = .ok (.iload 4, 2) := by decide +kernel
theorem dX4_sendFrom_46 : decode cX4_sendFrom 46 = .ok (.iload_n 2, 1) := by decide +kernel
theorem dX4_sendFrom_47 : decode cX4_sendFrom 47 = .ok (.iload_n 3, 1) := by decide +kernel
theorem dX4_sendFrom_48 : decode cX4_sendFrom 48 = .ok (.aload_n 0, 1) := by decide +kernel
theorem dX4_sendFrom_49 : decode cX4_sendFrom 49 = .ok (.getfield 54, 3) := by decide +kernel
theorem dX4_sendFrom_52 : decode cX4_sendFrom 52 = .ok (.getfield 175, 3) := by decide +kernel
theorem dX4_sendFrom_55 : decode cX4_sendFrom 55 = .ok (.iload_n 1, 1) := by decide +kernel
theorem dX4_sendFrom_56 : decode cX4_sendFrom 56 = .ok (.iaload, 1) := by decide +kernel
theorem dX4_sendFrom_57 : decode cX4_sendFrom 57 = .ok (.invokevirtual 178, 3) := by decide +kernel
theorem dX4_sendFrom_60 : decode cX4_sendFrom 60 = .ok (.istore 5, 2) := by decide +kernel
theorem dX4_sendFrom_62 : decode cX4_sendFrom 62 = .ok (.aload_n 0, 1) := by decide +kernel
theorem dX4_sendFrom_63 : decode cX4_sendFrom 63 = .ok (.iload 5, 2) := by decide +kernel
theorem dX4_sendFrom_65 : decode cX4_sendFrom 65 = .ok (.iload_n 2, 1) := by decide +kernel
theorem dX4_sendFrom_66 : decode cX4_sendFrom 66 = .ok (.aload_n 0, 1) := by decide +kernel
theorem dX4_sendFrom_67 : decode cX4_sendFrom 67 = .ok (.getfield 37, 3) := by decide +kernel
theorem dX4_sendFrom_70 : decode cX4_sendFrom 70 = .ok (.getfield 182, 3) := by decide +kernel
theorem dX4_sendFrom_73 : decode cX4_sendFrom 73 = .ok (.iload_n 1, 1) := by decide +kernel
theorem dX4_sendFrom_74 : decode cX4_sendFrom 74 = .ok (.iload 4, 2) := by decide +kernel
theorem dX4_sendFrom_76 : decode cX4_sendFrom 76 = .ok (.invokestatic 185, 3) := by decide +kernel
theorem dX4_sendFrom_79 : decode cX4_sendFrom 79 = .ok (.iaload, 1) := by decide +kernel
theorem dX4_sendFrom_80 : decode cX4_sendFrom 80 = .ok (.iadd, 1) := by decide +kernel
theorem dX4_sendFrom_81 : decode cX4_sendFrom 81 = .ok (.invokevirtual 188, 3) := by decide +kernel
theorem dX4_sendFrom_84 : decode cX4_sendFrom 84 = .ok (.iinc 4 1, 3) := by decide +kernel
theorem dX4_sendFrom_87 : decode cX4_sendFrom 87 = .ok (.goto (-66), 3) := by decide +kernel
theorem dX4_sendFrom_90 : decode cX4_sendFrom 90 = .ok (.return_, 1) := by decide +kernel
set_option maxRecDepth 20000 in
theorem ggX4_post_X1_has : GoodIn wsX4_post wsX1_has := goodIn_r _ [10, 11, 74, 75, 76, 77, 78, 79, 80, 81, 82] (by decide +kernel) (by decide +kernel)
set_option maxRecDepth 20000 in
theorem gX4_post_X1_has : GoodIn wsX4_post (wsV RX4 133 RX1 yX1_has wsX1_has) := goodIn_app (goodIn_of _ (by decide +kernel)) ggX4_post_X1_has
set_option maxRecDepth 20000 in
theorem ggX4_post_X5_names : GoodIn wsX4_post wsX5_names := goodIn_r _ [16, 17, 18, 19, 20, 83, 84, 85, 86, 87, 88, 89] (by decide +kernel) (by decide +kernel)
set_option maxRecDepth 20000 in
theorem gX4_post_X5_names : GoodIn wsX4_post (wsV RX4 191 RX5 yX5_names wsX5_names) := goodIn_app (goodIn_of _ (by decide +kernel)) ggX4_post_X5_names
set_option maxRecDepth 20000 in
theorem ggX4_post_X4_isAlsoLost : GoodIn wsX4_post wsX4_isAlsoLost := goodIn_r _ [25, 26, 61, 62, 63, 64, 65, 66, 67, 68, 69, 70, 71, 72, 73] (by decide +kernel) (by decide +kernel)
set_option maxRecDepth 20000 in
theorem gX4_post_X4_isAlsoLost : GoodIn wsX4_post (wsV RX4 194 RX4 yX4_isAlsoLost wsX4_isAlsoLost) := goodIn_app (goodIn_of _ (by decide +kernel)) ggX4_post_X4_isAlsoLost
set_option maxRecDepth 20000 in
theorem ggX4_post_X5_loses : GoodIn wsX4_post wsX5_loses := goodIn_r _ [30, 31, 32, 33, 34, 15, 35, 36, 37, 38, 83, 84, 85, 86, 87, 88, 89] (by decide +kernel) (by decide +kernel)
set_option maxRecDepth 20000 in
theorem gX4_post_X5_loses : GoodIn wsX4_post (wsV RX4 197 RX5 yX5_loses wsX5_loses) := goodIn_app (goodIn_of _ (by decide +kernel)) ggX4_post_X5_loses
set_option maxRecDepth 20000 in
theorem ggX4_post_X5_lateness : GoodIn wsX4_post wsX5_lateness := goodIn_r _ [42, 31, 43, 32, 33, 34, 15, 35, 36, 37, 38, 83, 84, 85, 86, 87, 88, 89] (by decide +kernel) (by decide +kernel)
set_option maxRecDepth 20000 in
theorem gX4_post_X5_lateness : GoodIn wsX4_post (wsV RX4 203 RX5 yX5_lateness wsX5_lateness) := goodIn_app (goodIn_of _ (by decide +kernel)) ggX4_post_X5_lateness
set_option maxRecDepth 20000 in
theorem ggX4_post_X0_add : GoodIn wsX4_post wsX0_add := goodIn_r _ [48, 49, 50, 51, 52, 53, 90, 91, 92, 93, 94] (by decide +kernel) (by decide +kernel)
set_option maxRecDepth 20000 in
theorem gX4_post_X0_add : GoodIn wsX4_post (wsV RX4 209 RX0 yX0_add wsX0_add) := goodIn_app (goodIn_of _ (by decide +kernel)) ggX4_post_X0_add
set_option maxRecDepth 20000 in
theorem ggX4_post_X4_postDoubles : GoodIn wsX4_post wsX4_postDoubles := goodIn_r _ [57, 2, 58, 5, 59, 60, 33, 34, 15, 35, 36, 37, 38, 44, 45, 46, 47, 48, 49, 50, 51, 52, 53, 61, 62, 63, 64, 65, 66, 67, 68, 69, 70, 71, 72, 73, 83, 84, 85, 86, 87, 88, 89, 90, 91, 92, 93, 94] (by decide +kernel) (by decide +kernel)
set_option maxRecDepth 20000 in
theorem gX4_post_X4_postDoubles : GoodIn wsX4_post (wsV RX4 211 RX4 yX4_postDoubles wsX4_postDoubles) := goodIn_app (goodIn_of _ (by decide +kernel)) ggX4_post_X4_postDoubles
theorem dX4_post_0 : decode cX4_post 0 = .ok (.aload_n 0, 1) := by decide +kernel
theorem dX4_post_1 : decode cX4_post 1 = .ok (.getfield 21, 3) := by decide +kernel
theorem dX4_post_4 : decode cX4_post 4 = .ok (.iload_n 1, 1) := by decide +kernel
theorem dX4_post_5 : decode cX4_post 5 = .ok (.invokevirtual 133, 3) := by decide +kernel
theorem dX4_post_8 : decode cX4_post 8 = .ok (.ifCond .ne 4, 3) := by decide +kernel
theorem dX4_post_11 : decode cX4_post 11 = .ok (.return_, 1) := by decide +kernel
theorem dX4_post_12 : decode cX4_post 12 = .ok (.aload_n 0, 1) := by decide +kernel
theorem dX4_post_13 : decode cX4_post 13 = .ok (.getfield 41, 3) := by decide +kernel
theorem dX4_post_16 : decode cX4_post 16 = .ok (.iload_n 1, 1) := by decide +kernel
theorem dX4_post_17 : decode cX4_post 17 = .ok (.invokevirtual 191, 3) := by decide +kernel
theorem dX4_post_20 : decode cX4_post 20 = .ok (.istore_n 3, 1) := by decide +kernel
theorem dX4_post_21 : decode cX4_post 21 = .ok (.aload_n 0, 1) := by decide +kernel
theorem dX4_post_22 : decode cX4_post 22 = .ok (.iload_n 1, 1) := by decide +kernel
theorem dX4_post_23 : decode cX4_post 23 = .ok (.invokevirtual 194, 3) := by decide +kernel
theorem dX4_post_26 : decode cX4_post 26 = .ok (.ifCond .ne 18, 3) := by decide +kernel
theorem dX4_post_29 : decode cX4_post 29 = .ok (.iload_n 3, 1) := by decide +kernel
theorem dX4_post_30 : decode cX4_post 30 = .ok (.ifCond .eq 28, 3) := by decide +kernel
theorem dX4_post_33 : decode cX4_post 33 = .ok (.aload_n 0, 1) := by decide +kernel
theorem dX4_post_34 : decode cX4_post 34 = .ok (.getfield 41, 3) := by decide +kernel
theorem dX4_post_37 : decode cX4_post 37 = .ok (.iload_n 1, 1) := by decide +kernel
theorem dX4_post_38 : decode cX4_post 38 = .ok (.invokevirtual 197, 3) := by decide +kernel
theorem dX4_post_41 : decode cX4_post 41 = .ok (.ifCond .eq 17, 3) := by decide +kernel
theorem dX4_post_44 : decode cX4_post 44 = .ok (.aload_n 0, 1) := by decide +kernel
theorem dX4_post_45 : decode cX4_post 45 = .ok (.getfield 21, 3) := by decide +kernel
theorem dX4_post_48 : decode cX4_post 48 = .ok (.dup, 1) := by decide +kernel
theorem dX4_post_49 : decode cX4_post 49 = .ok (.getfield 200, 3) := by decide +kernel
theorem dX4_post_52 : decode cX4_post 52 = .ok (.iconst 1, 1) := by decide +kernel
theorem dX4_post_53 : decode cX4_post 53 = .ok (.iadd, 1) := by decide +kernel
theorem dX4_post_54 : decode cX4_post 54 = .ok (.putfield 200, 3) := by decide +kernel
theorem dX4_post_57 : decode cX4_post 57 = .ok (.return_, 1) := by decide +kernel
theorem dX4_post_58 : decode cX4_post 58 = .ok (.iload_n 3, 1) := by decide +kernel
theorem dX4_post_59 : decode cX4_post 59 = .ok (.ifCond .eq 16, 3) := by decide +kernel
theorem dX4_post_62 : decode cX4_post 62 = .ok (.iload_n 2, 1) := by decide +kernel
theorem dX4_post_63 : decode cX4_post 63 = .ok (.aload_n 0, 1) := by decide +kernel
theorem dX4_post_64 : decode cX4_post 64 = .ok (.getfield 41, 3) := by decide +kernel
theorem dX4_post_67 : decode cX4_post 67 = .ok (.iload_n 1, 1) := by decide +kernel
theorem dX4_post_68 : decode cX4_post 68 = .ok (.invokevirtual 203, 3) := by decide +kernel
theorem dX4_post_71 : decode cX4_post 71 = .ok (.iadd, 1) := by decide +kernel
theorem dX4_post_72 : decode cX4_post 72 = .ok (.goto 4, 3) := by decide +kernel
theorem dX4_post_75 : decode cX4_post 75 = .ok (.iload_n 2, 1) := by decide +kernel
theorem dX4_post_76 : decode cX4_post 76 = .ok (.istore 4, 2) := by decide +kernel
theorem dX4_post_78 : decode cX4_post 78 = .ok (.aload_n 0, 1) := by decide +kernel
theorem dX4_post_79 : decode cX4_post 79 = .ok (.getfield 21, 3) := by decide +kernel
theorem dX4_post_82 : decode cX4_post 82 = .ok (.getfield 206, 3) := by decide +kernel
theorem dX4_post_85 : decode cX4_post 85 = .ok (.iload_n 1, 1) := by decide +kernel
theorem dX4_post_86 : decode cX4_post 86 = .ok (.iload 4, 2) := by decide +kernel
theorem dX4_post_88 : decode cX4_post 88 = .ok (.iastore, 1) := by decide +kernel
theorem dX4_post_89 : decode cX4_post 89 = .ok (.aload_n 0, 1) := by decide +kernel
theorem dX4_post_90 : decode cX4_post 90 = .ok (.getfield 12, 3) := by decide +kernel
theorem dX4_post_93 : decode cX4_post 93 = .ok (.iload_n 1, 1) := by decide +kernel
theorem dX4_post_94 : decode cX4_post 94 = .ok (.iload 4, 2) := by decide +kernel
theorem dX4_post_96 : decode cX4_post 96 = .ok (.invokevirtual 209, 3) := by decide +kernel
theorem dX4_post_99 : decode cX4_post 99 = .ok (.iload_n 3, 1) := by decide +kernel
theorem dX4_post_100 : decode cX4_post 100 = .ok (.ifCond .eq 10, 3) := by decide +kernel
theorem dX4_post_103 : decode cX4_post 103 = .ok (.aload_n 0, 1) := by decide +kernel
theorem dX4_post_104 : decode cX4_post 104 = .ok (.iload_n 1, 1) := by decide +kernel
theorem dX4_post_105 : decode cX4_post 105 = .ok (.iload 4, 2) := by decide +kernel
theorem dX4_post_107 : decode cX4_post 107 = .ok (.invokevirtual 211, 3) := by decide +kernel
theorem dX4_post_110 : decode cX4_post 110 = .ok (.return_, 1) := by decide +kernel
theorem dX4_isAlsoLost_0 : decode cX4_isAlsoLost 0 = .ok (.iload_n 1, 1) := by decide +kernel
theorem dX4_isAlsoLost_1 : decode cX4_isAlsoLost 1 = .ok (.iconst 5, 1) := by decide +kernel
theorem dX4_isAlsoLost_2 : decode cX4_isAlsoLost 2 = .ok (.if_icmp .ge 18, 3) := by decide +kernel
theorem dX4_isAlsoLost_5 : decode cX4_isAlsoLost 5 = .ok (.aload_n 0, 1) := by decide +kernel
theorem dX4_isAlsoLost_6 : decode cX4_isAlsoLost 6 = .ok (.getfield 87, 3) := by decide +kernel
theorem dX4_isAlsoLost_9 : decode cX4_isAlsoLost 9 = .ok (.iload_n 1, 1) := by decide +kernel
theorem dX4_isAlsoLost_10 : decode cX4_isAlsoLost 10 = .ok (.ishr, 1) := by decide +kernel
theorem dX4_isAlsoLost_11 : decode cX4_isAlsoLost 11 = .ok (.iconst 1, 1) := by decide +kernel
theorem dX4_isAlsoLost_12 : decode cX4_isAlsoLost 12 = .ok (.iand, 1) := by decide +kernel
theorem dX4_isAlsoLost_13 : decode cX4_isAlsoLost 13 = .ok (.ifCond .eq 7, 3) := by decide +kernel
theorem dX4_isAlsoLost_16 : decode cX4_isAlsoLost 16 = .ok (.iconst 1, 1) := by decide +kernel
theorem dX4_isAlsoLost_17 : decode cX4_isAlsoLost 17 = .ok (.goto 4, 3) := by decide +kernel
theorem dX4_isAlsoLost_20 : decode cX4_isAlsoLost 20 = .ok (.iconst 0, 1) := by decide +kernel
theorem dX4_isAlsoLost_21 : decode cX4_isAlsoLost 21 = .ok (.ireturn, 1) := by decide +kernel
set_option maxRecDepth 20000 in
theorem ggX4_postDoubles_X5_does : GoodIn wsX4_postDoubles wsX5_does := goodIn_r _ [9, 10, 11, 12, 36, 37, 38, 39, 40, 41, 42] (by decide +kernel) (by decide +kernel)
set_option maxRecDepth 20000 in
theorem gX4_postDoubles_X5_does : GoodIn wsX4_postDoubles (wsV RX4 214 RX5 yX5_does wsX5_does) := goodIn_app (goodIn_of _ (by decide +kernel)) ggX4_postDoubles_X5_does
set_option maxRecDepth 20000 in
theorem ggX4_postDoubles_X0_add : GoodIn wsX4_postDoubles wsX0_add := goodIn_r _ [17, 18, 19, 20, 21, 22, 43, 44, 45, 46, 47] (by decide +kernel) (by decide +kernel)
set_option maxRecDepth 20000 in
theorem gX4_postDoubles_X0_add : GoodIn wsX4_postDoubles (wsV RX4 209 RX0 yX0_add wsX0_add) := goodIn_app (goodIn_of _ (by decide +kernel)) ggX4_postDoubles_X0_add
theorem dX4_postDoubles_0 : decode cX4_postDoubles 0 = .ok (.iconst 0, 1) := by decide +kernel
theorem dX4_postDoubles_1 : decode cX4_postDoubles 1 = .ok (.istore_n 3, 1) := by decide +kernel
theorem dX4_postDoubles_2 : decode cX4_postDoubles 2 = .ok (.iload_n 3, 1) := by decide +kernel
theorem dX4_postDoubles_3 : decode cX4_postDoubles 3 = .ok (.aload_n 0, 1) := by decide +kernel
theorem dX4_postDoubles_4 : decode cX4_postDoubles 4 = .ok (.getfield 41, 3) := by decide +kernel
theorem dX4_postDoubles_7 : decode cX4_postDoubles 7 = .ok (.getfield 102, 3) := by decide +kernel
theorem dX4_postDoubles_10 : decode cX4_postDoubles 10 = .ok (.if_icmp .ge 41, 3) := by decide +kernel
theorem dX4_postDoubles_13 : decode cX4_postDoubles 13 = .ok (.aload_n 0, 1) := by decide +kernel
theorem dX4_postDoubles_14 : decode cX4_postDoubles 14 = .ok (.getfield 41, 3) := by decide +kernel
theorem dX4_postDoubles_17 : decode cX4_postDoubles 17 = .ok (.iload_n 3, 1) := by decide +kernel
theorem dX4_postDoubles_18 : decode cX4_postDoubles 18 = .ok (.iconst 5, 1) := by decide +kernel
theorem dX4_postDoubles_19 : decode cX4_postDoubles 19 = .ok (.iload_n 1, 1) := by decide +kernel
theorem dX4_postDoubles_20 : decode cX4_postDoubles 20 = .ok (.invokevirtual 214, 3) := by decide +kernel
theorem dX4_postDoubles_23 : decode cX4_postDoubles 23 = .ok (.ifCond .eq 22, 3) := by decide +kernel
theorem dX4_postDoubles_26 : decode cX4_postDoubles 26 = .ok (.aload_n 0, 1) := by decide +kernel
theorem dX4_postDoubles_27 : decode cX4_postDoubles 27 = .ok (.getfield 12, 3) := by decide +kernel
theorem dX4_postDoubles_30 : decode cX4_postDoubles 30 = .ok (.iload_n 1, 1) := by decide +kernel
theorem dX4_postDoubles_31 : decode cX4_postDoubles 31 = .ok (.iload_n 2, 1) := by decide +kernel
theorem dX4_postDoubles_32 : decode cX4_postDoubles 32 = .ok (.aload_n 0, 1) := by decide +kernel
theorem dX4_postDoubles_33 : decode cX4_postDoubles 33 = .ok (.getfield 41, 3) := by decide +kernel
theorem dX4_postDoubles_36 : decode cX4_postDoubles 36 = .ok (.getfield 218, 3) := by decide +kernel
theorem dX4_postDoubles_39 : decode cX4_postDoubles 39 = .ok (.iload_n 3, 1) := by decide +kernel
theorem dX4_postDoubles_40 : decode cX4_postDoubles 40 = .ok (.iaload, 1) := by decide +kernel
theorem dX4_postDoubles_41 : decode cX4_postDoubles 41 = .ok (.iadd, 1) := by decide +kernel
theorem dX4_postDoubles_42 : decode cX4_postDoubles 42 = .ok (.invokevirtual 209, 3) := by decide +kernel
theorem dX4_postDoubles_45 : decode cX4_postDoubles 45 = .ok (.iinc 3 1, 3) := by decide +kernel
theorem dX4_postDoubles_48 : decode cX4_postDoubles 48 = .ok (.goto (-46), 3) := by decide +kernel
theorem dX4_postDoubles_51 : decode cX4_postDoubles 51 = .ok (.return_, 1) := by decide +kernel
set_option maxRecDepth 20000 in
theorem ggX4_keepRecord_X6_place : GoodIn wsX4_keepRecord wsX6_place := goodIn_r _ [10] (by decide +kernel) (by decide +kernel)
set_option maxRecDepth 20000 in
theorem gX4_keepRecord_X6_place_n221 : GoodIn wsX4_keepRecord (wsX6_place) := ggX4_keepRecord_X6_place
set_option maxRecDepth 20000 in
theorem ggX4_keepRecord_X3_keepTheRule : GoodIn wsX4_keepRecord wsX3_keepTheRule := goodIn_r _ [15, 16, 17, 18, 19, 20, 21, 22, 23, 24, 25, 26, 14, 27, 28, 29, 30, 31, 32, 33, 51, 52, 53, 54, 55, 56, 57, 47, 48, 49, 50] (by decide +kernel) (by decide +kernel)
set_option maxRecDepth 20000 in
theorem gX4_keepRecord_X3_keepTheRule : GoodIn wsX4_keepRecord (wsV RX4 224 RX3 yX3_keepTheRule wsX3_keepTheRule) := goodIn_app (goodIn_of _ (by decide +kernel)) ggX4_keepRecord_X3_keepTheRule
theorem dX4_keepRecord_0 : decode cX4_keepRecord 0 = .ok (.iconst 0, 1) := by decide +kernel
theorem dX4_keepRecord_1 : decode cX4_keepRecord 1 = .ok (.istore_n 2, 1) := by decide +kernel
theorem dX4_keepRecord_2 : decode cX4_keepRecord 2 = .ok (.iload_n 2, 1) := by decide +kernel
theorem dX4_keepRecord_3 : decode cX4_keepRecord 3 = .ok (.aload_n 0, 1) := by decide +kernel
theorem dX4_keepRecord_4 : decode cX4_keepRecord 4 = .ok (.getfield 37, 3) := by decide +kernel
theorem dX4_keepRecord_7 : decode cX4_keepRecord 7 = .ok (.getfield 156, 3) := by decide +kernel
theorem dX4_keepRecord_10 : decode cX4_keepRecord 10 = .ok (.if_icmp .ge 28, 3) := by decide +kernel
theorem dX4_keepRecord_13 : decode cX4_keepRecord 13 = .ok (.aload_n 0, 1) := by decide +kernel
theorem dX4_keepRecord_14 : decode cX4_keepRecord 14 = .ok (.getfield 25, 3) := by decide +kernel
theorem dX4_keepRecord_17 : decode cX4_keepRecord 17 = .ok (.iload_n 1, 1) := by decide +kernel
theorem dX4_keepRecord_18 : decode cX4_keepRecord 18 = .ok (.iload_n 2, 1) := by decide +kernel
theorem dX4_keepRecord_19 : decode cX4_keepRecord 19 = .ok (.invokestatic 221, 3) := by decide +kernel
theorem dX4_keepRecord_22 : decode cX4_keepRecord 22 = .ok (.aload_n 0, 1) := by decide +kernel
theorem dX4_keepRecord_23 : decode cX4_keepRecord 23 = .ok (.getfield 54, 3) := by decide +kernel
theorem dX4_keepRecord_26 : decode cX4_keepRecord 26 = .ok (.getfield 171, 3) := by decide +kernel
theorem dX4_keepRecord_29 : decode cX4_keepRecord 29 = .ok (.iload_n 2, 1) := by decide +kernel
theorem dX4_keepRecord_30 : decode cX4_keepRecord 30 = .ok (.iaload, 1) := by decide +kernel
theorem dX4_keepRecord_31 : decode cX4_keepRecord 31 = .ok (.iastore, 1) := by decide +kernel
theorem dX4_keepRecord_32 : decode cX4_keepRecord 32 = .ok (.iinc 2 1, 3) := by decide +kernel
theorem dX4_keepRecord_35 : decode cX4_keepRecord 35 = .ok (.goto (-33), 3) := by decide +kernel
theorem dX4_keepRecord_38 : decode cX4_keepRecord 38 = .ok (.aload_n 0, 1) := by decide +kernel
theorem dX4_keepRecord_39 : decode cX4_keepRecord 39 = .ok (.getfield 29, 3) := by decide +kernel
theorem dX4_keepRecord_42 : decode cX4_keepRecord 42 = .ok (.iload_n 1, 1) := by decide +kernel
theorem dX4_keepRecord_43 : decode cX4_keepRecord 43 = .ok (.aload_n 0, 1) := by decide +kernel
theorem dX4_keepRecord_44 : decode cX4_keepRecord 44 = .ok (.getfield 54, 3) := by decide +kernel
theorem dX4_keepRecord_47 : decode cX4_keepRecord 47 = .ok (.invokevirtual 224, 3) := by decide +kernel
theorem dX4_keepRecord_50 : decode cX4_keepRecord 50 = .ok (.bastore, 1) := by decide +kernel
theorem dX4_keepRecord_51 : decode cX4_keepRecord 51 = .ok (.aload_n 0, 1) := by decide +kernel
theorem dX4_keepRecord_52 : decode cX4_keepRecord 52 = .ok (.getfield 29, 3) := by decide +kernel
theorem dX4_keepRecord_55 : decode cX4_keepRecord 55 = .ok (.iload_n 1, 1) := by decide +kernel
theorem dX4_keepRecord_56 : decode cX4_keepRecord 56 = .ok (.baload, 1) := by decide +kernel
theorem dX4_keepRecord_57 : decode cX4_keepRecord 57 = .ok (.ifCond .ne 16, 3) := by decide +kernel
theorem dX4_keepRecord_60 : decode cX4_keepRecord 60 = .ok (.aload_n 0, 1) := by decide +kernel
theorem dX4_keepRecord_61 : decode cX4_keepRecord 61 = .ok (.getfield 33, 3) := by decide +kernel
theorem dX4_keepRecord_64 : decode cX4_keepRecord 64 = .ok (.iconst (-1), 1) := by decide +kernel
theorem dX4_keepRecord_65 : decode cX4_keepRecord 65 = .ok (.if_icmp .ne 8, 3) := by decide +kernel
theorem dX4_keepRecord_68 : decode cX4_keepRecord 68 = .ok (.aload_n 0, 1) := by decide +kernel
theorem dX4_keepRecord_69 : decode cX4_keepRecord 69 = .ok (.iload_n 1, 1) := by decide +kernel
theorem dX4_keepRecord_70 : decode cX4_keepRecord 70 = .ok (.putfield 33, 3) := by decide +kernel
theorem dX4_keepRecord_73 : decode cX4_keepRecord 73 = .ok (.return_, 1) := by decide +kernel
theorem dX5_init_0 : decode cX5_init 0 = .ok (.aload_n 0, 1) := by decide +kernel
theorem dX5_init_1 : decode cX5_init 1 = .ok (.invokespecial 3, 3) := by decide +kernel
theorem dX5_init_4 : decode cX5_init 4 = .ok (.aload_n 0, 1) := by decide +kernel
theorem dX5_init_5 : decode cX5_init 5 = .ok (.bipush 20, 2) := by decide +kernel
theorem dX5_init_7 : decode cX5_init 7 = .ok (.newarray .int, 2) := by decide +kernel
theorem dX5_init_9 : decode cX5_init 9 = .ok (.putfield 9, 3) := by decide +kernel
theorem dX5_init_12 : decode cX5_init 12 = .ok (.aload_n 0, 1) := by decide +kernel
theorem dX5_init_13 : decode cX5_init 13 = .ok (.bipush 20, 2) := by decide +kernel
theorem dX5_init_15 : decode cX5_init 15 = .ok (.newarray .int, 2) := by decide +kernel
theorem dX5_init_17 : decode cX5_init 17 = .ok (.putfield 15, 3) := by decide +kernel
theorem dX5_init_20 : decode cX5_init 20 = .ok (.aload_n 0, 1) := by decide +kernel
theorem dX5_init_21 : decode cX5_init 21 = .ok (.bipush 20, 2) := by decide +kernel
theorem dX5_init_23 : decode cX5_init 23 = .ok (.newarray .int, 2) := by decide +kernel
theorem dX5_init_25 : decode cX5_init 25 = .ok (.putfield 18, 3) := by decide +kernel
theorem dX5_init_28 : decode cX5_init 28 = .ok (.aload_n 0, 1) := by decide +kernel
theorem dX5_init_29 : decode cX5_init 29 = .ok (.bipush 20, 2) := by decide +kernel
theorem dX5_init_31 : decode cX5_init 31 = .ok (.newarray .int, 2) := by decide +kernel
theorem dX5_init_33 : decode cX5_init 33 = .ok (.putfield 21, 3) := by decide +kernel
theorem dX5_init_36 : decode cX5_init 36 = .ok (.aload_n 0, 1) := by decide +kernel
theorem dX5_init_37 : decode cX5_init 37 = .ok (.bipush 20, 2) := by decide +kernel
theorem dX5_init_39 : decode cX5_init 39 = .ok (.newarray .boolean, 2) := by decide +kernel
theorem dX5_init_41 : decode cX5_init 41 = .ok (.putfield 24, 3) := by decide +kernel
theorem dX5_init_44 : decode cX5_init 44 = .ok (.aload_n 0, 1) := by decide +kernel
theorem dX5_init_45 : decode cX5_init 45 = .ok (.sipush 1200, 3) := by decide +kernel
theorem dX5_init_48 : decode cX5_init 48 = .ok (.newarray .int, 2) := by decide +kernel
theorem dX5_init_50 : decode cX5_init 50 = .ok (.putfield 28, 3) := by decide +kernel
theorem dX5_init_53 : decode cX5_init 53 = .ok (.return_, 1) := by decide +kernel
theorem dX5_has_0 : decode cX5_has 0 = .ok (.iload_n 1, 1) := by decide +kernel
theorem dX5_has_1 : decode cX5_has 1 = .ok (.ifCond .lt 15, 3) := by decide +kernel
theorem dX5_has_4 : decode cX5_has 4 = .ok (.iload_n 1, 1) := by decide +kernel
theorem dX5_has_5 : decode cX5_has 5 = .ok (.aload_n 0, 1) := by decide +kernel
theorem dX5_has_6 : decode cX5_has 6 = .ok (.getfield 31, 3) := by decide +kernel
theorem dX5_has_9 : decode cX5_has 9 = .ok (.if_icmp .ge 7, 3) := by decide +kernel
theorem dX5_has_12 : decode cX5_has 12 = .ok (.iconst 1, 1) := by decide +kernel
theorem dX5_has_13 : decode cX5_has 13 = .ok (.goto 4, 3) := by decide +kernel
theorem dX5_has_16 : decode cX5_has 16 = .ok (.iconst 0, 1) := by decide +kernel
theorem dX5_has_17 : decode cX5_has 17 = .ok (.ireturn, 1) := by decide +kernel
set_option maxRecDepth 20000 in
theorem ggX5_add_X5_countNaming : GoodIn wsX5_add wsX5_countNaming := goodIn_r _ [11, 2, 4, 12, 13, 14, 15, 16, 17, 18, 19, 20, 21, 22, 23, 24] (by decide +kernel) (by decide +kernel)
set_option maxRecDepth 20000 in
theorem gX5_add_X5_countNaming : GoodIn wsX5_add (wsV RX5 35 RX5 yX5_countNaming wsX5_countNaming) := goodIn_app (goodIn_of _ (by decide +kernel)) ggX5_add_X5_countNaming
theorem dX5_add_0 : decode cX5_add 0 = .ok (.aload_n 0, 1) := by decide +kernel
theorem dX5_add_1 : decode cX5_add 1 = .ok (.getfield 31, 3) := by decide +kernel
theorem dX5_add_4 : decode cX5_add 4 = .ok (.bipush 20, 2) := by decide +kernel
theorem dX5_add_6 : decode cX5_add 6 = .ok (.if_icmp .lt 6, 3) := by decide +kernel
theorem dX5_add_9 : decode cX5_add 9 = .ok (.bipush (-5), 2) := by decide +kernel
theorem dX5_add_11 : decode cX5_add 11 = .ok (.ireturn, 1) := by decide +kernel
theorem dX5_add_12 : decode cX5_add 12 = .ok (.aload_n 0, 1) := by decide +kernel
theorem dX5_add_13 : decode cX5_add 13 = .ok (.getfield 9, 3) := by decide +kernel
theorem dX5_add_16 : decode cX5_add 16 = .ok (.aload_n 0, 1) := by decide +kernel
theorem dX5_add_17 : decode cX5_add 17 = .ok (.getfield 31, 3) := by decide +kernel
theorem dX5_add_20 : decode cX5_add 20 = .ok (.iload_n 1, 1) := by decide +kernel
theorem dX5_add_21 : decode cX5_add 21 = .ok (.iastore, 1) := by decide +kernel
theorem dX5_add_22 : decode cX5_add 22 = .ok (.aload_n 0, 1) := by decide +kernel
theorem dX5_add_23 : decode cX5_add 23 = .ok (.getfield 15, 3) := by decide +kernel
theorem dX5_add_26 : decode cX5_add 26 = .ok (.aload_n 0, 1) := by decide +kernel
theorem dX5_add_27 : decode cX5_add 27 = .ok (.getfield 31, 3) := by decide +kernel
theorem dX5_add_30 : decode cX5_add 30 = .ok (.iload_n 2, 1) := by decide +kernel
theorem dX5_add_31 : decode cX5_add 31 = .ok (.iastore, 1) := by decide +kernel
theorem dX5_add_32 : decode cX5_add 32 = .ok (.aload_n 0, 1) := by decide +kernel
theorem dX5_add_33 : decode cX5_add 33 = .ok (.getfield 18, 3) := by decide +kernel
theorem dX5_add_36 : decode cX5_add 36 = .ok (.aload_n 0, 1) := by decide +kernel
theorem dX5_add_37 : decode cX5_add 37 = .ok (.getfield 31, 3) := by decide +kernel
theorem dX5_add_40 : decode cX5_add 40 = .ok (.iload_n 3, 1) := by decide +kernel
theorem dX5_add_41 : decode cX5_add 41 = .ok (.iastore, 1) := by decide +kernel
theorem dX5_add_42 : decode cX5_add 42 = .ok (.aload_n 0, 1) := by decide +kernel
theorem dX5_add_43 : decode cX5_add 43 = .ok (.getfield 21, 3) := by decide +kernel
theorem dX5_add_46 : decode cX5_add 46 = .ok (.aload_n 0, 1) := by decide +kernel
theorem dX5_add_47 : decode cX5_add 47 = .ok (.getfield 31, 3) := by decide +kernel
theorem dX5_add_50 : decode cX5_add 50 = .ok (.iload 4, 2) := by decide +kernel
theorem dX5_add_52 : decode cX5_add 52 = .ok (.iastore, 1) := by decide +kernel
theorem dX5_add_53 : decode cX5_add 53 = .ok (.aload_n 0, 1) := by decide +kernel
theorem dX5_add_54 : decode cX5_add 54 = .ok (.getfield 24, 3) := by decide +kernel
theorem dX5_add_57 : decode cX5_add 57 = .ok (.aload_n 0, 1) := by decide +kernel
theorem dX5_add_58 : decode cX5_add 58 = .ok (.getfield 31, 3) := by decide +kernel
theorem dX5_add_61 : decode cX5_add 61 = .ok (.iconst 0, 1) := by decide +kernel
theorem dX5_add_62 : decode cX5_add 62 = .ok (.bastore, 1) := by decide +kernel
theorem dX5_add_63 : decode cX5_add 63 = .ok (.aload_n 0, 1) := by decide +kernel
theorem dX5_add_64 : decode cX5_add 64 = .ok (.aload_n 0, 1) := by decide +kernel
theorem dX5_add_65 : decode cX5_add 65 = .ok (.getfield 31, 3) := by decide +kernel
theorem dX5_add_68 : decode cX5_add 68 = .ok (.iconst 1, 1) := by decide +kernel
theorem dX5_add_69 : decode cX5_add 69 = .ok (.invokevirtual 35, 3) := by decide +kernel
theorem dX5_add_72 : decode cX5_add 72 = .ok (.aload_n 0, 1) := by decide +kernel
theorem dX5_add_73 : decode cX5_add 73 = .ok (.dup, 1) := by decide +kernel
theorem dX5_add_74 : decode cX5_add 74 = .ok (.getfield 31, 3) := by decide +kernel
theorem dX5_add_77 : decode cX5_add 77 = .ok (.dup_x1, 1) := by decide +kernel
theorem dX5_add_78 : decode cX5_add 78 = .ok (.iconst 1, 1) := by decide +kernel
theorem dX5_add_79 : decode cX5_add 79 = .ok (.iadd, 1) := by decide +kernel
theorem dX5_add_80 : decode cX5_add 80 = .ok (.putfield 31, 3) := by decide +kernel
theorem dX5_add_83 : decode cX5_add 83 = .ok (.ireturn, 1) := by decide +kernel
set_option maxRecDepth 20000 in
theorem ggX5_remove_X5_has : GoodIn wsX5_remove wsX5_has := goodIn_r _ [11, 1, 22, 23, 24, 25, 26, 27, 28] (by decide +kernel) (by decide +kernel)
set_option maxRecDepth 20000 in
theorem gX5_remove_X5_has : GoodIn wsX5_remove (wsV RX5 39 RX5 yX5_has wsX5_has) := goodIn_app (goodIn_of _ (by decide +kernel)) ggX5_remove_X5_has
set_option maxRecDepth 20000 in
theorem ggX5_remove_X5_countNaming : GoodIn wsX5_remove wsX5_countNaming := goodIn_r _ [15, 2, 4, 16, 17, 18, 19, 20, 21, 22, 23, 24, 25, 26, 27, 28] (by decide +kernel) (by decide +kernel)
set_option maxRecDepth 20000 in
theorem gX5_remove_X5_countNaming : GoodIn wsX5_remove (wsV RX5 35 RX5 yX5_countNaming wsX5_countNaming) := goodIn_app (goodIn_of _ (by decide +kernel)) ggX5_remove_X5_countNaming
theorem dX5_remove_0 : decode cX5_remove 0 = .ok (.aload_n 0, 1) := by decide +kernel
theorem dX5_remove_1 : decode cX5_remove 1 = .ok (.iload_n 1, 1) := by decide +kernel
theorem dX5_remove_2 : decode cX5_remove 2 = .ok (.invokevirtual 39, 3) := by decide +kernel
theorem dX5_remove_5 : decode cX5_remove 5 = .ok (.ifCond .ne 4, 3) := by decide +kernel
theorem dX5_remove_8 : decode cX5_remove 8 = .ok (.return_, 1) := by decide +kernel
theorem dX5_remove_9 : decode cX5_remove 9 = .ok (.aload_n 0, 1) := by decide +kernel
theorem dX5_remove_10 : decode cX5_remove 10 = .ok (.iload_n 1, 1) := by decide +kernel
theorem dX5_remove_11 : decode cX5_remove 11 = .ok (.iconst (-1), 1) := by decide +kernel
theorem dX5_remove_12 : decode cX5_remove 12 = .ok (.invokevirtual 35, 3) := by decide +kernel
theorem dX5_remove_15 : decode cX5_remove 15 = .ok (.aload_n 0, 1) := by decide +kernel
theorem dX5_remove_16 : decode cX5_remove 16 = .ok (.dup, 1) := by decide +kernel
theorem dX5_remove_17 : decode cX5_remove 17 = .ok (.getfield 31, 3) := by decide +kernel
theorem dX5_remove_20 : decode cX5_remove 20 = .ok (.iconst 1, 1) := by decide +kernel
theorem dX5_remove_21 : decode cX5_remove 21 = .ok (.isub, 1) := by decide +kernel
theorem dX5_remove_22 : decode cX5_remove 22 = .ok (.putfield 31, 3) := by decide +kernel
theorem dX5_remove_25 : decode cX5_remove 25 = .ok (.iload_n 1, 1) := by decide +kernel
theorem dX5_remove_26 : decode cX5_remove 26 = .ok (.istore_n 2, 1) := by decide +kernel
theorem dX5_remove_27 : decode cX5_remove 27 = .ok (.iload_n 2, 1) := by decide +kernel
theorem dX5_remove_28 : decode cX5_remove 28 = .ok (.aload_n 0, 1) := by decide +kernel
theorem dX5_remove_29 : decode cX5_remove 29 = .ok (.getfield 31, 3) := by decide +kernel
theorem dX5_remove_32 : decode cX5_remove 32 = .ok (.if_icmp .ge 79, 3) := by decide +kernel
theorem dX5_remove_35 : decode cX5_remove 35 = .ok (.aload_n 0, 1) := by decide +kernel
theorem dX5_remove_36 : decode cX5_remove 36 = .ok (.getfield 9, 3) := by decide +kernel
theorem dX5_remove_39 : decode cX5_remove 39 = .ok (.iload_n 2, 1) := by decide +kernel
theorem dX5_remove_40 : decode cX5_remove 40 = .ok (.aload_n 0, 1) := by decide +kernel
theorem dX5_remove_41 : decode cX5_remove 41 = .ok (.getfield 9, 3) := by decide +kernel
theorem dX5_remove_44 : decode cX5_remove 44 = .ok (.iload_n 2, 1) := by decide +kernel
theorem dX5_remove_45 : decode cX5_remove 45 = .ok (.iconst 1, 1) := by decide +kernel
theorem dX5_remove_46 : decode cX5_remove 46 = .ok (.iadd, 1) := by decide +kernel
theorem dX5_remove_47 : decode cX5_remove 47 = .ok (.iaload, 1) := by decide +kernel
theorem dX5_remove_48 : decode cX5_remove 48 = .ok (.iastore, 1) := by decide +kernel
theorem dX5_remove_49 : decode cX5_remove 49 = .ok (.aload_n 0, 1) := by decide +kernel
theorem dX5_remove_50 : decode cX5_remove 50 = .ok (.getfield 15, 3) := by decide +kernel
theorem dX5_remove_53 : decode cX5_remove 53 = .ok (.iload_n 2, 1) := by decide +kernel
theorem dX5_remove_54 : decode cX5_remove 54 = .ok (.aload_n 0, 1) := by decide +kernel
theorem dX5_remove_55 : decode cX5_remove 55 = .ok (.getfield 15, 3) := by decide +kernel
theorem dX5_remove_58 : decode cX5_remove 58 = .ok (.iload_n 2, 1) := by decide +kernel
theorem dX5_remove_59 : decode cX5_remove 59 = .ok (.iconst 1, 1) := by decide +kernel
theorem dX5_remove_60 : decode cX5_remove 60 = .ok (.iadd, 1) := by decide +kernel
theorem dX5_remove_61 : decode cX5_remove 61 = .ok (.iaload, 1) := by decide +kernel
theorem dX5_remove_62 : decode cX5_remove 62 = .ok (.iastore, 1) := by decide +kernel
theorem dX5_remove_63 : decode cX5_remove 63 = .ok (.aload_n 0, 1) := by decide +kernel
theorem dX5_remove_64 : decode cX5_remove 64 = .ok (.getfield 18, 3) := by decide +kernel
theorem dX5_remove_67 : decode cX5_remove 67 = .ok (.iload_n 2, 1) := by decide +kernel
theorem dX5_remove_68 : decode cX5_remove 68 = .ok (.aload_n 0, 1) := by decide +kernel
theorem dX5_remove_69 : decode cX5_remove 69 = .ok (.getfield 18, 3) := by decide +kernel
theorem dX5_remove_72 : decode cX5_remove 72 = .ok (.iload_n 2, 1) := by decide +kernel
theorem dX5_remove_73 : decode cX5_remove 73 = .ok (.iconst 1, 1) := by decide +kernel
theorem dX5_remove_74 : decode cX5_remove 74 = .ok (.iadd, 1) := by decide +kernel
theorem dX5_remove_75 : decode cX5_remove 75 = .ok (.iaload, 1) := by decide +kernel
theorem dX5_remove_76 : decode cX5_remove 76 = .ok (.iastore, 1) := by decide +kernel
theorem dX5_remove_77 : decode cX5_remove 77 = .ok (.aload_n 0, 1) := by decide +kernel
theorem dX5_remove_78 : decode cX5_remove 78 = .ok (.getfield 21, 3) := by decide +kernel
theorem dX5_remove_81 : decode cX5_remove 81 = .ok (.iload_n 2, 1) := by decide +kernel
theorem dX5_remove_82 : decode cX5_remove 82 = .ok (.aload_n 0, 1) := by decide +kernel
theorem dX5_remove_83 : decode cX5_remove 83 = .ok (.getfield 21, 3) := by decide +kernel
theorem dX5_remove_86 : decode cX5_remove 86 = .ok (.iload_n 2, 1) := by decide +kernel
theorem dX5_remove_87 : decode cX5_remove 87 = .ok (.iconst 1, 1) := by decide +kernel
theorem dX5_remove_88 : decode cX5_remove 88 = .ok (.iadd, 1) := by decide +kernel
theorem dX5_remove_89 : decode cX5_remove 89 = .ok (.iaload, 1) := by decide +kernel
theorem dX5_remove_90 : decode cX5_remove 90 = .ok (.iastore, 1) := by decide +kernel
theorem dX5_remove_91 : decode cX5_remove 91 = .ok (.aload_n 0, 1) := by decide +kernel
theorem dX5_remove_92 : decode cX5_remove 92 = .ok (.getfield 24, 3) := by decide +kernel
theorem dX5_remove_95 : decode cX5_remove 95 = .ok (.iload_n 2, 1) := by decide +kernel
theorem dX5_remove_96 : decode cX5_remove 96 = .ok (.aload_n 0, 1) := by decide +kernel
theorem dX5_remove_97 : decode cX5_remove 97 = .ok (.getfield 24, 3) := by decide +kernel
theorem dX5_remove_100 : decode cX5_remove 100 = .ok (.iload_n 2, 1) := by decide +kernel
theorem dX5_remove_101 : decode cX5_remove 101 = .ok (.iconst 1, 1) := by decide +kernel
theorem dX5_remove_102 : decode cX5_remove 102 = .ok (.iadd, 1) := by decide +kernel
theorem dX5_remove_103 : decode cX5_remove 103 = .ok (.baload, 1) := by decide +kernel
theorem dX5_remove_104 : decode cX5_remove 104 = .ok (.bastore, 1) := by decide +kernel
theorem dX5_remove_105 : decode cX5_remove 105 = .ok (.iinc 2 1, 3) := by decide +kernel
theorem dX5_remove_108 : decode cX5_remove 108 = .ok (.goto (-81), 3) := by decide +kernel
theorem dX5_remove_111 : decode cX5_remove 111 = .ok (.return_, 1) := by decide +kernel
set_option maxRecDepth 20000 in
theorem ggX5_removeLeftOut_X5_remove : GoodIn wsX5_removeLeftOut wsX5_remove := goodIn_r _ [7, 1, 8, 9, 10, 11, 2, 12, 13, 14, 6, 15, 16, 17, 18, 19, 20, 21, 22, 23, 24, 25, 26, 27, 28, 29, 30, 31, 32] (by decide +kernel) (by decide +kernel)
set_option maxRecDepth 20000 in
theorem gX5_removeLeftOut_X5_remove : GoodIn wsX5_removeLeftOut (wsV RX5 43 RX5 yX5_remove wsX5_remove) := goodIn_app (goodIn_of _ (by decide +kernel)) ggX5_removeLeftOut_X5_remove
theorem dX5_removeLeftOut_0 : decode cX5_removeLeftOut 0 = .ok (.aload_n 0, 1) := by decide +kernel
theorem dX5_removeLeftOut_1 : decode cX5_removeLeftOut 1 = .ok (.getfield 31, 3) := by decide +kernel
theorem dX5_removeLeftOut_4 : decode cX5_removeLeftOut 4 = .ok (.iconst 1, 1) := by decide +kernel
theorem dX5_removeLeftOut_5 : decode cX5_removeLeftOut 5 = .ok (.isub, 1) := by decide +kernel
theorem dX5_removeLeftOut_6 : decode cX5_removeLeftOut 6 = .ok (.istore_n 1, 1) := by decide +kernel
theorem dX5_removeLeftOut_7 : decode cX5_removeLeftOut 7 = .ok (.iload_n 1, 1) := by decide +kernel
theorem dX5_removeLeftOut_8 : decode cX5_removeLeftOut 8 = .ok (.ifCond .lt 23, 3) := by decide +kernel
theorem dX5_removeLeftOut_11 : decode cX5_removeLeftOut 11 = .ok (.aload_n 0, 1) := by decide +kernel
theorem dX5_removeLeftOut_12 : decode cX5_removeLeftOut 12 = .ok (.getfield 24, 3) := by decide +kernel
theorem dX5_removeLeftOut_15 : decode cX5_removeLeftOut 15 = .ok (.iload_n 1, 1) := by decide +kernel
theorem dX5_removeLeftOut_16 : decode cX5_removeLeftOut 16 = .ok (.baload, 1) := by decide +kernel
theorem dX5_removeLeftOut_17 : decode cX5_removeLeftOut 17 = .ok (.ifCond .eq 8, 3) := by decide +kernel
theorem dX5_removeLeftOut_20 : decode cX5_removeLeftOut 20 = .ok (.aload_n 0, 1) := by decide +kernel
theorem dX5_removeLeftOut_21 : decode cX5_removeLeftOut 21 = .ok (.iload_n 1, 1) := by decide +kernel
theorem dX5_removeLeftOut_22 : decode cX5_removeLeftOut 22 = .ok (.invokevirtual 43, 3) := by decide +kernel
theorem dX5_removeLeftOut_25 : decode cX5_removeLeftOut 25 = .ok (.iinc 1 (-1), 3) := by decide +kernel
theorem dX5_removeLeftOut_28 : decode cX5_removeLeftOut 28 = .ok (.goto (-21), 3) := by decide +kernel
theorem dX5_removeLeftOut_31 : decode cX5_removeLeftOut 31 = .ok (.return_, 1) := by decide +kernel
set_option maxRecDepth 20000 in
theorem ggX5_countNaming_X6_namesLetter : GoodIn wsX5_countNaming wsX6_namesLetter := goodIn_r _ [6] (by decide +kernel) (by decide +kernel)
set_option maxRecDepth 20000 in
theorem gX5_countNaming_X6_namesLetter_n47 : GoodIn wsX5_countNaming (wsX6_namesLetter) := ggX5_countNaming_X6_namesLetter
set_option maxRecDepth 20000 in
theorem ggX5_countNaming_X6_isLetter : GoodIn wsX5_countNaming wsX6_isLetter := goodIn_r _ [8] (by decide +kernel) (by decide +kernel)
set_option maxRecDepth 20000 in
theorem gX5_countNaming_X6_isLetter_n50 : GoodIn wsX5_countNaming (wsX6_isLetter) := ggX5_countNaming_X6_isLetter
theorem dX5_countNaming_0 : decode cX5_countNaming 0 = .ok (.aload_n 0, 1) := by decide +kernel
theorem dX5_countNaming_1 : decode cX5_countNaming 1 = .ok (.getfield 9, 3) := by decide +kernel
theorem dX5_countNaming_4 : decode cX5_countNaming 4 = .ok (.iload_n 1, 1) := by decide +kernel
theorem dX5_countNaming_5 : decode cX5_countNaming 5 = .ok (.iaload, 1) := by decide +kernel
theorem dX5_countNaming_6 : decode cX5_countNaming 6 = .ok (.invokestatic 47, 3) := by decide +kernel
theorem dX5_countNaming_9 : decode cX5_countNaming 9 = .ok (.ifCond .eq 30, 3) := by decide +kernel
theorem dX5_countNaming_12 : decode cX5_countNaming 12 = .ok (.aload_n 0, 1) := by decide +kernel
theorem dX5_countNaming_13 : decode cX5_countNaming 13 = .ok (.getfield 18, 3) := by decide +kernel
theorem dX5_countNaming_16 : decode cX5_countNaming 16 = .ok (.iload_n 1, 1) := by decide +kernel
theorem dX5_countNaming_17 : decode cX5_countNaming 17 = .ok (.iaload, 1) := by decide +kernel
theorem dX5_countNaming_18 : decode cX5_countNaming 18 = .ok (.invokestatic 50, 3) := by decide +kernel
theorem dX5_countNaming_21 : decode cX5_countNaming 21 = .ok (.ifCond .eq 18, 3) := by decide +kernel
theorem dX5_countNaming_24 : decode cX5_countNaming 24 = .ok (.aload_n 0, 1) := by decide +kernel
theorem dX5_countNaming_25 : decode cX5_countNaming 25 = .ok (.getfield 28, 3) := by decide +kernel
theorem dX5_countNaming_28 : decode cX5_countNaming 28 = .ok (.aload_n 0, 1) := by decide +kernel
theorem dX5_countNaming_29 : decode cX5_countNaming 29 = .ok (.getfield 18, 3) := by decide +kernel
theorem dX5_countNaming_32 : decode cX5_countNaming 32 = .ok (.iload_n 1, 1) := by decide +kernel
theorem dX5_countNaming_33 : decode cX5_countNaming 33 = .ok (.iaload, 1) := by decide +kernel
theorem dX5_countNaming_34 : decode cX5_countNaming 34 = .ok (.dup2, 1) := by decide +kernel
theorem dX5_countNaming_35 : decode cX5_countNaming 35 = .ok (.iaload, 1) := by decide +kernel
theorem dX5_countNaming_36 : decode cX5_countNaming 36 = .ok (.iload_n 2, 1) := by decide +kernel
theorem dX5_countNaming_37 : decode cX5_countNaming 37 = .ok (.iadd, 1) := by decide +kernel
theorem dX5_countNaming_38 : decode cX5_countNaming 38 = .ok (.iastore, 1) := by decide +kernel
theorem dX5_countNaming_39 : decode cX5_countNaming 39 = .ok (.return_, 1) := by decide +kernel
set_option maxRecDepth 20000 in
theorem ggX5_names_X6_isLetter : GoodIn wsX5_names wsX6_isLetter := goodIn_r _ [4] (by decide +kernel) (by decide +kernel)
set_option maxRecDepth 20000 in
theorem gX5_names_X6_isLetter_n50 : GoodIn wsX5_names (wsX6_isLetter) := ggX5_names_X6_isLetter
theorem dX5_names_0 : decode cX5_names 0 = .ok (.iload_n 1, 1) := by decide +kernel
theorem dX5_names_1 : decode cX5_names 1 = .ok (.invokestatic 50, 3) := by decide +kernel
theorem dX5_names_4 : decode cX5_names 4 = .ok (.ifCond .eq 16, 3) := by decide +kernel
theorem dX5_names_7 : decode cX5_names 7 = .ok (.aload_n 0, 1) := by decide +kernel
theorem dX5_names_8 : decode cX5_names 8 = .ok (.getfield 28, 3) := by decide +kernel
theorem dX5_names_11 : decode cX5_names 11 = .ok (.iload_n 1, 1) := by decide +kernel
theorem dX5_names_12 : decode cX5_names 12 = .ok (.iaload, 1) := by decide +kernel
theorem dX5_names_13 : decode cX5_names 13 = .ok (.ifCond .le 7, 3) := by decide +kernel
theorem dX5_names_16 : decode cX5_names 16 = .ok (.iconst 1, 1) := by decide +kernel
theorem dX5_names_17 : decode cX5_names 17 = .ok (.goto 4, 3) := by decide +kernel
theorem dX5_names_20 : decode cX5_names 20 = .ok (.iconst 0, 1) := by decide +kernel
theorem dX5_names_21 : decode cX5_names 21 = .ok (.ireturn, 1) := by decide +kernel
set_option maxRecDepth 20000 in
theorem ggX5_happensAt_X6_isTimed : GoodIn wsX5_happensAt wsX6_isTimed := goodIn_r _ [6] (by decide +kernel) (by decide +kernel)
set_option maxRecDepth 20000 in
theorem gX5_happensAt_X6_isTimed_n53 : GoodIn wsX5_happensAt (wsX6_isTimed) := ggX5_happensAt_X6_isTimed
theorem dX5_happensAt_0 : decode cX5_happensAt 0 = .ok (.aload_n 0, 1) := by decide +kernel
theorem dX5_happensAt_1 : decode cX5_happensAt 1 = .ok (.getfield 24, 3) := by decide +kernel
theorem dX5_happensAt_4 : decode cX5_happensAt 4 = .ok (.iload_n 1, 1) := by decide +kernel
theorem dX5_happensAt_5 : decode cX5_happensAt 5 = .ok (.baload, 1) := by decide +kernel
theorem dX5_happensAt_6 : decode cX5_happensAt 6 = .ok (.ifCond .ne 29, 3) := by decide +kernel
theorem dX5_happensAt_9 : decode cX5_happensAt 9 = .ok (.aload_n 0, 1) := by decide +kernel
theorem dX5_happensAt_10 : decode cX5_happensAt 10 = .ok (.getfield 9, 3) := by decide +kernel
theorem dX5_happensAt_13 : decode cX5_happensAt 13 = .ok (.iload_n 1, 1) := by decide +kernel
theorem dX5_happensAt_14 : decode cX5_happensAt 14 = .ok (.iaload, 1) := by decide +kernel
theorem dX5_happensAt_15 : decode cX5_happensAt 15 = .ok (.invokestatic 53, 3) := by decide +kernel
theorem dX5_happensAt_18 : decode cX5_happensAt 18 = .ok (.ifCond .eq 17, 3) := by decide +kernel
theorem dX5_happensAt_21 : decode cX5_happensAt 21 = .ok (.aload_n 0, 1) := by decide +kernel
theorem dX5_happensAt_22 : decode cX5_happensAt 22 = .ok (.getfield 15, 3) := by decide +kernel
theorem dX5_happensAt_25 : decode cX5_happensAt 25 = .ok (.iload_n 1, 1) := by decide +kernel
theorem dX5_happensAt_26 : decode cX5_happensAt 26 = .ok (.iaload, 1) := by decide +kernel
theorem dX5_happensAt_27 : decode cX5_happensAt 27 = .ok (.iload_n 2, 1) := by decide +kernel
theorem dX5_happensAt_28 : decode cX5_happensAt 28 = .ok (.if_icmp .ne 7, 3) := by decide +kernel
theorem dX5_happensAt_31 : decode cX5_happensAt 31 = .ok (.iconst 1, 1) := by decide +kernel
theorem dX5_happensAt_32 : decode cX5_happensAt 32 = .ok (.goto 4, 3) := by decide +kernel
theorem dX5_happensAt_35 : decode cX5_happensAt 35 = .ok (.iconst 0, 1) := by decide +kernel
theorem dX5_happensAt_36 : decode cX5_happensAt 36 = .ok (.ireturn, 1) := by decide +kernel
theorem dX5_does_0 : decode cX5_does 0 = .ok (.aload_n 0, 1) := by decide +kernel
theorem dX5_does_1 : decode cX5_does 1 = .ok (.getfield 24, 3) := by decide +kernel
theorem dX5_does_4 : decode cX5_does 4 = .ok (.iload_n 1, 1) := by decide +kernel
theorem dX5_does_5 : decode cX5_does 5 = .ok (.baload, 1) := by decide +kernel
theorem dX5_does_6 : decode cX5_does 6 = .ok (.ifCond .ne 27, 3) := by decide +kernel
theorem dX5_does_9 : decode cX5_does 9 = .ok (.aload_n 0, 1) := by decide +kernel
theorem dX5_does_10 : decode cX5_does 10 = .ok (.getfield 9, 3) := by decide +kernel
theorem dX5_does_13 : decode cX5_does 13 = .ok (.iload_n 1, 1) := by decide +kernel
theorem dX5_does_14 : decode cX5_does 14 = .ok (.iaload, 1) := by decide +kernel
theorem dX5_does_15 : decode cX5_does 15 = .ok (.iload_n 2, 1) := by decide +kernel
theorem dX5_does_16 : decode cX5_does 16 = .ok (.if_icmp .ne 17, 3) := by decide +kernel
theorem dX5_does_19 : decode cX5_does 19 = .ok (.aload_n 0, 1) := by decide +kernel
theorem dX5_does_20 : decode cX5_does 20 = .ok (.getfield 18, 3) := by decide +kernel
theorem dX5_does_23 : decode cX5_does 23 = .ok (.iload_n 1, 1) := by decide +kernel
theorem dX5_does_24 : decode cX5_does 24 = .ok (.iaload, 1) := by decide +kernel
theorem dX5_does_25 : decode cX5_does 25 = .ok (.iload_n 3, 1) := by decide +kernel
theorem dX5_does_26 : decode cX5_does 26 = .ok (.if_icmp .ne 7, 3) := by decide +kernel
theorem dX5_does_29 : decode cX5_does 29 = .ok (.iconst 1, 1) := by decide +kernel
theorem dX5_does_30 : decode cX5_does 30 = .ok (.goto 4, 3) := by decide +kernel
theorem dX5_does_33 : decode cX5_does 33 = .ok (.iconst 0, 1) := by decide +kernel
theorem dX5_does_34 : decode cX5_does 34 = .ok (.ireturn, 1) := by decide +kernel
set_option maxRecDepth 20000 in
theorem ggX5_loses_X5_does : GoodIn wsX5_loses wsX5_does := goodIn_r _ [6, 7, 8, 9, 10, 11, 12, 13, 14, 15, 16] (by decide +kernel) (by decide +kernel)
set_option maxRecDepth 20000 in
theorem gX5_loses_X5_does : GoodIn wsX5_loses (wsV RX5 56 RX5 yX5_does wsX5_does) := goodIn_app (goodIn_of _ (by decide +kernel)) ggX5_loses_X5_does
theorem dX5_loses_0 : decode cX5_loses 0 = .ok (.iconst 0, 1) := by decide +kernel
theorem dX5_loses_1 : decode cX5_loses 1 = .ok (.istore_n 2, 1) := by decide +kernel
theorem dX5_loses_2 : decode cX5_loses 2 = .ok (.iload_n 2, 1) := by decide +kernel
theorem dX5_loses_3 : decode cX5_loses 3 = .ok (.aload_n 0, 1) := by decide +kernel
theorem dX5_loses_4 : decode cX5_loses 4 = .ok (.getfield 31, 3) := by decide +kernel
theorem dX5_loses_7 : decode cX5_loses 7 = .ok (.if_icmp .ge 21, 3) := by decide +kernel
theorem dX5_loses_10 : decode cX5_loses 10 = .ok (.aload_n 0, 1) := by decide +kernel
theorem dX5_loses_11 : decode cX5_loses 11 = .ok (.iload_n 2, 1) := by decide +kernel
theorem dX5_loses_12 : decode cX5_loses 12 = .ok (.iconst 4, 1) := by decide +kernel
theorem dX5_loses_13 : decode cX5_loses 13 = .ok (.iload_n 1, 1) := by decide +kernel
theorem dX5_loses_14 : decode cX5_loses 14 = .ok (.invokevirtual 56, 3) := by decide +kernel
theorem dX5_loses_17 : decode cX5_loses 17 = .ok (.ifCond .eq 5, 3) := by decide +kernel
theorem dX5_loses_20 : decode cX5_loses 20 = .ok (.iconst 1, 1) := by decide +kernel
theorem dX5_loses_21 : decode cX5_loses 21 = .ok (.ireturn, 1) := by decide +kernel
theorem dX5_loses_22 : decode cX5_loses 22 = .ok (.iinc 2 1, 3) := by decide +kernel
theorem dX5_loses_25 : decode cX5_loses 25 = .ok (.goto (-23), 3) := by decide +kernel
theorem dX5_loses_28 : decode cX5_loses 28 = .ok (.iconst 0, 1) := by decide +kernel
theorem dX5_loses_29 : decode cX5_loses 29 = .ok (.ireturn, 1) := by decide +kernel
set_option maxRecDepth 20000 in
theorem ggX5_lateness_X5_does : GoodIn wsX5_lateness wsX5_does := goodIn_r _ [7, 8, 9, 10, 11, 12, 13, 14, 15, 16, 17] (by decide +kernel) (by decide +kernel)
set_option maxRecDepth 20000 in
theorem gX5_lateness_X5_does : GoodIn wsX5_lateness (wsV RX5 56 RX5 yX5_does wsX5_does) := goodIn_app (goodIn_of _ (by decide +kernel)) ggX5_lateness_X5_does
theorem dX5_lateness_0 : decode cX5_lateness 0 = .ok (.iconst 0, 1) := by decide +kernel
theorem dX5_lateness_1 : decode cX5_lateness 1 = .ok (.istore_n 2, 1) := by decide +kernel
theorem dX5_lateness_2 : decode cX5_lateness 2 = .ok (.iconst 0, 1) := by decide +kernel
theorem dX5_lateness_3 : decode cX5_lateness 3 = .ok (.istore_n 3, 1) := by decide +kernel
theorem dX5_lateness_4 : decode cX5_lateness 4 = .ok (.iload_n 3, 1) := by decide +kernel
theorem dX5_lateness_5 : decode cX5_lateness 5 = .ok (.aload_n 0, 1) := by decide +kernel
theorem dX5_lateness_6 : decode cX5_lateness 6 = .ok (.getfield 31, 3) := by decide +kernel
theorem dX5_lateness_9 : decode cX5_lateness 9 = .ok (.if_icmp .ge 29, 3) := by decide +kernel
theorem dX5_lateness_12 : decode cX5_lateness 12 = .ok (.aload_n 0, 1) := by decide +kernel
theorem dX5_lateness_13 : decode cX5_lateness 13 = .ok (.iload_n 3, 1) := by decide +kernel
theorem dX5_lateness_14 : decode cX5_lateness 14 = .ok (.bipush 6, 2) := by decide +kernel
theorem dX5_lateness_16 : decode cX5_lateness 16 = .ok (.iload_n 1, 1) := by decide +kernel
theorem dX5_lateness_17 : decode cX5_lateness 17 = .ok (.invokevirtual 56, 3) := by decide +kernel
theorem dX5_lateness_20 : decode cX5_lateness 20 = .ok (.ifCond .eq 12, 3) := by decide +kernel
theorem dX5_lateness_23 : decode cX5_lateness 23 = .ok (.iload_n 2, 1) := by decide +kernel
theorem dX5_lateness_24 : decode cX5_lateness 24 = .ok (.aload_n 0, 1) := by decide +kernel
theorem dX5_lateness_25 : decode cX5_lateness 25 = .ok (.getfield 21, 3) := by decide +kernel
theorem dX5_lateness_28 : decode cX5_lateness 28 = .ok (.iload_n 3, 1) := by decide +kernel
theorem dX5_lateness_29 : decode cX5_lateness 29 = .ok (.iaload, 1) := by decide +kernel
theorem dX5_lateness_30 : decode cX5_lateness 30 = .ok (.iadd, 1) := by decide +kernel
theorem dX5_lateness_31 : decode cX5_lateness 31 = .ok (.istore_n 2, 1) := by decide +kernel
theorem dX5_lateness_32 : decode cX5_lateness 32 = .ok (.iinc 3 1, 3) := by decide +kernel
theorem dX5_lateness_35 : decode cX5_lateness 35 = .ok (.goto (-31), 3) := by decide +kernel
theorem dX5_lateness_38 : decode cX5_lateness 38 = .ok (.iload_n 2, 1) := by decide +kernel
theorem dX5_lateness_39 : decode cX5_lateness 39 = .ok (.ireturn, 1) := by decide +kernel
set_option maxRecDepth 20000 in
theorem ggX6_init_X2_init : GoodIn wsX6_init wsX2_init := goodIn_r _ [26, 27, 2, 3, 28, 29, 30, 31, 32, 33, 34, 35, 36, 96, 97, 98, 99] (by decide +kernel) (by decide +kernel)
set_option maxRecDepth 20000 in
theorem gX6_init_X2_init : GoodIn wsX6_init (wsX2_init) := ggX6_init_X2_init
set_option maxRecDepth 20000 in
theorem ggX6_init_X5_init : GoodIn wsX6_init wsX5_init := goodIn_r _ [38, 39, 2, 3, 28, 40, 41, 42, 43, 44, 45, 46, 104, 105, 106, 107, 108, 109, 110] (by decide +kernel) (by decide +kernel)
set_option maxRecDepth 20000 in
theorem gX6_init_X5_init_n29 : GoodIn wsX6_init (wsX5_init) := ggX6_init_X5_init
set_option maxRecDepth 20000 in
theorem ggX6_init_X4_init : GoodIn wsX6_init wsX4_init := goodIn_r _ [49, 50, 2, 3, 51, 52, 53, 54, 55, 56, 57, 58, 28, 59, 44, 60, 61, 62, 63, 64, 65, 66, 67, 68, 69, 70, 71, 72, 73, 74, 75, 76, 77, 78, 79, 80, 81, 82, 83, 84, 85, 86, 87, 88, 89, 90, 91, 92, 93, 94, 95, 124, 125, 126, 127, 128, 111, 112, 113, 114, 115, 116, 117, 118, 119, 120, 121, 122, 123, 129, 130, 131, 132, 133, 134, 135, 136, 137, 138, 139, 140, 141, 142, 143, 144] (by decide +kernel) (by decide +kernel)
set_option maxRecDepth 20000 in
theorem gX6_init_X4_init : GoodIn wsX6_init (wsX4_init) := ggX6_init_X4_init
theorem dX6_init_0 : decode cX6_init 0 = .ok (.aload_n 0, 1) := by decide +kernel
theorem dX6_init_1 : decode cX6_init 1 = .ok (.invokespecial 3, 3) := by decide +kernel
theorem dX6_init_4 : decode cX6_init 4 = .ok (.aload_n 0, 1) := by decide +kernel
theorem dX6_init_5 : decode cX6_init 5 = .ok (.new 9, 3) := by decide +kernel
theorem dX6_init_8 : decode cX6_init 8 = .ok (.dup, 1) := by decide +kernel
theorem dX6_init_9 : decode cX6_init 9 = .ok (.iconst 2, 1) := by decide +kernel
theorem dX6_init_10 : decode cX6_init 10 = .ok (.bipush 6, 2) := by decide +kernel
theorem dX6_init_12 : decode cX6_init 12 = .ok (.iload_n 1, 1) := by decide +kernel
theorem dX6_init_13 : decode cX6_init 13 = .ok (.invokestatic 11, 3) := by decide +kernel
theorem dX6_init_16 : decode cX6_init 16 = .ok (.invokestatic 17, 3) := by decide +kernel
theorem dX6_init_19 : decode cX6_init 19 = .ok (.invokespecial 20, 3) := by decide +kernel
theorem dX6_init_22 : decode cX6_init 22 = .ok (.putfield 23, 3) := by decide +kernel
theorem dX6_init_25 : decode cX6_init 25 = .ok (.aload_n 0, 1) := by decide +kernel
theorem dX6_init_26 : decode cX6_init 26 = .ok (.new 27, 3) := by decide +kernel
theorem dX6_init_29 : decode cX6_init 29 = .ok (.dup, 1) := by decide +kernel
theorem dX6_init_30 : decode cX6_init 30 = .ok (.invokespecial 29, 3) := by decide +kernel
theorem dX6_init_33 : decode cX6_init 33 = .ok (.putfield 30, 3) := by decide +kernel
theorem dX6_init_36 : decode cX6_init 36 = .ok (.aload_n 0, 1) := by decide +kernel
theorem dX6_init_37 : decode cX6_init 37 = .ok (.new 34, 3) := by decide +kernel
theorem dX6_init_40 : decode cX6_init 40 = .ok (.dup, 1) := by decide +kernel
theorem dX6_init_41 : decode cX6_init 41 = .ok (.aload_n 0, 1) := by decide +kernel
theorem dX6_init_42 : decode cX6_init 42 = .ok (.getfield 23, 3) := by decide +kernel
theorem dX6_init_45 : decode cX6_init 45 = .ok (.aload_n 0, 1) := by decide +kernel
theorem dX6_init_46 : decode cX6_init 46 = .ok (.getfield 30, 3) := by decide +kernel
theorem dX6_init_49 : decode cX6_init 49 = .ok (.iconst 0, 1) := by decide +kernel
theorem dX6_init_50 : decode cX6_init 50 = .ok (.invokespecial 36, 3) := by decide +kernel
theorem dX6_init_53 : decode cX6_init 53 = .ok (.putfield 39, 3) := by decide +kernel
theorem dX6_init_56 : decode cX6_init 56 = .ok (.aload_n 0, 1) := by decide +kernel
theorem dX6_init_57 : decode cX6_init 57 = .ok (.new 34, 3) := by decide +kernel
theorem dX6_init_60 : decode cX6_init 60 = .ok (.dup, 1) := by decide +kernel
theorem dX6_init_61 : decode cX6_init 61 = .ok (.aload_n 0, 1) := by decide +kernel
theorem dX6_init_62 : decode cX6_init 62 = .ok (.getfield 23, 3) := by decide +kernel
theorem dX6_init_65 : decode cX6_init 65 = .ok (.aload_n 0, 1) := by decide +kernel
theorem dX6_init_66 : decode cX6_init 66 = .ok (.getfield 30, 3) := by decide +kernel
theorem dX6_init_69 : decode cX6_init 69 = .ok (.iconst 1, 1) := by decide +kernel
theorem dX6_init_70 : decode cX6_init 70 = .ok (.invokespecial 36, 3) := by decide +kernel
theorem dX6_init_73 : decode cX6_init 73 = .ok (.putfield 43, 3) := by decide +kernel
theorem dX6_init_76 : decode cX6_init 76 = .ok (.return_, 1) := by decide +kernel
set_option maxRecDepth 20000 in
theorem ggX6_behaviour_X2_has : GoodIn wsX6_behaviour wsX2_has := goodIn_r _ [7, 8, 13, 14, 15, 16] (by decide +kernel) (by decide +kernel)
set_option maxRecDepth 20000 in
theorem gX6_behaviour_X2_has : GoodIn wsX6_behaviour (wsV RX6 46 RX2 yX2_has wsX2_has) := goodIn_app (goodIn_of _ (by decide +kernel)) ggX6_behaviour_X2_has
theorem dX6_behaviour_0 : decode cX6_behaviour 0 = .ok (.aload_n 0, 1) := by decide +kernel
theorem dX6_behaviour_1 : decode cX6_behaviour 1 = .ok (.getfield 23, 3) := by decide +kernel
theorem dX6_behaviour_4 : decode cX6_behaviour 4 = .ok (.iload_n 1, 1) := by decide +kernel
theorem dX6_behaviour_5 : decode cX6_behaviour 5 = .ok (.invokevirtual 46, 3) := by decide +kernel
theorem dX6_behaviour_8 : decode cX6_behaviour 8 = .ok (.ifCond .ne 6, 3) := by decide +kernel
theorem dX6_behaviour_11 : decode cX6_behaviour 11 = .ok (.bipush (-2), 2) := by decide +kernel
theorem dX6_behaviour_13 : decode cX6_behaviour 13 = .ok (.ireturn, 1) := by decide +kernel
theorem dX6_behaviour_14 : decode cX6_behaviour 14 = .ok (.iload_n 2, 1) := by decide +kernel
theorem dX6_behaviour_15 : decode cX6_behaviour 15 = .ok (.ifCond .lt 8, 3) := by decide +kernel
theorem dX6_behaviour_18 : decode cX6_behaviour 18 = .ok (.iload_n 2, 1) := by decide +kernel
theorem dX6_behaviour_19 : decode cX6_behaviour 19 = .ok (.iconst 3, 1) := by decide +kernel
theorem dX6_behaviour_20 : decode cX6_behaviour 20 = .ok (.if_icmp .le 6, 3) := by decide +kernel
theorem dX6_behaviour_23 : decode cX6_behaviour 23 = .ok (.bipush (-3), 2) := by decide +kernel
theorem dX6_behaviour_25 : decode cX6_behaviour 25 = .ok (.ireturn, 1) := by decide +kernel
theorem dX6_behaviour_26 : decode cX6_behaviour 26 = .ok (.aload_n 0, 1) := by decide +kernel
theorem dX6_behaviour_27 : decode cX6_behaviour 27 = .ok (.getfield 23, 3) := by decide +kernel
theorem dX6_behaviour_30 : decode cX6_behaviour 30 = .ok (.getfield 50, 3) := by decide +kernel
theorem dX6_behaviour_33 : decode cX6_behaviour 33 = .ok (.iload_n 1, 1) := by decide +kernel
theorem dX6_behaviour_34 : decode cX6_behaviour 34 = .ok (.iaload, 1) := by decide +kernel
theorem dX6_behaviour_35 : decode cX6_behaviour 35 = .ok (.istore_n 3, 1) := by decide +kernel
theorem dX6_behaviour_36 : decode cX6_behaviour 36 = .ok (.aload_n 0, 1) := by decide +kernel
theorem dX6_behaviour_37 : decode cX6_behaviour 37 = .ok (.getfield 23, 3) := by decide +kernel
theorem dX6_behaviour_40 : decode cX6_behaviour 40 = .ok (.getfield 50, 3) := by decide +kernel
theorem dX6_behaviour_43 : decode cX6_behaviour 43 = .ok (.iload_n 1, 1) := by decide +kernel
theorem dX6_behaviour_44 : decode cX6_behaviour 44 = .ok (.iload_n 2, 1) := by decide +kernel
theorem dX6_behaviour_45 : decode cX6_behaviour 45 = .ok (.iastore, 1) := by decide +kernel
theorem dX6_behaviour_46 : decode cX6_behaviour 46 = .ok (.iload_n 3, 1) := by decide +kernel
theorem dX6_behaviour_47 : decode cX6_behaviour 47 = .ok (.ireturn, 1) := by decide +kernel
set_option maxRecDepth 20000 in
theorem ggX6_delay_X2_has : GoodIn wsX6_delay wsX2_has := goodIn_r _ [7, 8, 20, 21, 22, 23] (by decide +kernel) (by decide +kernel)
set_option maxRecDepth 20000 in
theorem gX6_delay_X2_has : GoodIn wsX6_delay (wsV RX6 46 RX2 yX2_has wsX2_has) := goodIn_app (goodIn_of _ (by decide +kernel)) ggX6_delay_X2_has
set_option maxRecDepth 20000 in
theorem ggX6_delay_X6_isWait : GoodIn wsX6_delay wsX6_isWait := goodIn_r _ [12] (by decide +kernel) (by decide +kernel)
set_option maxRecDepth 20000 in
theorem gX6_delay_X6_isWait : GoodIn wsX6_delay (va_wsS RX6 54 yX6_isWait wsX6_isWait) := goodIn_app (goodIn_of _ (by decide +kernel)) ggX6_delay_X6_isWait
set_option maxRecDepth 20000 in
theorem ggX6_delay_X6_pair : GoodIn wsX6_delay wsX6_pair := goodIn_r _ [15] (by decide +kernel) (by decide +kernel)
set_option maxRecDepth 20000 in
theorem gX6_delay_X6_pair : GoodIn wsX6_delay (va_wsS RX6 60 yX6_pair wsX6_pair) := goodIn_app (goodIn_of _ (by decide +kernel)) ggX6_delay_X6_pair
end
section
theorem dX6_delay_0 : decode cX6_delay 0 = .ok (.aload_n 0, 1) := by decide +kernel
theorem dX6_delay_1 : decode cX6_delay 1 = .ok (.getfield 23, 3) := by decide +kernel
theorem dX6_delay_4 : decode cX6_delay 4 = .ok (.iload_n 1, 1) := by decide +kernel
theorem dX6_delay_5 : decode cX6_delay 5 = .ok (.invokevirtual 46, 3) := by decide +kernel
theorem dX6_delay_8 : decode cX6_delay 8 = .ok (.ifCond .eq 19, 3) := by decide +kernel
theorem dX6_delay_11 : decode cX6_delay 11 = .ok (.aload_n 0, 1) := by decide +kernel
theorem dX6_delay_12 : decode cX6_delay 12 = .ok (.getfield 23, 3) := by decide +kernel
theorem dX6_delay_15 : decode cX6_delay 15 = .ok (.iload_n 2, 1) := by decide +kernel
theorem dX6_delay_16 : decode cX6_delay 16 = .ok (.invokevirtual 46, 3) := by decide +kernel
theorem dX6_delay_19 : decode cX6_delay 19 = .ok (.ifCond .eq 8, 3) := by decide +kernel
theorem dX6_delay_22 : decode cX6_delay 22 = .ok (.iload_n 1, 1) := by decide +kernel
theorem dX6_delay_23 : decode cX6_delay 23 = .ok (.iload_n 2, 1) := by decide +kernel
theorem dX6_delay_24 : decode cX6_delay 24 = .ok (.if_icmp .ne 6, 3) := by decide +kernel
theorem dX6_delay_27 : decode cX6_delay 27 = .ok (.bipush (-2), 2) := by decide +kernel
theorem dX6_delay_29 : decode cX6_delay 29 = .ok (.ireturn, 1) := by decide +kernel
theorem dX6_delay_30 : decode cX6_delay 30 = .ok (.iload_n 3, 1) := by decide +kernel
theorem dX6_delay_31 : decode cX6_delay 31 = .ok (.invokestatic 54, 3) := by decide +kernel
theorem dX6_delay_34 : decode cX6_delay 34 = .ok (.ifCond .ne 6, 3) := by decide +kernel
theorem dX6_delay_37 : decode cX6_delay 37 = .ok (.bipush (-3), 2) := by decide +kernel
theorem dX6_delay_39 : decode cX6_delay 39 = .ok (.ireturn, 1) := by decide +kernel
theorem dX6_delay_40 : decode cX6_delay 40 = .ok (.aload_n 0, 1) := by decide +kernel
theorem dX6_delay_41 : decode cX6_delay 41 = .ok (.getfield 23, 3) := by decide +kernel
theorem dX6_delay_44 : decode cX6_delay 44 = .ok (.getfield 57, 3) := by decide +kernel
theorem dX6_delay_47 : decode cX6_delay 47 = .ok (.iload_n 1, 1) := by decide +kernel
theorem dX6_delay_48 : decode cX6_delay 48 = .ok (.iload_n 2, 1) := by decide +kernel
theorem dX6_delay_49 : decode cX6_delay 49 = .ok (.invokestatic 60, 3) := by decide +kernel
theorem dX6_delay_52 : decode cX6_delay 52 = .ok (.iaload, 1) := by decide +kernel
theorem dX6_delay_53 : decode cX6_delay 53 = .ok (.istore 4, 2) := by decide +kernel
theorem dX6_delay_55 : decode cX6_delay 55 = .ok (.aload_n 0, 1) := by decide +kernel
theorem dX6_delay_56 : decode cX6_delay 56 = .ok (.getfield 23, 3) := by decide +kernel
theorem dX6_delay_59 : decode cX6_delay 59 = .ok (.getfield 57, 3) := by decide +kernel
theorem dX6_delay_62 : decode cX6_delay 62 = .ok (.iload_n 1, 1) := by decide +kernel
theorem dX6_delay_63 : decode cX6_delay 63 = .ok (.iload_n 2, 1) := by decide +kernel
theorem dX6_delay_64 : decode cX6_delay 64 = .ok (.invokestatic 60, 3) := by decide +kernel
theorem dX6_delay_67 : decode cX6_delay 67 = .ok (.iload_n 3, 1) := by decide +kernel
theorem dX6_delay_68 : decode cX6_delay 68 = .ok (.iastore, 1) := by decide +kernel
theorem dX6_delay_69 : decode cX6_delay 69 = .ok (.iload 4, 2) := by decide +kernel
theorem dX6_delay_71 : decode cX6_delay 71 = .ok (.ireturn, 1) := by decide +kernel
set_option maxRecDepth 20000 in
theorem ggX6_tell_X2_has : GoodIn wsX6_tell wsX2_has := goodIn_r _ [7, 8, 24, 25, 26, 27] (by decide +kernel) (by decide +kernel)
set_option maxRecDepth 20000 in
theorem gX6_tell_X2_has : GoodIn wsX6_tell (wsV RX6 46 RX2 yX2_has wsX2_has) := goodIn_app (goodIn_of _ (by decide +kernel)) ggX6_tell_X2_has
set_option maxRecDepth 20000 in
theorem ggX6_tell_X6_isRumour : GoodIn wsX6_tell wsX6_isRumour := goodIn_r _ [12] (by decide +kernel) (by decide +kernel)
set_option maxRecDepth 20000 in
theorem gX6_tell_X6_isRumour : GoodIn wsX6_tell (va_wsS RX6 63 yX6_isRumour wsX6_isRumour) := goodIn_app (goodIn_of _ (by decide +kernel)) ggX6_tell_X6_isRumour
set_option maxRecDepth 20000 in
theorem ggX6_tell_J6_bitCount_0f7a4 : GoodIn wsX6_tell wsJ6_bitCount_0f7a4 := goodIn_r _ [16, 17, 18, 19] (by decide +kernel) (by decide +kernel)
set_option maxRecDepth 20000 in
theorem gX6_tell_J6_bitCount_0f7a4 : GoodIn wsX6_tell (va_wsS RX6 69 yJ6_bitCount_0f7a4 wsJ6_bitCount_0f7a4) := goodIn_app (goodIn_of _ (by decide +kernel)) ggX6_tell_J6_bitCount_0f7a4
theorem dX6_tell_0 : decode cX6_tell 0 = .ok (.aload_n 0, 1) := by decide +kernel
theorem dX6_tell_1 : decode cX6_tell 1 = .ok (.getfield 23, 3) := by decide +kernel
theorem dX6_tell_4 : decode cX6_tell 4 = .ok (.iload_n 1, 1) := by decide +kernel
theorem dX6_tell_5 : decode cX6_tell 5 = .ok (.invokevirtual 46, 3) := by decide +kernel
theorem dX6_tell_8 : decode cX6_tell 8 = .ok (.ifCond .eq 10, 3) := by decide +kernel
theorem dX6_tell_11 : decode cX6_tell 11 = .ok (.iload_n 2, 1) := by decide +kernel
theorem dX6_tell_12 : decode cX6_tell 12 = .ok (.invokestatic 63, 3) := by decide +kernel
theorem dX6_tell_15 : decode cX6_tell 15 = .ok (.ifCond .ne 6, 3) := by decide +kernel
theorem dX6_tell_18 : decode cX6_tell 18 = .ok (.bipush (-2), 2) := by decide +kernel
theorem dX6_tell_20 : decode cX6_tell 20 = .ok (.ireturn, 1) := by decide +kernel
theorem dX6_tell_21 : decode cX6_tell 21 = .ok (.aload_n 0, 1) := by decide +kernel
theorem dX6_tell_22 : decode cX6_tell 22 = .ok (.getfield 23, 3) := by decide +kernel
theorem dX6_tell_25 : decode cX6_tell 25 = .ok (.getfield 66, 3) := by decide +kernel
theorem dX6_tell_28 : decode cX6_tell 28 = .ok (.iload_n 1, 1) := by decide +kernel
theorem dX6_tell_29 : decode cX6_tell 29 = .ok (.dup2, 1) := by decide +kernel
theorem dX6_tell_30 : decode cX6_tell 30 = .ok (.iaload, 1) := by decide +kernel
theorem dX6_tell_31 : decode cX6_tell 31 = .ok (.iconst 1, 1) := by decide +kernel
theorem dX6_tell_32 : decode cX6_tell 32 = .ok (.iload_n 2, 1) := by decide +kernel
theorem dX6_tell_33 : decode cX6_tell 33 = .ok (.ishl, 1) := by decide +kernel
theorem dX6_tell_34 : decode cX6_tell 34 = .ok (.ior, 1) := by decide +kernel
theorem dX6_tell_35 : decode cX6_tell 35 = .ok (.iastore, 1) := by decide +kernel
theorem dX6_tell_36 : decode cX6_tell 36 = .ok (.aload_n 0, 1) := by decide +kernel
theorem dX6_tell_37 : decode cX6_tell 37 = .ok (.getfield 23, 3) := by decide +kernel
theorem dX6_tell_40 : decode cX6_tell 40 = .ok (.getfield 66, 3) := by decide +kernel
theorem dX6_tell_43 : decode cX6_tell 43 = .ok (.iload_n 1, 1) := by decide +kernel
theorem dX6_tell_44 : decode cX6_tell 44 = .ok (.iaload, 1) := by decide +kernel
theorem dX6_tell_45 : decode cX6_tell 45 = .ok (.invokestatic 69, 3) := by decide +kernel
theorem dX6_tell_48 : decode cX6_tell 48 = .ok (.ireturn, 1) := by decide +kernel
set_option maxRecDepth 20000 in
theorem ggX6_event_X6_namesNode : GoodIn wsX6_event wsX6_namesNode := goodIn_r _ [6] (by decide +kernel) (by decide +kernel)
set_option maxRecDepth 20000 in
theorem gX6_event_X6_namesNode : GoodIn wsX6_event (va_wsS RX6 75 yX6_namesNode wsX6_namesNode) := goodIn_app (goodIn_of _ (by decide +kernel)) ggX6_event_X6_namesNode
set_option maxRecDepth 20000 in
theorem ggX6_event_X2_has : GoodIn wsX6_event wsX2_has := goodIn_r _ [11, 12, 55, 56, 57, 58] (by decide +kernel) (by decide +kernel)
set_option maxRecDepth 20000 in
theorem gX6_event_X2_has : GoodIn wsX6_event (wsV RX6 46 RX2 yX2_has wsX2_has) := goodIn_app (goodIn_of _ (by decide +kernel)) ggX6_event_X2_has
set_option maxRecDepth 20000 in
theorem ggX6_event_X6_isTimed : GoodIn wsX6_event wsX6_isTimed := goodIn_r _ [15] (by decide +kernel) (by decide +kernel)
set_option maxRecDepth 20000 in
theorem gX6_event_X6_isTimed : GoodIn wsX6_event (va_wsS RX6 78 yX6_isTimed wsX6_isTimed) := goodIn_app (goodIn_of _ (by decide +kernel)) ggX6_event_X6_isTimed
set_option maxRecDepth 20000 in
theorem ggX6_event_X6_isTurn : GoodIn wsX6_event wsX6_isTurn := goodIn_r _ [18] (by decide +kernel) (by decide +kernel)
set_option maxRecDepth 20000 in
theorem gX6_event_X6_isTurn : GoodIn wsX6_event (va_wsS RX6 81 yX6_isTurn wsX6_isTurn) := goodIn_app (goodIn_of _ (by decide +kernel)) ggX6_event_X6_isTurn
set_option maxRecDepth 20000 in
theorem ggX6_event_X2_hasAllOf : GoodIn wsX6_event wsX2_hasAllOf := goodIn_r _ [22, 12, 55, 56, 57, 58] (by decide +kernel) (by decide +kernel)
set_option maxRecDepth 20000 in
theorem gX6_event_X2_hasAllOf : GoodIn wsX6_event (wsV RX6 84 RX2 yX2_hasAllOf wsX2_hasAllOf) := goodIn_app (goodIn_of _ (by decide +kernel)) ggX6_event_X2_hasAllOf
set_option maxRecDepth 20000 in
theorem ggX6_event_X6_namesLetter : GoodIn wsX6_event wsX6_namesLetter := goodIn_r _ [25] (by decide +kernel) (by decide +kernel)
set_option maxRecDepth 20000 in
theorem gX6_event_X6_namesLetter : GoodIn wsX6_event (va_wsS RX6 87 yX6_namesLetter wsX6_namesLetter) := goodIn_app (goodIn_of _ (by decide +kernel)) ggX6_event_X6_namesLetter
set_option maxRecDepth 20000 in
theorem ggX6_event_X6_isLetter : GoodIn wsX6_event wsX6_isLetter := goodIn_r _ [28] (by decide +kernel) (by decide +kernel)
set_option maxRecDepth 20000 in
theorem gX6_event_X6_isLetter : GoodIn wsX6_event (va_wsS RX6 90 yX6_isLetter wsX6_isLetter) := goodIn_app (goodIn_of _ (by decide +kernel)) ggX6_event_X6_isLetter
set_option maxRecDepth 20000 in
theorem ggX6_event_X6_hasWait : GoodIn wsX6_event wsX6_hasWait := goodIn_r _ [31] (by decide +kernel) (by decide +kernel)
set_option maxRecDepth 20000 in
theorem gX6_event_X6_hasWait : GoodIn wsX6_event (va_wsS RX6 93 yX6_hasWait wsX6_hasWait) := goodIn_app (goodIn_of _ (by decide +kernel)) ggX6_event_X6_hasWait
set_option maxRecDepth 20000 in
theorem ggX6_event_X6_isWait : GoodIn wsX6_event wsX6_isWait := goodIn_r _ [34] (by decide +kernel) (by decide +kernel)
set_option maxRecDepth 20000 in
theorem gX6_event_X6_isWait : GoodIn wsX6_event (va_wsS RX6 54 yX6_isWait wsX6_isWait) := goodIn_app (goodIn_of _ (by decide +kernel)) ggX6_event_X6_isWait
set_option maxRecDepth 20000 in
theorem ggX6_event_X5_add : GoodIn wsX6_event wsX5_add := goodIn_r _ [39, 40, 41, 42, 43, 44, 45, 46, 47, 48, 38, 49, 50, 24, 5, 25, 27, 28, 59, 60, 61, 62, 63, 64, 65] (by decide +kernel) (by decide +kernel)
set_option maxRecDepth 20000 in
theorem gX6_event_X5_add : GoodIn wsX6_event (wsV RX6 96 RX5 yX5_add wsX5_add) := goodIn_app (goodIn_of _ (by decide +kernel)) ggX6_event_X5_add
theorem dX6_event_0 : decode cX6_event 0 = .ok (.iload_n 1, 1) := by decide +kernel
theorem dX6_event_1 : decode cX6_event 1 = .ok (.ifCond .lt 27, 3) := by decide +kernel
theorem dX6_event_4 : decode cX6_event 4 = .ok (.iload_n 1, 1) := by decide +kernel
theorem dX6_event_5 : decode cX6_event 5 = .ok (.bipush 6, 2) := by decide +kernel
theorem dX6_event_7 : decode cX6_event 7 = .ok (.if_icmp .gt 21, 3) := by decide +kernel
theorem dX6_event_10 : decode cX6_event 10 = .ok (.iload_n 1, 1) := by decide +kernel
theorem dX6_event_11 : decode cX6_event 11 = .ok (.invokestatic 75, 3) := by decide +kernel
theorem dX6_event_14 : decode cX6_event 14 = .ok (.ifCond .eq 17, 3) := by decide +kernel
theorem dX6_event_17 : decode cX6_event 17 = .ok (.aload_n 0, 1) := by decide +kernel
theorem dX6_event_18 : decode cX6_event 18 = .ok (.getfield 23, 3) := by decide +kernel
theorem dX6_event_21 : decode cX6_event 21 = .ok (.iload_n 3, 1) := by decide +kernel
theorem dX6_event_22 : decode cX6_event 22 = .ok (.invokevirtual 46, 3) := by decide +kernel
theorem dX6_event_25 : decode cX6_event 25 = .ok (.ifCond .ne 6, 3) := by decide +kernel
theorem dX6_event_28 : decode cX6_event 28 = .ok (.bipush (-2), 2) := by decide +kernel
theorem dX6_event_30 : decode cX6_event 30 = .ok (.ireturn, 1) := by decide +kernel
theorem dX6_event_31 : decode cX6_event 31 = .ok (.iload_n 1, 1) := by decide +kernel
theorem dX6_event_32 : decode cX6_event 32 = .ok (.invokestatic 78, 3) := by decide +kernel
theorem dX6_event_35 : decode cX6_event 35 = .ok (.ifCond .eq 10, 3) := by decide +kernel
theorem dX6_event_38 : decode cX6_event 38 = .ok (.iload_n 2, 1) := by decide +kernel
theorem dX6_event_39 : decode cX6_event 39 = .ok (.invokestatic 81, 3) := by decide +kernel
theorem dX6_event_42 : decode cX6_event 42 = .ok (.ifCond .eq 18, 3) := by decide +kernel
theorem dX6_event_45 : decode cX6_event 45 = .ok (.iload_n 1, 1) := by decide +kernel
theorem dX6_event_46 : decode cX6_event 46 = .ok (.ifCond .ne 17, 3) := by decide +kernel
theorem dX6_event_49 : decode cX6_event 49 = .ok (.aload_n 0, 1) := by decide +kernel
theorem dX6_event_50 : decode cX6_event 50 = .ok (.getfield 23, 3) := by decide +kernel
theorem dX6_event_53 : decode cX6_event 53 = .ok (.iload_n 3, 1) := by decide +kernel
theorem dX6_event_54 : decode cX6_event 54 = .ok (.invokevirtual 84, 3) := by decide +kernel
theorem dX6_event_57 : decode cX6_event 57 = .ok (.ifCond .ne 6, 3) := by decide +kernel
theorem dX6_event_60 : decode cX6_event 60 = .ok (.bipush (-3), 2) := by decide +kernel
theorem dX6_event_62 : decode cX6_event 62 = .ok (.ireturn, 1) := by decide +kernel
theorem dX6_event_63 : decode cX6_event 63 = .ok (.iload_n 1, 1) := by decide +kernel
theorem dX6_event_64 : decode cX6_event 64 = .ok (.invokestatic 87, 3) := by decide +kernel
theorem dX6_event_67 : decode cX6_event 67 = .ok (.ifCond .eq 10, 3) := by decide +kernel
theorem dX6_event_70 : decode cX6_event 70 = .ok (.iload_n 3, 1) := by decide +kernel
theorem dX6_event_71 : decode cX6_event 71 = .ok (.invokestatic 90, 3) := by decide +kernel
theorem dX6_event_74 : decode cX6_event 74 = .ok (.ifCond .eq 18, 3) := by decide +kernel
theorem dX6_event_77 : decode cX6_event 77 = .ok (.iload_n 1, 1) := by decide +kernel
theorem dX6_event_78 : decode cX6_event 78 = .ok (.invokestatic 93, 3) := by decide +kernel
theorem dX6_event_81 : decode cX6_event 81 = .ok (.ifCond .eq 14, 3) := by decide +kernel
theorem dX6_event_84 : decode cX6_event 84 = .ok (.iload 4, 2) := by decide +kernel
theorem dX6_event_86 : decode cX6_event 86 = .ok (.invokestatic 54, 3) := by decide +kernel
theorem dX6_event_89 : decode cX6_event 89 = .ok (.ifCond .ne 6, 3) := by decide +kernel
theorem dX6_event_92 : decode cX6_event 92 = .ok (.bipush (-3), 2) := by decide +kernel
theorem dX6_event_94 : decode cX6_event 94 = .ok (.ireturn, 1) := by decide +kernel
theorem dX6_event_95 : decode cX6_event 95 = .ok (.aload_n 0, 1) := by decide +kernel
theorem dX6_event_96 : decode cX6_event 96 = .ok (.getfield 30, 3) := by decide +kernel
theorem dX6_event_99 : decode cX6_event 99 = .ok (.iload_n 1, 1) := by decide +kernel
theorem dX6_event_100 : decode cX6_event 100 = .ok (.iload_n 1, 1) := by decide +kernel
theorem dX6_event_101 : decode cX6_event 101 = .ok (.invokestatic 78, 3) := by decide +kernel
theorem dX6_event_104 : decode cX6_event 104 = .ok (.ifCond .eq 7, 3) := by decide +kernel
theorem dX6_event_107 : decode cX6_event 107 = .ok (.iload_n 2, 1) := by decide +kernel
theorem dX6_event_108 : decode cX6_event 108 = .ok (.goto 4, 3) := by decide +kernel
theorem dX6_event_111 : decode cX6_event 111 = .ok (.iconst 0, 1) := by decide +kernel
theorem dX6_event_112 : decode cX6_event 112 = .ok (.iload_n 1, 1) := by decide +kernel
theorem dX6_event_113 : decode cX6_event 113 = .ok (.iconst 1, 1) := by decide +kernel
theorem dX6_event_114 : decode cX6_event 114 = .ok (.if_icmp .ne 7, 3) := by decide +kernel
theorem dX6_event_117 : decode cX6_event 117 = .ok (.iconst 0, 1) := by decide +kernel
theorem dX6_event_118 : decode cX6_event 118 = .ok (.goto 4, 3) := by decide +kernel
theorem dX6_event_121 : decode cX6_event 121 = .ok (.iload_n 3, 1) := by decide +kernel
theorem dX6_event_122 : decode cX6_event 122 = .ok (.iload_n 1, 1) := by decide +kernel
theorem dX6_event_123 : decode cX6_event 123 = .ok (.invokestatic 93, 3) := by decide +kernel
theorem dX6_event_126 : decode cX6_event 126 = .ok (.ifCond .eq 8, 3) := by decide +kernel
theorem dX6_event_129 : decode cX6_event 129 = .ok (.iload 4, 2) := by decide +kernel
theorem dX6_event_131 : decode cX6_event 131 = .ok (.goto 4, 3) := by decide +kernel
theorem dX6_event_134 : decode cX6_event 134 = .ok (.iconst 0, 1) := by decide +kernel
theorem dX6_event_135 : decode cX6_event 135 = .ok (.invokevirtual 96, 3) := by decide +kernel
theorem dX6_event_138 : decode cX6_event 138 = .ok (.ireturn, 1) := by decide +kernel
set_option maxRecDepth 20000 in
theorem ggX6_drop_X5_has : GoodIn wsX6_drop wsX5_has := goodIn_r _ [7, 8, 33, 34, 35, 36, 37, 38, 39] (by decide +kernel) (by decide +kernel)
set_option maxRecDepth 20000 in
theorem gX6_drop_X5_has : GoodIn wsX6_drop (wsV RX6 100 RX5 yX5_has wsX5_has) := goodIn_app (goodIn_of _ (by decide +kernel)) ggX6_drop_X5_has
set_option maxRecDepth 20000 in
theorem ggX6_drop_X5_remove : GoodIn wsX6_drop wsX5_remove := goodIn_r _ [12, 8, 13, 14, 15, 16, 17, 18, 4, 5, 6, 7, 19, 20, 21, 22, 23, 24, 25, 26, 27, 28, 33, 34, 35, 36, 37, 38, 39] (by decide +kernel) (by decide +kernel)
set_option maxRecDepth 20000 in
theorem gX6_drop_X5_remove : GoodIn wsX6_drop (wsV RX6 101 RX5 yX5_remove wsX5_remove) := goodIn_app (goodIn_of _ (by decide +kernel)) ggX6_drop_X5_remove
theorem dX6_drop_0 : decode cX6_drop 0 = .ok (.aload_n 0, 1) := by decide +kernel
theorem dX6_drop_1 : decode cX6_drop 1 = .ok (.getfield 30, 3) := by decide +kernel
theorem dX6_drop_4 : decode cX6_drop 4 = .ok (.iload_n 1, 1) := by decide +kernel
theorem dX6_drop_5 : decode cX6_drop 5 = .ok (.invokevirtual 100, 3) := by decide +kernel
theorem dX6_drop_8 : decode cX6_drop 8 = .ok (.ifCond .ne 6, 3) := by decide +kernel
theorem dX6_drop_11 : decode cX6_drop 11 = .ok (.bipush (-2), 2) := by decide +kernel
theorem dX6_drop_13 : decode cX6_drop 13 = .ok (.ireturn, 1) := by decide +kernel
theorem dX6_drop_14 : decode cX6_drop 14 = .ok (.aload_n 0, 1) := by decide +kernel
theorem dX6_drop_15 : decode cX6_drop 15 = .ok (.getfield 30, 3) := by decide +kernel
theorem dX6_drop_18 : decode cX6_drop 18 = .ok (.iload_n 1, 1) := by decide +kernel
theorem dX6_drop_19 : decode cX6_drop 19 = .ok (.invokevirtual 101, 3) := by decide +kernel
theorem dX6_drop_22 : decode cX6_drop 22 = .ok (.aload_n 0, 1) := by decide +kernel
theorem dX6_drop_23 : decode cX6_drop 23 = .ok (.getfield 30, 3) := by decide +kernel
theorem dX6_drop_26 : decode cX6_drop 26 = .ok (.getfield 104, 3) := by decide +kernel
theorem dX6_drop_29 : decode cX6_drop 29 = .ok (.ireturn, 1) := by decide +kernel
set_option maxRecDepth 20000 in
theorem ggX6_told_X5_has : GoodIn wsX6_told wsX5_has := goodIn_r _ [10, 11, 16, 17, 18, 19, 20, 21, 22] (by decide +kernel) (by decide +kernel)
set_option maxRecDepth 20000 in
theorem gX6_told_X5_has : GoodIn wsX6_told (wsV RX6 100 RX5 yX5_has wsX5_has) := goodIn_app (goodIn_of _ (by decide +kernel)) ggX6_told_X5_has
theorem dX6_told_0 : decode cX6_told 0 = .ok (.aload_n 0, 1) := by decide +kernel
theorem dX6_told_1 : decode cX6_told 1 = .ok (.getfield 30, 3) := by decide +kernel
theorem dX6_told_4 : decode cX6_told 4 = .ok (.iload_n 1, 1) := by decide +kernel
theorem dX6_told_5 : decode cX6_told 5 = .ok (.invokevirtual 100, 3) := by decide +kernel
theorem dX6_told_8 : decode cX6_told 8 = .ok (.ifCond .ne 6, 3) := by decide +kernel
theorem dX6_told_11 : decode cX6_told 11 = .ok (.bipush (-2), 2) := by decide +kernel
theorem dX6_told_13 : decode cX6_told 13 = .ok (.ireturn, 1) := by decide +kernel
theorem dX6_told_14 : decode cX6_told 14 = .ok (.iload_n 2, 1) := by decide +kernel
theorem dX6_told_15 : decode cX6_told 15 = .ok (.tableswitch 69 0 3 #[29, 39, 49, 59], 29) := by decide +kernel
theorem dX6_told_44 : decode cX6_told 44 = .ok (.aload_n 0, 1) := by decide +kernel
theorem dX6_told_45 : decode cX6_told 45 = .ok (.getfield 30, 3) := by decide +kernel
theorem dX6_told_48 : decode cX6_told 48 = .ok (.getfield 108, 3) := by decide +kernel
theorem dX6_told_51 : decode cX6_told 51 = .ok (.iload_n 1, 1) := by decide +kernel
theorem dX6_told_52 : decode cX6_told 52 = .ok (.iaload, 1) := by decide +kernel
theorem dX6_told_53 : decode cX6_told 53 = .ok (.ireturn, 1) := by decide +kernel
theorem dX6_told_54 : decode cX6_told 54 = .ok (.aload_n 0, 1) := by decide +kernel
theorem dX6_told_55 : decode cX6_told 55 = .ok (.getfield 30, 3) := by decide +kernel
theorem dX6_told_58 : decode cX6_told 58 = .ok (.getfield 111, 3) := by decide +kernel
theorem dX6_told_61 : decode cX6_told 61 = .ok (.iload_n 1, 1) := by decide +kernel
theorem dX6_told_62 : decode cX6_told 62 = .ok (.iaload, 1) := by decide +kernel
theorem dX6_told_63 : decode cX6_told 63 = .ok (.ireturn, 1) := by decide +kernel
theorem dX6_told_64 : decode cX6_told 64 = .ok (.aload_n 0, 1) := by decide +kernel
theorem dX6_told_65 : decode cX6_told 65 = .ok (.getfield 30, 3) := by decide +kernel
theorem dX6_told_68 : decode cX6_told 68 = .ok (.getfield 114, 3) := by decide +kernel
theorem dX6_told_71 : decode cX6_told 71 = .ok (.iload_n 1, 1) := by decide +kernel
theorem dX6_told_72 : decode cX6_told 72 = .ok (.iaload, 1) := by decide +kernel
theorem dX6_told_73 : decode cX6_told 73 = .ok (.ireturn, 1) := by decide +kernel
theorem dX6_told_74 : decode cX6_told 74 = .ok (.aload_n 0, 1) := by decide +kernel
theorem dX6_told_75 : decode cX6_told 75 = .ok (.getfield 30, 3) := by decide +kernel
theorem dX6_told_78 : decode cX6_told 78 = .ok (.getfield 117, 3) := by decide +kernel
theorem dX6_told_81 : decode cX6_told 81 = .ok (.iload_n 1, 1) := by decide +kernel
theorem dX6_told_82 : decode cX6_told 82 = .ok (.iaload, 1) := by decide +kernel
theorem dX6_told_83 : decode cX6_told 83 = .ok (.ireturn, 1) := by decide +kernel
theorem dX6_told_84 : decode cX6_told 84 = .ok (.bipush (-2), 2) := by decide +kernel
theorem dX6_told_86 : decode cX6_told 86 = .ok (.ireturn, 1) := by decide +kernel
set_option maxRecDepth 20000 in
theorem ggX6_play_X4_run : GoodIn wsX6_play wsX4_run := goodIn_r _ [7, 8, 9, 10, 11, 12, 13, 14, 6, 15, 16, 17, 18, 19, 20, 21, 22, 23, 24, 25, 26, 27, 28, 29, 30, 31, 32, 33, 34, 35, 36, 37, 38, 39, 40, 41, 42, 43, 44, 45, 46, 47, 48, 49, 50, 51, 52, 53, 54, 55, 56, 57, 58, 59, 60, 61, 62, 63, 64, 65, 66, 67, 68, 69, 70, 71, 72, 73, 74, 75, 76, 77, 78, 79, 80, 81, 82, 83, 84, 85, 86, 87, 88, 89, 90, 91, 92, 93, 94, 95, 96, 97, 98, 99, 100, 101, 102, 103, 104, 105, 106, 107, 108, 109, 110, 111, 112, 113, 114, 115, 116, 117, 118, 119, 120, 121, 122, 123, 124, 125, 126, 127, 128, 129, 130, 131, 132, 133, 134, 135, 136, 137, 138, 139, 140, 141, 142, 143, 144, 145, 146, 147, 148, 149, 150, 151, 152, 153, 154, 155, 156, 157, 158, 159, 160, 161, 162, 163, 164, 165, 166, 167, 168, 169, 170, 171, 172, 173, 174, 175, 176, 177, 178, 179, 180, 181, 182, 183, 184, 185, 186, 187, 188, 189, 190, 191, 192, 193, 194, 195, 196, 197, 198, 199, 200, 201, 202, 203, 204, 205, 206, 207, 208, 209, 210, 211, 212, 213, 214, 215, 216, 217, 218, 219, 220, 221, 222, 223, 224, 225, 226, 227, 228, 229, 230, 231, 232, 233, 234, 235, 236, 237, 238, 239, 240, 241, 242, 243, 244, 253, 254, 255, 256, 257, 258, 259, 260, 261, 262, 263, 264, 265, 266, 267, 268, 269, 270, 271, 272, 273, 274, 275, 276, 277, 278, 279, 280, 281, 282, 283, 284, 285, 286, 287, 288, 289, 290, 291, 292, 293, 294, 295, 296, 297] (by decide +kernel) (by decide +kernel)
set_option maxRecDepth 20000 in
theorem gX6_play_X4_run : GoodIn wsX6_play (wsV RX6 120 RX4 yX4_run wsX4_run) := goodIn_app (goodIn_of _ (by decide +kernel)) ggX6_play_X4_run
set_option maxRecDepth 20000 in
theorem ggX6_play_X3_greatestHeight : GoodIn wsX6_play wsX3_greatestHeight := goodIn_r _ [248, 50, 51, 52, 134, 135, 18, 136, 280, 281, 282, 283, 284, 285, 286, 287, 288, 289, 290] (by decide +kernel) (by decide +kernel)
set_option maxRecDepth 20000 in
theorem gX6_play_X3_greatestHeight : GoodIn wsX6_play (wsV RX6 128 RX3 yX3_greatestHeight wsX3_greatestHeight) := goodIn_app (goodIn_of _ (by decide +kernel)) ggX6_play_X3_greatestHeight
theorem dX6_play_0 : decode cX6_play 0 = .ok (.iload_n 1, 1) := by decide +kernel
theorem dX6_play_1 : decode cX6_play 1 = .ok (.iconst 1, 1) := by decide +kernel
theorem dX6_play_2 : decode cX6_play 2 = .ok (.if_icmp .lt 9, 3) := by decide +kernel
theorem dX6_play_5 : decode cX6_play 5 = .ok (.iload_n 1, 1) := by decide +kernel
theorem dX6_play_6 : decode cX6_play 6 = .ok (.bipush 40, 2) := by decide +kernel
theorem dX6_play_8 : decode cX6_play 8 = .ok (.if_icmp .le 6, 3) := by decide +kernel
theorem dX6_play_11 : decode cX6_play 11 = .ok (.bipush (-3), 2) := by decide +kernel
theorem dX6_play_13 : decode cX6_play 13 = .ok (.ireturn, 1) := by decide +kernel
theorem dX6_play_14 : decode cX6_play 14 = .ok (.aload_n 0, 1) := by decide +kernel
theorem dX6_play_15 : decode cX6_play 15 = .ok (.getfield 39, 3) := by decide +kernel
theorem dX6_play_18 : decode cX6_play 18 = .ok (.iload_n 1, 1) := by decide +kernel
theorem dX6_play_19 : decode cX6_play 19 = .ok (.iconst 0, 1) := by decide +kernel
theorem dX6_play_20 : decode cX6_play 20 = .ok (.invokevirtual 120, 3) := by decide +kernel
theorem dX6_play_23 : decode cX6_play 23 = .ok (.pop, 1) := by decide +kernel
theorem dX6_play_24 : decode cX6_play 24 = .ok (.aload_n 0, 1) := by decide +kernel
theorem dX6_play_25 : decode cX6_play 25 = .ok (.getfield 39, 3) := by decide +kernel
theorem dX6_play_28 : decode cX6_play 28 = .ok (.getfield 124, 3) := by decide +kernel
theorem dX6_play_31 : decode cX6_play 31 = .ok (.invokevirtual 128, 3) := by decide +kernel
theorem dX6_play_34 : decode cX6_play 34 = .ok (.ireturn, 1) := by decide +kernel
set_option maxRecDepth 20000 in
theorem ggX6_height_X4_hasTurn : GoodIn wsX6_height wsX4_hasTurn := goodIn_r _ [8, 9, 24, 25, 26, 27, 28, 29, 30, 31, 32, 33, 34, 35, 36] (by decide +kernel) (by decide +kernel)
set_option maxRecDepth 20000 in
theorem gX6_height_X4_hasTurn : GoodIn wsX6_height (wsV RX6 134 RX4 yX4_hasTurn wsX4_hasTurn) := goodIn_app (goodIn_of _ (by decide +kernel)) ggX6_height_X4_hasTurn
set_option maxRecDepth 20000 in
theorem ggX6_height_X2_has : GoodIn wsX6_height wsX2_has := goodIn_r _ [14, 15, 37, 38, 39, 40] (by decide +kernel) (by decide +kernel)
set_option maxRecDepth 20000 in
theorem gX6_height_X2_has : GoodIn wsX6_height (wsV RX6 46 RX2 yX2_has wsX2_has) := goodIn_app (goodIn_of _ (by decide +kernel)) ggX6_height_X2_has
set_option maxRecDepth 20000 in
theorem ggX6_height_X6_place : GoodIn wsX6_height wsX6_place := goodIn_r _ [19] (by decide +kernel) (by decide +kernel)
set_option maxRecDepth 20000 in
theorem gX6_height_X6_place : GoodIn wsX6_height (va_wsS RX6 140 yX6_place wsX6_place) := goodIn_app (goodIn_of _ (by decide +kernel)) ggX6_height_X6_place
theorem dX6_height_0 : decode cX6_height 0 = .ok (.aload_n 0, 1) := by decide +kernel
theorem dX6_height_1 : decode cX6_height 1 = .ok (.getfield 39, 3) := by decide +kernel
theorem dX6_height_4 : decode cX6_height 4 = .ok (.iload_n 1, 1) := by decide +kernel
theorem dX6_height_5 : decode cX6_height 5 = .ok (.invokevirtual 134, 3) := by decide +kernel
theorem dX6_height_8 : decode cX6_height 8 = .ok (.ifCond .eq 14, 3) := by decide +kernel
theorem dX6_height_11 : decode cX6_height 11 = .ok (.aload_n 0, 1) := by decide +kernel
theorem dX6_height_12 : decode cX6_height 12 = .ok (.getfield 23, 3) := by decide +kernel
theorem dX6_height_15 : decode cX6_height 15 = .ok (.iload_n 2, 1) := by decide +kernel
theorem dX6_height_16 : decode cX6_height 16 = .ok (.invokevirtual 46, 3) := by decide +kernel
theorem dX6_height_19 : decode cX6_height 19 = .ok (.ifCond .ne 6, 3) := by decide +kernel
theorem dX6_height_22 : decode cX6_height 22 = .ok (.bipush (-2), 2) := by decide +kernel
theorem dX6_height_24 : decode cX6_height 24 = .ok (.ireturn, 1) := by decide +kernel
theorem dX6_height_25 : decode cX6_height 25 = .ok (.aload_n 0, 1) := by decide +kernel
theorem dX6_height_26 : decode cX6_height 26 = .ok (.getfield 39, 3) := by decide +kernel
theorem dX6_height_29 : decode cX6_height 29 = .ok (.getfield 137, 3) := by decide +kernel
theorem dX6_height_32 : decode cX6_height 32 = .ok (.iload_n 1, 1) := by decide +kernel
theorem dX6_height_33 : decode cX6_height 33 = .ok (.iload_n 2, 1) := by decide +kernel
theorem dX6_height_34 : decode cX6_height 34 = .ok (.invokestatic 140, 3) := by decide +kernel
theorem dX6_height_37 : decode cX6_height 37 = .ok (.iaload, 1) := by decide +kernel
theorem dX6_height_38 : decode cX6_height 38 = .ok (.ireturn, 1) := by decide +kernel
set_option maxRecDepth 20000 in
theorem ggX6_holds_X4_hasTurn : GoodIn wsX6_holds wsX4_hasTurn := goodIn_r _ [7, 8, 13, 14, 15, 16, 17, 18, 19, 20, 21, 22, 23, 24, 25] (by decide +kernel) (by decide +kernel)
set_option maxRecDepth 20000 in
theorem gX6_holds_X4_hasTurn : GoodIn wsX6_holds (wsV RX6 134 RX4 yX4_hasTurn wsX4_hasTurn) := goodIn_app (goodIn_of _ (by decide +kernel)) ggX6_holds_X4_hasTurn
theorem dX6_holds_0 : decode cX6_holds 0 = .ok (.aload_n 0, 1) := by decide +kernel
theorem dX6_holds_1 : decode cX6_holds 1 = .ok (.getfield 39, 3) := by decide +kernel
theorem dX6_holds_4 : decode cX6_holds 4 = .ok (.iload_n 1, 1) := by decide +kernel
theorem dX6_holds_5 : decode cX6_holds 5 = .ok (.invokevirtual 134, 3) := by decide +kernel
theorem dX6_holds_8 : decode cX6_holds 8 = .ok (.ifCond .ne 6, 3) := by decide +kernel
theorem dX6_holds_11 : decode cX6_holds 11 = .ok (.bipush (-2), 2) := by decide +kernel
theorem dX6_holds_13 : decode cX6_holds 13 = .ok (.ireturn, 1) := by decide +kernel
theorem dX6_holds_14 : decode cX6_holds 14 = .ok (.aload_n 0, 1) := by decide +kernel
theorem dX6_holds_15 : decode cX6_holds 15 = .ok (.getfield 39, 3) := by decide +kernel
theorem dX6_holds_18 : decode cX6_holds 18 = .ok (.getfield 143, 3) := by decide +kernel
theorem dX6_holds_21 : decode cX6_holds 21 = .ok (.iload_n 1, 1) := by decide +kernel
theorem dX6_holds_22 : decode cX6_holds 22 = .ok (.baload, 1) := by decide +kernel
theorem dX6_holds_23 : decode cX6_holds 23 = .ok (.ifCond .eq 7, 3) := by decide +kernel
theorem dX6_holds_26 : decode cX6_holds 26 = .ok (.iconst 1, 1) := by decide +kernel
theorem dX6_holds_27 : decode cX6_holds 27 = .ok (.goto 4, 3) := by decide +kernel
theorem dX6_holds_30 : decode cX6_holds 30 = .ok (.iconst 0, 1) := by decide +kernel
theorem dX6_holds_31 : decode cX6_holds 31 = .ok (.ireturn, 1) := by decide +kernel
theorem dX6_fails_0 : decode cX6_fails 0 = .ok (.aload_n 0, 1) := by decide +kernel
theorem dX6_fails_1 : decode cX6_fails 1 = .ok (.getfield 39, 3) := by decide +kernel
theorem dX6_fails_4 : decode cX6_fails 4 = .ok (.getfield 147, 3) := by decide +kernel
theorem dX6_fails_7 : decode cX6_fails 7 = .ok (.ifCond .ne 8, 3) := by decide +kernel
theorem dX6_fails_10 : decode cX6_fails 10 = .ok (.bipush (-4), 2) := by decide +kernel
theorem dX6_fails_12 : decode cX6_fails 12 = .ok (.goto 10, 3) := by decide +kernel
theorem dX6_fails_15 : decode cX6_fails 15 = .ok (.aload_n 0, 1) := by decide +kernel
theorem dX6_fails_16 : decode cX6_fails 16 = .ok (.getfield 39, 3) := by decide +kernel
theorem dX6_fails_19 : decode cX6_fails 19 = .ok (.getfield 149, 3) := by decide +kernel
theorem dX6_fails_22 : decode cX6_fails 22 = .ok (.ireturn, 1) := by decide +kernel
set_option maxRecDepth 20000 in
theorem ggX6_letter_X1_has : GoodIn wsX6_letter wsX1_has := goodIn_r _ [14, 15, 33, 34, 35, 36, 37, 38, 39, 40, 41] (by decide +kernel) (by decide +kernel)
set_option maxRecDepth 20000 in
theorem gX6_letter_X1_has : GoodIn wsX6_letter (wsV RX6 156 RX1 yX1_has wsX1_has) := goodIn_app (goodIn_of _ (by decide +kernel)) ggX6_letter_X1_has
theorem dX6_letter_0 : decode cX6_letter 0 = .ok (.aload_n 0, 1) := by decide +kernel
theorem dX6_letter_1 : decode cX6_letter 1 = .ok (.getfield 39, 3) := by decide +kernel
theorem dX6_letter_4 : decode cX6_letter 4 = .ok (.getfield 152, 3) := by decide +kernel
theorem dX6_letter_7 : decode cX6_letter 7 = .ok (.astore_n 3, 1) := by decide +kernel
theorem dX6_letter_8 : decode cX6_letter 8 = .ok (.aload_n 3, 1) := by decide +kernel
theorem dX6_letter_9 : decode cX6_letter 9 = .ok (.iload_n 1, 1) := by decide +kernel
theorem dX6_letter_10 : decode cX6_letter 10 = .ok (.invokevirtual 156, 3) := by decide +kernel
theorem dX6_letter_13 : decode cX6_letter 13 = .ok (.ifCond .ne 6, 3) := by decide +kernel
theorem dX6_letter_16 : decode cX6_letter 16 = .ok (.bipush (-2), 2) := by decide +kernel
theorem dX6_letter_18 : decode cX6_letter 18 = .ok (.ireturn, 1) := by decide +kernel
theorem dX6_letter_19 : decode cX6_letter 19 = .ok (.iload_n 2, 1) := by decide +kernel
theorem dX6_letter_20 : decode cX6_letter 20 = .ok (.tableswitch 93 0 6 #[44, 51, 58, 65, 72, 79, 86], 44) := by decide +kernel
theorem dX6_letter_64 : decode cX6_letter 64 = .ok (.aload_n 3, 1) := by decide +kernel
theorem dX6_letter_65 : decode cX6_letter 65 = .ok (.getfield 159, 3) := by decide +kernel
theorem dX6_letter_68 : decode cX6_letter 68 = .ok (.iload_n 1, 1) := by decide +kernel
theorem dX6_letter_69 : decode cX6_letter 69 = .ok (.iaload, 1) := by decide +kernel
theorem dX6_letter_70 : decode cX6_letter 70 = .ok (.ireturn, 1) := by decide +kernel
theorem dX6_letter_71 : decode cX6_letter 71 = .ok (.aload_n 3, 1) := by decide +kernel
theorem dX6_letter_72 : decode cX6_letter 72 = .ok (.getfield 162, 3) := by decide +kernel
theorem dX6_letter_75 : decode cX6_letter 75 = .ok (.iload_n 1, 1) := by decide +kernel
theorem dX6_letter_76 : decode cX6_letter 76 = .ok (.iaload, 1) := by decide +kernel
theorem dX6_letter_77 : decode cX6_letter 77 = .ok (.ireturn, 1) := by decide +kernel
theorem dX6_letter_78 : decode cX6_letter 78 = .ok (.aload_n 3, 1) := by decide +kernel
theorem dX6_letter_79 : decode cX6_letter 79 = .ok (.getfield 165, 3) := by decide +kernel
theorem dX6_letter_82 : decode cX6_letter 82 = .ok (.iload_n 1, 1) := by decide +kernel
theorem dX6_letter_83 : decode cX6_letter 83 = .ok (.iaload, 1) := by decide +kernel
theorem dX6_letter_84 : decode cX6_letter 84 = .ok (.ireturn, 1) := by decide +kernel
theorem dX6_letter_85 : decode cX6_letter 85 = .ok (.aload_n 3, 1) := by decide +kernel
theorem dX6_letter_86 : decode cX6_letter 86 = .ok (.getfield 166, 3) := by decide +kernel
theorem dX6_letter_89 : decode cX6_letter 89 = .ok (.iload_n 1, 1) := by decide +kernel
theorem dX6_letter_90 : decode cX6_letter 90 = .ok (.iaload, 1) := by decide +kernel
theorem dX6_letter_91 : decode cX6_letter 91 = .ok (.ireturn, 1) := by decide +kernel
theorem dX6_letter_92 : decode cX6_letter 92 = .ok (.aload_n 3, 1) := by decide +kernel
theorem dX6_letter_93 : decode cX6_letter 93 = .ok (.getfield 167, 3) := by decide +kernel
theorem dX6_letter_96 : decode cX6_letter 96 = .ok (.iload_n 1, 1) := by decide +kernel
theorem dX6_letter_97 : decode cX6_letter 97 = .ok (.iaload, 1) := by decide +kernel
theorem dX6_letter_98 : decode cX6_letter 98 = .ok (.ireturn, 1) := by decide +kernel
theorem dX6_letter_99 : decode cX6_letter 99 = .ok (.aload_n 3, 1) := by decide +kernel
theorem dX6_letter_100 : decode cX6_letter 100 = .ok (.getfield 168, 3) := by decide +kernel
theorem dX6_letter_103 : decode cX6_letter 103 = .ok (.iload_n 1, 1) := by decide +kernel
theorem dX6_letter_104 : decode cX6_letter 104 = .ok (.iaload, 1) := by decide +kernel
theorem dX6_letter_105 : decode cX6_letter 105 = .ok (.ireturn, 1) := by decide +kernel
theorem dX6_letter_106 : decode cX6_letter 106 = .ok (.aload_n 3, 1) := by decide +kernel
theorem dX6_letter_107 : decode cX6_letter 107 = .ok (.getfield 171, 3) := by decide +kernel
theorem dX6_letter_110 : decode cX6_letter 110 = .ok (.iload_n 1, 1) := by decide +kernel
theorem dX6_letter_111 : decode cX6_letter 111 = .ok (.iaload, 1) := by decide +kernel
theorem dX6_letter_112 : decode cX6_letter 112 = .ok (.ireturn, 1) := by decide +kernel
theorem dX6_letter_113 : decode cX6_letter 113 = .ok (.bipush (-2), 2) := by decide +kernel
theorem dX6_letter_115 : decode cX6_letter 115 = .ok (.ireturn, 1) := by decide +kernel
set_option maxRecDepth 20000 in
theorem ggX6_reached_X6_isRumour : GoodIn wsX6_reached wsX6_isRumour := goodIn_r _ [7] (by decide +kernel) (by decide +kernel)
set_option maxRecDepth 20000 in
theorem gX6_reached_X6_isRumour : GoodIn wsX6_reached (va_wsS RX6 63 yX6_isRumour wsX6_isRumour) := goodIn_app (goodIn_of _ (by decide +kernel)) ggX6_reached_X6_isRumour
set_option maxRecDepth 20000 in
theorem ggX6_reached_X3_thatKnow : GoodIn wsX6_reached wsX3_thatKnow := goodIn_r _ [12, 13, 14, 15, 33, 34, 35, 36, 37, 38, 39, 40, 41, 42, 43] (by decide +kernel) (by decide +kernel)
set_option maxRecDepth 20000 in
theorem gX6_reached_X3_thatKnow : GoodIn wsX6_reached (wsV RX6 174 RX3 yX3_thatKnow wsX3_thatKnow) := goodIn_app (goodIn_of _ (by decide +kernel)) ggX6_reached_X3_thatKnow
theorem dX6_reached_0 : decode cX6_reached 0 = .ok (.iload_n 1, 1) := by decide +kernel
theorem dX6_reached_1 : decode cX6_reached 1 = .ok (.invokestatic 63, 3) := by decide +kernel
theorem dX6_reached_4 : decode cX6_reached 4 = .ok (.ifCond .ne 6, 3) := by decide +kernel
theorem dX6_reached_7 : decode cX6_reached 7 = .ok (.bipush (-2), 2) := by decide +kernel
theorem dX6_reached_9 : decode cX6_reached 9 = .ok (.ireturn, 1) := by decide +kernel
theorem dX6_reached_10 : decode cX6_reached 10 = .ok (.aload_n 0, 1) := by decide +kernel
theorem dX6_reached_11 : decode cX6_reached 11 = .ok (.getfield 39, 3) := by decide +kernel
theorem dX6_reached_14 : decode cX6_reached 14 = .ok (.getfield 147, 3) := by decide +kernel
theorem dX6_reached_17 : decode cX6_reached 17 = .ok (.ifCond .ne 8, 3) := by decide +kernel
theorem dX6_reached_20 : decode cX6_reached 20 = .ok (.bipush (-4), 2) := by decide +kernel
theorem dX6_reached_22 : decode cX6_reached 22 = .ok (.goto 14, 3) := by decide +kernel
theorem dX6_reached_25 : decode cX6_reached 25 = .ok (.aload_n 0, 1) := by decide +kernel
theorem dX6_reached_26 : decode cX6_reached 26 = .ok (.getfield 39, 3) := by decide +kernel
theorem dX6_reached_29 : decode cX6_reached 29 = .ok (.getfield 124, 3) := by decide +kernel
theorem dX6_reached_32 : decode cX6_reached 32 = .ok (.iload_n 1, 1) := by decide +kernel
theorem dX6_reached_33 : decode cX6_reached 33 = .ok (.invokevirtual 174, 3) := by decide +kernel
theorem dX6_reached_36 : decode cX6_reached 36 = .ok (.ireturn, 1) := by decide +kernel
set_option maxRecDepth 20000 in
theorem ggX6_bytes_X2_has : GoodIn wsX6_bytes wsX2_has := goodIn_r _ [9, 10, 43, 44, 45, 46] (by decide +kernel) (by decide +kernel)
set_option maxRecDepth 20000 in
theorem gX6_bytes_X2_has : GoodIn wsX6_bytes (wsV RX6 46 RX2 yX2_has wsX2_has) := goodIn_app (goodIn_of _ (by decide +kernel)) ggX6_bytes_X2_has
set_option maxRecDepth 20000 in
theorem ggX6_bytes_X1_bytesFrom : GoodIn wsX6_bytes wsX1_bytesFrom := goodIn_r _ [15, 16, 17, 18, 19, 20, 21, 22, 23, 24, 25, 47, 48, 49, 50, 51, 52, 53, 54, 55] (by decide +kernel) (by decide +kernel)
set_option maxRecDepth 20000 in
theorem gX6_bytes_X1_bytesFrom : GoodIn wsX6_bytes (wsV RX6 177 RX1 yX1_bytesFrom wsX1_bytesFrom) := goodIn_app (goodIn_of _ (by decide +kernel)) ggX6_bytes_X1_bytesFrom
theorem dX6_bytes_0 : decode cX6_bytes 0 = .ok (.aload_n 0, 1) := by decide +kernel
theorem dX6_bytes_1 : decode cX6_bytes 1 = .ok (.getfield 23, 3) := by decide +kernel
theorem dX6_bytes_4 : decode cX6_bytes 4 = .ok (.iload_n 1, 1) := by decide +kernel
theorem dX6_bytes_5 : decode cX6_bytes 5 = .ok (.invokevirtual 46, 3) := by decide +kernel
theorem dX6_bytes_8 : decode cX6_bytes 8 = .ok (.ifCond .ne 6, 3) := by decide +kernel
theorem dX6_bytes_11 : decode cX6_bytes 11 = .ok (.bipush (-2), 2) := by decide +kernel
theorem dX6_bytes_13 : decode cX6_bytes 13 = .ok (.ireturn, 1) := by decide +kernel
theorem dX6_bytes_14 : decode cX6_bytes 14 = .ok (.aload_n 0, 1) := by decide +kernel
theorem dX6_bytes_15 : decode cX6_bytes 15 = .ok (.getfield 39, 3) := by decide +kernel
theorem dX6_bytes_18 : decode cX6_bytes 18 = .ok (.getfield 147, 3) := by decide +kernel
theorem dX6_bytes_21 : decode cX6_bytes 21 = .ok (.ifCond .ne 8, 3) := by decide +kernel
theorem dX6_bytes_24 : decode cX6_bytes 24 = .ok (.bipush (-4), 2) := by decide +kernel
theorem dX6_bytes_26 : decode cX6_bytes 26 = .ok (.goto 14, 3) := by decide +kernel
theorem dX6_bytes_29 : decode cX6_bytes 29 = .ok (.aload_n 0, 1) := by decide +kernel
theorem dX6_bytes_30 : decode cX6_bytes 30 = .ok (.getfield 39, 3) := by decide +kernel
theorem dX6_bytes_33 : decode cX6_bytes 33 = .ok (.getfield 152, 3) := by decide +kernel
theorem dX6_bytes_36 : decode cX6_bytes 36 = .ok (.iload_n 1, 1) := by decide +kernel
theorem dX6_bytes_37 : decode cX6_bytes 37 = .ok (.invokevirtual 177, 3) := by decide +kernel
theorem dX6_bytes_40 : decode cX6_bytes 40 = .ok (.ireturn, 1) := by decide +kernel
set_option maxRecDepth 20000 in
theorem ggX6_shrink_X4_run : GoodIn wsX6_shrink wsX4_run := goodIn_r _ [11, 12, 13, 14, 15, 16, 17, 18, 10, 19, 20, 21, 22, 23, 24, 25, 26, 27, 28, 29, 30, 31, 32, 33, 34, 35, 36, 37, 38, 39, 40, 41, 42, 43, 44, 45, 46, 47, 48, 49, 50, 51, 52, 53, 54, 55, 56, 57, 58, 59, 60, 61, 62, 63, 64, 65, 66, 67, 68, 69, 70, 71, 72, 73, 74, 75, 76, 77, 78, 79, 80, 81, 82, 83, 84, 85, 86, 87, 88, 89, 90, 91, 92, 93, 94, 95, 96, 97, 98, 99, 100, 101, 102, 103, 104, 105, 106, 107, 108, 109, 110, 111, 112, 113, 114, 115, 116, 117, 118, 119, 120, 121, 122, 123, 124, 125, 126, 127, 128, 129, 130, 131, 132, 133, 134, 135, 136, 137, 138, 139, 140, 141, 142, 143, 144, 145, 146, 147, 148, 149, 150, 151, 152, 153, 154, 155, 156, 157, 158, 159, 160, 161, 162, 163, 164, 165, 166, 167, 168, 169, 170, 171, 172, 173, 174, 175, 176, 177, 178, 179, 180, 181, 182, 183, 184, 185, 186, 187, 188, 189, 190, 191, 192, 193, 194, 195, 196, 197, 198, 199, 200, 201, 202, 203, 204, 205, 206, 207, 208, 209, 210, 211, 212, 213, 214, 215, 216, 217, 218, 219, 220, 221, 222, 223, 224, 225, 226, 227, 228, 229, 230, 231, 232, 233, 234, 235, 236, 237, 238, 239, 240, 241, 242, 243, 244, 245, 246, 247, 248, 271, 272, 273, 274, 275, 276, 277, 278, 279, 280, 281, 282, 283, 291, 292, 293, 294, 295, 296, 297, 298, 299, 300, 301, 302, 303, 304, 305, 306, 307, 308, 309, 310, 311, 312, 313, 314, 315, 284, 285, 286, 287, 288, 289, 290] (by decide +kernel) (by decide +kernel)
set_option maxRecDepth 20000 in
theorem gX6_shrink_X4_run : GoodIn wsX6_shrink (wsV RX6 120 RX4 yX4_run wsX4_run) := goodIn_app (goodIn_of _ (by decide +kernel)) ggX6_shrink_X4_run
set_option maxRecDepth 20000 in
theorem ggX6_shrink_X5_removeLeftOut : GoodIn wsX6_shrink wsX5_removeLeftOut := goodIn_r _ [252, 211, 76, 253, 254, 255, 74, 256, 77, 78, 216, 221, 257, 258, 259, 260, 261, 262, 263, 264, 200, 265, 80, 266, 201, 202, 284, 285, 286, 287, 288, 289, 290] (by decide +kernel) (by decide +kernel)
set_option maxRecDepth 20000 in
theorem gX6_shrink_X5_removeLeftOut : GoodIn wsX6_shrink (wsV RX6 183 RX5 yX5_removeLeftOut wsX5_removeLeftOut) := goodIn_app (goodIn_of _ (by decide +kernel)) ggX6_shrink_X5_removeLeftOut
theorem dX6_shrink_0 : decode cX6_shrink 0 = .ok (.aload_n 0, 1) := by decide +kernel
theorem dX6_shrink_1 : decode cX6_shrink 1 = .ok (.getfield 39, 3) := by decide +kernel
theorem dX6_shrink_4 : decode cX6_shrink 4 = .ok (.getfield 147, 3) := by decide +kernel
theorem dX6_shrink_7 : decode cX6_shrink 7 = .ok (.istore_n 1, 1) := by decide +kernel
theorem dX6_shrink_8 : decode cX6_shrink 8 = .ok (.iload_n 1, 1) := by decide +kernel
theorem dX6_shrink_9 : decode cX6_shrink 9 = .ok (.ifCond .eq 15, 3) := by decide +kernel
theorem dX6_shrink_12 : decode cX6_shrink 12 = .ok (.aload_n 0, 1) := by decide +kernel
theorem dX6_shrink_13 : decode cX6_shrink 13 = .ok (.getfield 43, 3) := by decide +kernel
theorem dX6_shrink_16 : decode cX6_shrink 16 = .ok (.iload_n 1, 1) := by decide +kernel
theorem dX6_shrink_17 : decode cX6_shrink 17 = .ok (.iconst 0, 1) := by decide +kernel
theorem dX6_shrink_18 : decode cX6_shrink 18 = .ok (.invokevirtual 120, 3) := by decide +kernel
theorem dX6_shrink_21 : decode cX6_shrink 21 = .ok (.ifCond .ne 6, 3) := by decide +kernel
theorem dX6_shrink_24 : decode cX6_shrink 24 = .ok (.bipush (-4), 2) := by decide +kernel
theorem dX6_shrink_26 : decode cX6_shrink 26 = .ok (.ireturn, 1) := by decide +kernel
theorem dX6_shrink_27 : decode cX6_shrink 27 = .ok (.aload_n 0, 1) := by decide +kernel
theorem dX6_shrink_28 : decode cX6_shrink 28 = .ok (.getfield 30, 3) := by decide +kernel
theorem dX6_shrink_31 : decode cX6_shrink 31 = .ok (.getfield 104, 3) := by decide +kernel
theorem dX6_shrink_34 : decode cX6_shrink 34 = .ok (.iconst 1, 1) := by decide +kernel
theorem dX6_shrink_35 : decode cX6_shrink 35 = .ok (.isub, 1) := by decide +kernel
theorem dX6_shrink_36 : decode cX6_shrink 36 = .ok (.istore_n 2, 1) := by decide +kernel
theorem dX6_shrink_37 : decode cX6_shrink 37 = .ok (.iload_n 2, 1) := by decide +kernel
theorem dX6_shrink_38 : decode cX6_shrink 38 = .ok (.ifCond .lt 37, 3) := by decide +kernel
theorem dX6_shrink_41 : decode cX6_shrink 41 = .ok (.aload_n 0, 1) := by decide +kernel
theorem dX6_shrink_42 : decode cX6_shrink 42 = .ok (.getfield 30, 3) := by decide +kernel
theorem dX6_shrink_45 : decode cX6_shrink 45 = .ok (.getfield 180, 3) := by decide +kernel
theorem dX6_shrink_48 : decode cX6_shrink 48 = .ok (.iload_n 2, 1) := by decide +kernel
theorem dX6_shrink_49 : decode cX6_shrink 49 = .ok (.iconst 1, 1) := by decide +kernel
theorem dX6_shrink_50 : decode cX6_shrink 50 = .ok (.bastore, 1) := by decide +kernel
theorem dX6_shrink_51 : decode cX6_shrink 51 = .ok (.aload_n 0, 1) := by decide +kernel
theorem dX6_shrink_52 : decode cX6_shrink 52 = .ok (.getfield 30, 3) := by decide +kernel
theorem dX6_shrink_55 : decode cX6_shrink 55 = .ok (.getfield 180, 3) := by decide +kernel
theorem dX6_shrink_58 : decode cX6_shrink 58 = .ok (.iload_n 2, 1) := by decide +kernel
theorem dX6_shrink_59 : decode cX6_shrink 59 = .ok (.aload_n 0, 1) := by decide +kernel
theorem dX6_shrink_60 : decode cX6_shrink 60 = .ok (.getfield 43, 3) := by decide +kernel
theorem dX6_shrink_63 : decode cX6_shrink 63 = .ok (.iload_n 1, 1) := by decide +kernel
theorem dX6_shrink_64 : decode cX6_shrink 64 = .ok (.iconst 0, 1) := by decide +kernel
theorem dX6_shrink_65 : decode cX6_shrink 65 = .ok (.invokevirtual 120, 3) := by decide +kernel
theorem dX6_shrink_68 : decode cX6_shrink 68 = .ok (.bastore, 1) := by decide +kernel
theorem dX6_shrink_69 : decode cX6_shrink 69 = .ok (.iinc 2 (-1), 3) := by decide +kernel
theorem dX6_shrink_72 : decode cX6_shrink 72 = .ok (.goto (-35), 3) := by decide +kernel
theorem dX6_shrink_75 : decode cX6_shrink 75 = .ok (.aload_n 0, 1) := by decide +kernel
theorem dX6_shrink_76 : decode cX6_shrink 76 = .ok (.getfield 30, 3) := by decide +kernel
theorem dX6_shrink_79 : decode cX6_shrink 79 = .ok (.invokevirtual 183, 3) := by decide +kernel
theorem dX6_shrink_82 : decode cX6_shrink 82 = .ok (.aload_n 0, 1) := by decide +kernel
theorem dX6_shrink_83 : decode cX6_shrink 83 = .ok (.getfield 39, 3) := by decide +kernel
theorem dX6_shrink_86 : decode cX6_shrink 86 = .ok (.iload_n 1, 1) := by decide +kernel
theorem dX6_shrink_87 : decode cX6_shrink 87 = .ok (.iconst 0, 1) := by decide +kernel
theorem dX6_shrink_88 : decode cX6_shrink 88 = .ok (.invokevirtual 120, 3) := by decide +kernel
theorem dX6_shrink_91 : decode cX6_shrink 91 = .ok (.pop, 1) := by decide +kernel
theorem dX6_shrink_92 : decode cX6_shrink 92 = .ok (.aload_n 0, 1) := by decide +kernel
theorem dX6_shrink_93 : decode cX6_shrink 93 = .ok (.getfield 30, 3) := by decide +kernel
theorem dX6_shrink_96 : decode cX6_shrink 96 = .ok (.getfield 104, 3) := by decide +kernel
theorem dX6_shrink_99 : decode cX6_shrink 99 = .ok (.ireturn, 1) := by decide +kernel
set_option maxRecDepth 20000 in
theorem ggX6_minimal_X4_run : GoodIn wsX6_minimal wsX4_run := goodIn_r _ [11, 12, 13, 14, 15, 16, 17, 18, 10, 19, 20, 21, 22, 23, 24, 25, 26, 27, 28, 29, 30, 31, 32, 33, 34, 35, 36, 37, 38, 39, 40, 41, 42, 43, 44, 45, 46, 47, 48, 49, 50, 51, 52, 53, 54, 55, 56, 57, 58, 59, 60, 61, 62, 63, 64, 65, 66, 67, 68, 69, 70, 71, 72, 73, 74, 75, 76, 77, 78, 79, 80, 81, 82, 83, 84, 85, 86, 87, 88, 89, 90, 91, 92, 93, 94, 95, 96, 97, 98, 99, 100, 101, 102, 103, 104, 105, 106, 107, 108, 109, 110, 111, 112, 113, 114, 115, 116, 117, 118, 119, 120, 121, 122, 123, 124, 125, 126, 127, 128, 129, 130, 131, 132, 133, 134, 135, 136, 137, 138, 139, 140, 141, 142, 143, 144, 145, 146, 147, 148, 149, 150, 151, 152, 153, 154, 155, 156, 157, 158, 159, 160, 161, 162, 163, 164, 165, 166, 167, 168, 169, 170, 171, 172, 173, 174, 175, 176, 177, 178, 179, 180, 181, 182, 183, 184, 185, 186, 187, 188, 189, 190, 191, 192, 193, 194, 195, 196, 197, 198, 199, 200, 201, 202, 203, 204, 205, 206, 207, 208, 209, 210, 211, 212, 213, 214, 215, 216, 217, 218, 219, 220, 221, 222, 223, 224, 225, 226, 227, 228, 229, 230, 231, 232, 233, 234, 235, 236, 237, 238, 239, 240, 241, 242, 243, 244, 245, 246, 247, 248, 253, 254, 255, 256, 257, 258, 259, 260, 261, 262, 263, 264, 265, 273, 274, 275, 276, 277, 278, 279, 280, 281, 282, 283, 284, 285, 286, 287, 288, 289, 290, 291, 292, 293, 294, 295, 296, 297, 266, 267, 268, 269, 270, 271, 272] (by decide +kernel) (by decide +kernel)
set_option maxRecDepth 20000 in
theorem gX6_minimal_X4_run : GoodIn wsX6_minimal (wsV RX6 120 RX4 yX4_run wsX4_run) := goodIn_app (goodIn_of _ (by decide +kernel)) ggX6_minimal_X4_run
theorem dX6_minimal_0 : decode cX6_minimal 0 = .ok (.aload_n 0, 1) := by decide +kernel
theorem dX6_minimal_1 : decode cX6_minimal 1 = .ok (.getfield 39, 3) := by decide +kernel
theorem dX6_minimal_4 : decode cX6_minimal 4 = .ok (.getfield 147, 3) := by decide +kernel
theorem dX6_minimal_7 : decode cX6_minimal 7 = .ok (.istore_n 1, 1) := by decide +kernel
theorem dX6_minimal_8 : decode cX6_minimal 8 = .ok (.iload_n 1, 1) := by decide +kernel
theorem dX6_minimal_9 : decode cX6_minimal 9 = .ok (.ifCond .ne 6, 3) := by decide +kernel
theorem dX6_minimal_12 : decode cX6_minimal 12 = .ok (.bipush (-4), 2) := by decide +kernel
theorem dX6_minimal_14 : decode cX6_minimal 14 = .ok (.ireturn, 1) := by decide +kernel
theorem dX6_minimal_15 : decode cX6_minimal 15 = .ok (.aload_n 0, 1) := by decide +kernel
theorem dX6_minimal_16 : decode cX6_minimal 16 = .ok (.getfield 43, 3) := by decide +kernel
theorem dX6_minimal_19 : decode cX6_minimal 19 = .ok (.iload_n 1, 1) := by decide +kernel
theorem dX6_minimal_20 : decode cX6_minimal 20 = .ok (.iconst 0, 1) := by decide +kernel
theorem dX6_minimal_21 : decode cX6_minimal 21 = .ok (.invokevirtual 120, 3) := by decide +kernel
theorem dX6_minimal_24 : decode cX6_minimal 24 = .ok (.istore_n 2, 1) := by decide +kernel
theorem dX6_minimal_25 : decode cX6_minimal 25 = .ok (.iconst 0, 1) := by decide +kernel
theorem dX6_minimal_26 : decode cX6_minimal 26 = .ok (.istore_n 3, 1) := by decide +kernel
theorem dX6_minimal_27 : decode cX6_minimal 27 = .ok (.iload_n 3, 1) := by decide +kernel
theorem dX6_minimal_28 : decode cX6_minimal 28 = .ok (.aload_n 0, 1) := by decide +kernel
theorem dX6_minimal_29 : decode cX6_minimal 29 = .ok (.getfield 30, 3) := by decide +kernel
theorem dX6_minimal_32 : decode cX6_minimal 32 = .ok (.getfield 104, 3) := by decide +kernel
theorem dX6_minimal_35 : decode cX6_minimal 35 = .ok (.if_icmp .ge 51, 3) := by decide +kernel
theorem dX6_minimal_38 : decode cX6_minimal 38 = .ok (.iload_n 2, 1) := by decide +kernel
theorem dX6_minimal_39 : decode cX6_minimal 39 = .ok (.ifCond .eq 47, 3) := by decide +kernel
theorem dX6_minimal_42 : decode cX6_minimal 42 = .ok (.aload_n 0, 1) := by decide +kernel
theorem dX6_minimal_43 : decode cX6_minimal 43 = .ok (.getfield 30, 3) := by decide +kernel
theorem dX6_minimal_46 : decode cX6_minimal 46 = .ok (.getfield 180, 3) := by decide +kernel
theorem dX6_minimal_49 : decode cX6_minimal 49 = .ok (.iload_n 3, 1) := by decide +kernel
theorem dX6_minimal_50 : decode cX6_minimal 50 = .ok (.iconst 1, 1) := by decide +kernel
theorem dX6_minimal_51 : decode cX6_minimal 51 = .ok (.bastore, 1) := by decide +kernel
theorem dX6_minimal_52 : decode cX6_minimal 52 = .ok (.aload_n 0, 1) := by decide +kernel
theorem dX6_minimal_53 : decode cX6_minimal 53 = .ok (.getfield 43, 3) := by decide +kernel
theorem dX6_minimal_56 : decode cX6_minimal 56 = .ok (.iload_n 1, 1) := by decide +kernel
theorem dX6_minimal_57 : decode cX6_minimal 57 = .ok (.iconst 0, 1) := by decide +kernel
theorem dX6_minimal_58 : decode cX6_minimal 58 = .ok (.invokevirtual 120, 3) := by decide +kernel
theorem dX6_minimal_61 : decode cX6_minimal 61 = .ok (.ifCond .ne 7, 3) := by decide +kernel
theorem dX6_minimal_64 : decode cX6_minimal 64 = .ok (.iconst 1, 1) := by decide +kernel
theorem dX6_minimal_65 : decode cX6_minimal 65 = .ok (.goto 4, 3) := by decide +kernel
theorem dX6_minimal_68 : decode cX6_minimal 68 = .ok (.iconst 0, 1) := by decide +kernel
theorem dX6_minimal_69 : decode cX6_minimal 69 = .ok (.istore_n 2, 1) := by decide +kernel
theorem dX6_minimal_70 : decode cX6_minimal 70 = .ok (.aload_n 0, 1) := by decide +kernel
theorem dX6_minimal_71 : decode cX6_minimal 71 = .ok (.getfield 30, 3) := by decide +kernel
theorem dX6_minimal_74 : decode cX6_minimal 74 = .ok (.getfield 180, 3) := by decide +kernel
theorem dX6_minimal_77 : decode cX6_minimal 77 = .ok (.iload_n 3, 1) := by decide +kernel
theorem dX6_minimal_78 : decode cX6_minimal 78 = .ok (.iconst 0, 1) := by decide +kernel
theorem dX6_minimal_79 : decode cX6_minimal 79 = .ok (.bastore, 1) := by decide +kernel
theorem dX6_minimal_80 : decode cX6_minimal 80 = .ok (.iinc 3 1, 3) := by decide +kernel
theorem dX6_minimal_83 : decode cX6_minimal 83 = .ok (.goto (-56), 3) := by decide +kernel
theorem dX6_minimal_86 : decode cX6_minimal 86 = .ok (.iload_n 2, 1) := by decide +kernel
theorem dX6_minimal_87 : decode cX6_minimal 87 = .ok (.ifCond .eq 7, 3) := by decide +kernel
theorem dX6_minimal_90 : decode cX6_minimal 90 = .ok (.iconst 1, 1) := by decide +kernel
theorem dX6_minimal_91 : decode cX6_minimal 91 = .ok (.goto 4, 3) := by decide +kernel
theorem dX6_minimal_94 : decode cX6_minimal 94 = .ok (.iconst 0, 1) := by decide +kernel
theorem dX6_minimal_95 : decode cX6_minimal 95 = .ok (.ireturn, 1) := by decide +kernel
set_option maxRecDepth 20000 in
theorem ggX6_sets_X4_run : GoodIn wsX6_sets wsX4_run := goodIn_r _ [8, 9, 10, 11, 12, 13, 14, 15, 7, 16, 17, 18, 19, 20, 21, 22, 23, 24, 25, 26, 27, 28, 29, 30, 31, 32, 33, 34, 35, 36, 37, 38, 39, 40, 41, 42, 43, 44, 45, 46, 47, 48, 49, 50, 51, 52, 53, 54, 55, 56, 57, 58, 59, 60, 61, 62, 63, 64, 65, 66, 67, 68, 69, 70, 71, 72, 73, 74, 75, 76, 77, 78, 79, 80, 81, 82, 83, 84, 85, 86, 87, 88, 89, 90, 91, 92, 93, 94, 95, 96, 97, 98, 99, 100, 101, 102, 103, 104, 105, 106, 107, 108, 109, 110, 111, 112, 113, 114, 115, 116, 117, 118, 119, 120, 121, 122, 123, 124, 125, 126, 127, 128, 129, 130, 131, 132, 133, 134, 135, 136, 137, 138, 139, 140, 141, 142, 143, 144, 145, 146, 147, 148, 149, 150, 151, 152, 153, 154, 155, 156, 157, 158, 159, 160, 161, 162, 163, 164, 165, 166, 167, 168, 169, 170, 171, 172, 173, 174, 175, 176, 177, 178, 179, 180, 181, 182, 183, 184, 185, 186, 187, 188, 189, 190, 191, 192, 193, 194, 195, 196, 197, 198, 199, 200, 201, 202, 203, 204, 205, 206, 207, 208, 209, 210, 211, 212, 213, 214, 215, 216, 217, 218, 219, 220, 221, 222, 223, 224, 225, 226, 227, 228, 229, 230, 231, 232, 233, 234, 235, 236, 237, 238, 239, 240, 241, 242, 243, 244, 245, 250, 251, 252, 253, 254, 255, 256, 257, 258, 259, 260, 261, 262, 263, 264, 265, 266, 267, 268, 269, 270, 271, 272, 273, 274, 275, 276, 277, 278, 279, 280, 281, 282, 283, 284, 285, 286, 287, 288, 289, 290, 291, 292, 293, 294] (by decide +kernel) (by decide +kernel)
set_option maxRecDepth 20000 in
theorem gX6_sets_X4_run : GoodIn wsX6_sets (wsV RX6 120 RX4 yX4_run wsX4_run) := goodIn_app (goodIn_of _ (by decide +kernel)) ggX6_sets_X4_run
theorem dX6_sets_0 : decode cX6_sets 0 = .ok (.iload_n 1, 1) := by decide +kernel
theorem dX6_sets_1 : decode cX6_sets 1 = .ok (.ifCond .lt 8, 3) := by decide +kernel
theorem dX6_sets_4 : decode cX6_sets 4 = .ok (.iload_n 1, 1) := by decide +kernel
theorem dX6_sets_5 : decode cX6_sets 5 = .ok (.iconst 5, 1) := by decide +kernel
theorem dX6_sets_6 : decode cX6_sets 6 = .ok (.if_icmp .le 6, 3) := by decide +kernel
theorem dX6_sets_9 : decode cX6_sets 9 = .ok (.bipush (-3), 2) := by decide +kernel
theorem dX6_sets_11 : decode cX6_sets 11 = .ok (.ireturn, 1) := by decide +kernel
theorem dX6_sets_12 : decode cX6_sets 12 = .ok (.aload_n 0, 1) := by decide +kernel
theorem dX6_sets_13 : decode cX6_sets 13 = .ok (.getfield 39, 3) := by decide +kernel
theorem dX6_sets_16 : decode cX6_sets 16 = .ok (.getfield 147, 3) := by decide +kernel
theorem dX6_sets_19 : decode cX6_sets 19 = .ok (.ifCond .ne 6, 3) := by decide +kernel
theorem dX6_sets_22 : decode cX6_sets 22 = .ok (.bipush (-4), 2) := by decide +kernel
theorem dX6_sets_24 : decode cX6_sets 24 = .ok (.ireturn, 1) := by decide +kernel
theorem dX6_sets_25 : decode cX6_sets 25 = .ok (.iconst 0, 1) := by decide +kernel
theorem dX6_sets_26 : decode cX6_sets 26 = .ok (.istore_n 2, 1) := by decide +kernel
theorem dX6_sets_27 : decode cX6_sets 27 = .ok (.iconst 0, 1) := by decide +kernel
theorem dX6_sets_28 : decode cX6_sets 28 = .ok (.istore_n 3, 1) := by decide +kernel
theorem dX6_sets_29 : decode cX6_sets 29 = .ok (.iload_n 3, 1) := by decide +kernel
theorem dX6_sets_30 : decode cX6_sets 30 = .ok (.iconst 1, 1) := by decide +kernel
theorem dX6_sets_31 : decode cX6_sets 31 = .ok (.iload_n 1, 1) := by decide +kernel
theorem dX6_sets_32 : decode cX6_sets 32 = .ok (.ishl, 1) := by decide +kernel
theorem dX6_sets_33 : decode cX6_sets 33 = .ok (.if_icmp .ge 30, 3) := by decide +kernel
theorem dX6_sets_36 : decode cX6_sets 36 = .ok (.aload_n 0, 1) := by decide +kernel
theorem dX6_sets_37 : decode cX6_sets 37 = .ok (.getfield 43, 3) := by decide +kernel
theorem dX6_sets_40 : decode cX6_sets 40 = .ok (.aload_n 0, 1) := by decide +kernel
theorem dX6_sets_41 : decode cX6_sets 41 = .ok (.getfield 39, 3) := by decide +kernel
theorem dX6_sets_44 : decode cX6_sets 44 = .ok (.getfield 147, 3) := by decide +kernel
theorem dX6_sets_47 : decode cX6_sets 47 = .ok (.iload_n 3, 1) := by decide +kernel
theorem dX6_sets_48 : decode cX6_sets 48 = .ok (.invokevirtual 120, 3) := by decide +kernel
theorem dX6_sets_51 : decode cX6_sets 51 = .ok (.ifCond .eq 6, 3) := by decide +kernel
theorem dX6_sets_54 : decode cX6_sets 54 = .ok (.iinc 2 1, 3) := by decide +kernel
theorem dX6_sets_57 : decode cX6_sets 57 = .ok (.iinc 3 1, 3) := by decide +kernel
theorem dX6_sets_60 : decode cX6_sets 60 = .ok (.goto (-31), 3) := by decide +kernel
theorem dX6_sets_63 : decode cX6_sets 63 = .ok (.iload_n 2, 1) := by decide +kernel
theorem dX6_sets_64 : decode cX6_sets 64 = .ok (.ireturn, 1) := by decide +kernel
theorem dX6_count_0 : decode cX6_count 0 = .ok (.iload_n 1, 1) := by decide +kernel
theorem dX6_count_1 : decode cX6_count 1 = .ok (.tableswitch 105 0 6 #[43, 51, 59, 67, 78, 89, 97], 43) := by decide +kernel
theorem dX6_count_44 : decode cX6_count 44 = .ok (.aload_n 0, 1) := by decide +kernel
theorem dX6_count_45 : decode cX6_count 45 = .ok (.getfield 23, 3) := by decide +kernel
theorem dX6_count_48 : decode cX6_count 48 = .ok (.getfield 186, 3) := by decide +kernel
theorem dX6_count_51 : decode cX6_count 51 = .ok (.ireturn, 1) := by decide +kernel
theorem dX6_count_52 : decode cX6_count 52 = .ok (.aload_n 0, 1) := by decide +kernel
theorem dX6_count_53 : decode cX6_count 53 = .ok (.getfield 30, 3) := by decide +kernel
theorem dX6_count_56 : decode cX6_count 56 = .ok (.getfield 104, 3) := by decide +kernel
theorem dX6_count_59 : decode cX6_count 59 = .ok (.ireturn, 1) := by decide +kernel
theorem dX6_count_60 : decode cX6_count 60 = .ok (.aload_n 0, 1) := by decide +kernel
theorem dX6_count_61 : decode cX6_count 61 = .ok (.getfield 39, 3) := by decide +kernel
theorem dX6_count_64 : decode cX6_count 64 = .ok (.getfield 147, 3) := by decide +kernel
theorem dX6_count_67 : decode cX6_count 67 = .ok (.ireturn, 1) := by decide +kernel
theorem dX6_count_68 : decode cX6_count 68 = .ok (.aload_n 0, 1) := by decide +kernel
theorem dX6_count_69 : decode cX6_count 69 = .ok (.getfield 39, 3) := by decide +kernel
theorem dX6_count_72 : decode cX6_count 72 = .ok (.getfield 152, 3) := by decide +kernel
theorem dX6_count_75 : decode cX6_count 75 = .ok (.getfield 187, 3) := by decide +kernel
theorem dX6_count_78 : decode cX6_count 78 = .ok (.ireturn, 1) := by decide +kernel
theorem dX6_count_79 : decode cX6_count 79 = .ok (.aload_n 0, 1) := by decide +kernel
theorem dX6_count_80 : decode cX6_count 80 = .ok (.getfield 39, 3) := by decide +kernel
theorem dX6_count_83 : decode cX6_count 83 = .ok (.getfield 152, 3) := by decide +kernel
theorem dX6_count_86 : decode cX6_count 86 = .ok (.getfield 188, 3) := by decide +kernel
theorem dX6_count_89 : decode cX6_count 89 = .ok (.ireturn, 1) := by decide +kernel
theorem dX6_count_90 : decode cX6_count 90 = .ok (.aload_n 0, 1) := by decide +kernel
theorem dX6_count_91 : decode cX6_count 91 = .ok (.getfield 39, 3) := by decide +kernel
theorem dX6_count_94 : decode cX6_count 94 = .ok (.getfield 191, 3) := by decide +kernel
theorem dX6_count_97 : decode cX6_count 97 = .ok (.ireturn, 1) := by decide +kernel
theorem dX6_count_98 : decode cX6_count 98 = .ok (.aload_n 0, 1) := by decide +kernel
theorem dX6_count_99 : decode cX6_count 99 = .ok (.getfield 39, 3) := by decide +kernel
theorem dX6_count_102 : decode cX6_count 102 = .ok (.getfield 194, 3) := by decide +kernel
theorem dX6_count_105 : decode cX6_count 105 = .ok (.ireturn, 1) := by decide +kernel
theorem dX6_count_106 : decode cX6_count 106 = .ok (.bipush (-2), 2) := by decide +kernel
theorem dX6_count_108 : decode cX6_count 108 = .ok (.ireturn, 1) := by decide +kernel
theorem dX6_isWait_0 : decode cX6_isWait 0 = .ok (.iload_n 0, 1) := by decide +kernel
theorem dX6_isWait_1 : decode cX6_isWait 1 = .ok (.iconst 1, 1) := by decide +kernel
theorem dX6_isWait_2 : decode cX6_isWait 2 = .ok (.if_icmp .lt 12, 3) := by decide +kernel
theorem dX6_isWait_5 : decode cX6_isWait 5 = .ok (.iload_n 0, 1) := by decide +kernel
theorem dX6_isWait_6 : decode cX6_isWait 6 = .ok (.iconst 5, 1) := by decide +kernel
theorem dX6_isWait_7 : decode cX6_isWait 7 = .ok (.if_icmp .gt 7, 3) := by decide +kernel
theorem dX6_isWait_10 : decode cX6_isWait 10 = .ok (.iconst 1, 1) := by decide +kernel
theorem dX6_isWait_11 : decode cX6_isWait 11 = .ok (.goto 4, 3) := by decide +kernel
theorem dX6_isWait_14 : decode cX6_isWait 14 = .ok (.iconst 0, 1) := by decide +kernel
theorem dX6_isWait_15 : decode cX6_isWait 15 = .ok (.ireturn, 1) := by decide +kernel
theorem dX6_isRumour_0 : decode cX6_isRumour 0 = .ok (.iload_n 0, 1) := by decide +kernel
theorem dX6_isRumour_1 : decode cX6_isRumour 1 = .ok (.ifCond .lt 13, 3) := by decide +kernel
theorem dX6_isRumour_4 : decode cX6_isRumour 4 = .ok (.iload_n 0, 1) := by decide +kernel
theorem dX6_isRumour_5 : decode cX6_isRumour 5 = .ok (.bipush 8, 2) := by decide +kernel
theorem dX6_isRumour_7 : decode cX6_isRumour 7 = .ok (.if_icmp .ge 7, 3) := by decide +kernel
theorem dX6_isRumour_10 : decode cX6_isRumour 10 = .ok (.iconst 1, 1) := by decide +kernel
theorem dX6_isRumour_11 : decode cX6_isRumour 11 = .ok (.goto 4, 3) := by decide +kernel
theorem dX6_isRumour_14 : decode cX6_isRumour 14 = .ok (.iconst 0, 1) := by decide +kernel
theorem dX6_isRumour_15 : decode cX6_isRumour 15 = .ok (.ireturn, 1) := by decide +kernel
theorem dX6_isTurn_0 : decode cX6_isTurn 0 = .ok (.iload_n 0, 1) := by decide +kernel
theorem dX6_isTurn_1 : decode cX6_isTurn 1 = .ok (.ifCond .lt 13, 3) := by decide +kernel
theorem dX6_isTurn_4 : decode cX6_isTurn 4 = .ok (.iload_n 0, 1) := by decide +kernel
theorem dX6_isTurn_5 : decode cX6_isTurn 5 = .ok (.bipush 40, 2) := by decide +kernel
theorem dX6_isTurn_7 : decode cX6_isTurn 7 = .ok (.if_icmp .ge 7, 3) := by decide +kernel
theorem dX6_isTurn_10 : decode cX6_isTurn 10 = .ok (.iconst 1, 1) := by decide +kernel
theorem dX6_isTurn_11 : decode cX6_isTurn 11 = .ok (.goto 4, 3) := by decide +kernel
theorem dX6_isTurn_14 : decode cX6_isTurn 14 = .ok (.iconst 0, 1) := by decide +kernel
theorem dX6_isTurn_15 : decode cX6_isTurn 15 = .ok (.ireturn, 1) := by decide +kernel
theorem dX6_isLetter_0 : decode cX6_isLetter 0 = .ok (.iload_n 0, 1) := by decide +kernel
theorem dX6_isLetter_1 : decode cX6_isLetter 1 = .ok (.ifCond .lt 14, 3) := by decide +kernel
theorem dX6_isLetter_4 : decode cX6_isLetter 4 = .ok (.iload_n 0, 1) := by decide +kernel
theorem dX6_isLetter_5 : decode cX6_isLetter 5 = .ok (.sipush 1200, 3) := by decide +kernel
theorem dX6_isLetter_8 : decode cX6_isLetter 8 = .ok (.if_icmp .ge 7, 3) := by decide +kernel
theorem dX6_isLetter_11 : decode cX6_isLetter 11 = .ok (.iconst 1, 1) := by decide +kernel
theorem dX6_isLetter_12 : decode cX6_isLetter 12 = .ok (.goto 4, 3) := by decide +kernel
theorem dX6_isLetter_15 : decode cX6_isLetter 15 = .ok (.iconst 0, 1) := by decide +kernel
theorem dX6_isLetter_16 : decode cX6_isLetter 16 = .ok (.ireturn, 1) := by decide +kernel
theorem dX6_isTimed_0 : decode cX6_isTimed 0 = .ok (.iload_n 0, 1) := by decide +kernel
theorem dX6_isTimed_1 : decode cX6_isTimed 1 = .ok (.iconst 3, 1) := by decide +kernel
theorem dX6_isTimed_2 : decode cX6_isTimed 2 = .ok (.if_icmp .gt 7, 3) := by decide +kernel
theorem dX6_isTimed_5 : decode cX6_isTimed 5 = .ok (.iconst 1, 1) := by decide +kernel
theorem dX6_isTimed_6 : decode cX6_isTimed 6 = .ok (.goto 4, 3) := by decide +kernel
theorem dX6_isTimed_9 : decode cX6_isTimed 9 = .ok (.iconst 0, 1) := by decide +kernel
theorem dX6_isTimed_10 : decode cX6_isTimed 10 = .ok (.ireturn, 1) := by decide +kernel
theorem dX6_namesNode_0 : decode cX6_namesNode 0 = .ok (.iload_n 0, 1) := by decide +kernel
theorem dX6_namesNode_1 : decode cX6_namesNode 1 = .ok (.iconst 2, 1) := by decide +kernel
theorem dX6_namesNode_2 : decode cX6_namesNode 2 = .ok (.if_icmp .eq 8, 3) := by decide +kernel
theorem dX6_namesNode_5 : decode cX6_namesNode 5 = .ok (.iload_n 0, 1) := by decide +kernel
theorem dX6_namesNode_6 : decode cX6_namesNode 6 = .ok (.iconst 3, 1) := by decide +kernel
theorem dX6_namesNode_7 : decode cX6_namesNode 7 = .ok (.if_icmp .ne 7, 3) := by decide +kernel
theorem dX6_namesNode_10 : decode cX6_namesNode 10 = .ok (.iconst 1, 1) := by decide +kernel
theorem dX6_namesNode_11 : decode cX6_namesNode 11 = .ok (.goto 4, 3) := by decide +kernel
theorem dX6_namesNode_14 : decode cX6_namesNode 14 = .ok (.iconst 0, 1) := by decide +kernel
theorem dX6_namesNode_15 : decode cX6_namesNode 15 = .ok (.ireturn, 1) := by decide +kernel
theorem dX6_namesLetter_0 : decode cX6_namesLetter 0 = .ok (.iload_n 0, 1) := by decide +kernel
theorem dX6_namesLetter_1 : decode cX6_namesLetter 1 = .ok (.iconst 4, 1) := by decide +kernel
theorem dX6_namesLetter_2 : decode cX6_namesLetter 2 = .ok (.if_icmp .lt 7, 3) := by decide +kernel
theorem dX6_namesLetter_5 : decode cX6_namesLetter 5 = .ok (.iconst 1, 1) := by decide +kernel
theorem dX6_namesLetter_6 : decode cX6_namesLetter 6 = .ok (.goto 4, 3) := by decide +kernel
theorem dX6_namesLetter_9 : decode cX6_namesLetter 9 = .ok (.iconst 0, 1) := by decide +kernel
theorem dX6_namesLetter_10 : decode cX6_namesLetter 10 = .ok (.ireturn, 1) := by decide +kernel
theorem dX6_hasWait_0 : decode cX6_hasWait 0 = .ok (.iload_n 0, 1) := by decide +kernel
theorem dX6_hasWait_1 : decode cX6_hasWait 1 = .ok (.iconst 5, 1) := by decide +kernel
theorem dX6_hasWait_2 : decode cX6_hasWait 2 = .ok (.if_icmp .eq 9, 3) := by decide +kernel
theorem dX6_hasWait_5 : decode cX6_hasWait 5 = .ok (.iload_n 0, 1) := by decide +kernel
theorem dX6_hasWait_6 : decode cX6_hasWait 6 = .ok (.bipush 6, 2) := by decide +kernel
theorem dX6_hasWait_8 : decode cX6_hasWait 8 = .ok (.if_icmp .ne 7, 3) := by decide +kernel
theorem dX6_hasWait_11 : decode cX6_hasWait 11 = .ok (.iconst 1, 1) := by decide +kernel
theorem dX6_hasWait_12 : decode cX6_hasWait 12 = .ok (.goto 4, 3) := by decide +kernel
theorem dX6_hasWait_15 : decode cX6_hasWait 15 = .ok (.iconst 0, 1) := by decide +kernel
theorem dX6_hasWait_16 : decode cX6_hasWait 16 = .ok (.ireturn, 1) := by decide +kernel
theorem dX6_pair_0 : decode cX6_pair 0 = .ok (.iload_n 0, 1) := by decide +kernel
theorem dX6_pair_1 : decode cX6_pair 1 = .ok (.bipush 6, 2) := by decide +kernel
theorem dX6_pair_3 : decode cX6_pair 3 = .ok (.imul, 1) := by decide +kernel
theorem dX6_pair_4 : decode cX6_pair 4 = .ok (.iload_n 1, 1) := by decide +kernel
theorem dX6_pair_5 : decode cX6_pair 5 = .ok (.iadd, 1) := by decide +kernel
theorem dX6_pair_6 : decode cX6_pair 6 = .ok (.ireturn, 1) := by decide +kernel
theorem dX6_place_0 : decode cX6_place 0 = .ok (.iload_n 0, 1) := by decide +kernel
theorem dX6_place_1 : decode cX6_place 1 = .ok (.bipush 6, 2) := by decide +kernel
theorem dX6_place_3 : decode cX6_place 3 = .ok (.imul, 1) := by decide +kernel
theorem dX6_place_4 : decode cX6_place 4 = .ok (.iload_n 1, 1) := by decide +kernel
theorem dX6_place_5 : decode cX6_place 5 = .ok (.iadd, 1) := by decide +kernel
theorem dX6_place_6 : decode cX6_place 6 = .ok (.ireturn, 1) := by decide +kernel
theorem dX7_init_0 : decode cX7_init 0 = .ok (.aload_n 0, 1) := by decide +kernel
theorem dX7_init_1 : decode cX7_init 1 = .ok (.invokespecial 1, 3) := by decide +kernel
theorem dX7_init_4 : decode cX7_init 4 = .ok (.aload_n 0, 1) := by decide +kernel
theorem dX7_init_5 : decode cX7_init 5 = .ok (.bipush 7, 2) := by decide +kernel
theorem dX7_init_7 : decode cX7_init 7 = .ok (.newarray .int, 2) := by decide +kernel
theorem dX7_init_9 : decode cX7_init 9 = .ok (.putfield 7, 3) := by decide +kernel
theorem dX7_init_12 : decode cX7_init 12 = .ok (.aload_n 0, 1) := by decide +kernel
theorem dX7_init_13 : decode cX7_init 13 = .ok (.bipush 49, 2) := by decide +kernel
theorem dX7_init_15 : decode cX7_init 15 = .ok (.newarray .int, 2) := by decide +kernel
theorem dX7_init_17 : decode cX7_init 17 = .ok (.putfield 13, 3) := by decide +kernel
theorem dX7_init_20 : decode cX7_init 20 = .ok (.aload_n 0, 1) := by decide +kernel
theorem dX7_init_21 : decode cX7_init 21 = .ok (.bipush 7, 2) := by decide +kernel
theorem dX7_init_23 : decode cX7_init 23 = .ok (.newarray .int, 2) := by decide +kernel
theorem dX7_init_25 : decode cX7_init 25 = .ok (.putfield 16, 3) := by decide +kernel
theorem dX7_init_28 : decode cX7_init 28 = .ok (.aload_n 0, 1) := by decide +kernel
theorem dX7_init_29 : decode cX7_init 29 = .ok (.bipush 20, 2) := by decide +kernel
theorem dX7_init_31 : decode cX7_init 31 = .ok (.newarray .int, 2) := by decide +kernel
theorem dX7_init_33 : decode cX7_init 33 = .ok (.putfield 19, 3) := by decide +kernel
theorem dX7_init_36 : decode cX7_init 36 = .ok (.aload_n 0, 1) := by decide +kernel
theorem dX7_init_37 : decode cX7_init 37 = .ok (.bipush 20, 2) := by decide +kernel
theorem dX7_init_39 : decode cX7_init 39 = .ok (.newarray .int, 2) := by decide +kernel
theorem dX7_init_41 : decode cX7_init 41 = .ok (.putfield 22, 3) := by decide +kernel
theorem dX7_init_44 : decode cX7_init 44 = .ok (.aload_n 0, 1) := by decide +kernel
theorem dX7_init_45 : decode cX7_init 45 = .ok (.bipush 20, 2) := by decide +kernel
theorem dX7_init_47 : decode cX7_init 47 = .ok (.newarray .int, 2) := by decide +kernel
theorem dX7_init_49 : decode cX7_init 49 = .ok (.putfield 25, 3) := by decide +kernel
theorem dX7_init_52 : decode cX7_init 52 = .ok (.aload_n 0, 1) := by decide +kernel
theorem dX7_init_53 : decode cX7_init 53 = .ok (.bipush 20, 2) := by decide +kernel
theorem dX7_init_55 : decode cX7_init 55 = .ok (.newarray .int, 2) := by decide +kernel
theorem dX7_init_57 : decode cX7_init 57 = .ok (.putfield 28, 3) := by decide +kernel
theorem dX7_init_60 : decode cX7_init 60 = .ok (.aload_n 0, 1) := by decide +kernel
theorem dX7_init_61 : decode cX7_init 61 = .ok (.bipush 20, 2) := by decide +kernel
theorem dX7_init_63 : decode cX7_init 63 = .ok (.newarray .boolean, 2) := by decide +kernel
theorem dX7_init_65 : decode cX7_init 65 = .ok (.putfield 31, 3) := by decide +kernel
theorem dX7_init_68 : decode cX7_init 68 = .ok (.aload_n 0, 1) := by decide +kernel
theorem dX7_init_69 : decode cX7_init 69 = .ok (.iconst 2, 1) := by decide +kernel
theorem dX7_init_70 : decode cX7_init 70 = .ok (.newarray .int, 2) := by decide +kernel
theorem dX7_init_72 : decode cX7_init 72 = .ok (.putfield 35, 3) := by decide +kernel
theorem dX7_init_75 : decode cX7_init 75 = .ok (.aload_n 0, 1) := by decide +kernel
theorem dX7_init_76 : decode cX7_init 76 = .ok (.iconst 2, 1) := by decide +kernel
theorem dX7_init_77 : decode cX7_init 77 = .ok (.newarray .int, 2) := by decide +kernel
theorem dX7_init_79 : decode cX7_init 79 = .ok (.putfield 38, 3) := by decide +kernel
theorem dX7_init_82 : decode cX7_init 82 = .ok (.aload_n 0, 1) := by decide +kernel
theorem dX7_init_83 : decode cX7_init 83 = .ok (.iconst 2, 1) := by decide +kernel
theorem dX7_init_84 : decode cX7_init 84 = .ok (.newarray .int, 2) := by decide +kernel
theorem dX7_init_86 : decode cX7_init 86 = .ok (.putfield 41, 3) := by decide +kernel
theorem dX7_init_89 : decode cX7_init 89 = .ok (.aload_n 0, 1) := by decide +kernel
theorem dX7_init_90 : decode cX7_init 90 = .ok (.iconst 2, 1) := by decide +kernel
theorem dX7_init_91 : decode cX7_init 91 = .ok (.newarray .int, 2) := by decide +kernel
theorem dX7_init_93 : decode cX7_init 93 = .ok (.putfield 44, 3) := by decide +kernel
theorem dX7_init_96 : decode cX7_init 96 = .ok (.aload_n 0, 1) := by decide +kernel
theorem dX7_init_97 : decode cX7_init 97 = .ok (.iconst 2, 1) := by decide +kernel
theorem dX7_init_98 : decode cX7_init 98 = .ok (.newarray .int, 2) := by decide +kernel
theorem dX7_init_100 : decode cX7_init 100 = .ok (.putfield 47, 3) := by decide +kernel
theorem dX7_init_103 : decode cX7_init 103 = .ok (.aload_n 0, 1) := by decide +kernel
theorem dX7_init_104 : decode cX7_init 104 = .ok (.iconst 2, 1) := by decide +kernel
theorem dX7_init_105 : decode cX7_init 105 = .ok (.newarray .int, 2) := by decide +kernel
theorem dX7_init_107 : decode cX7_init 107 = .ok (.putfield 50, 3) := by decide +kernel
theorem dX7_init_110 : decode cX7_init 110 = .ok (.aload_n 0, 1) := by decide +kernel
theorem dX7_init_111 : decode cX7_init 111 = .ok (.sipush 840, 3) := by decide +kernel
theorem dX7_init_114 : decode cX7_init 114 = .ok (.newarray .int, 2) := by decide +kernel
theorem dX7_init_116 : decode cX7_init 116 = .ok (.putfield 53, 3) := by decide +kernel
theorem dX7_init_119 : decode cX7_init 119 = .ok (.aload_n 0, 1) := by decide +kernel
theorem dX7_init_120 : decode cX7_init 120 = .ok (.bipush 120, 2) := by decide +kernel
theorem dX7_init_122 : decode cX7_init 122 = .ok (.newarray .boolean, 2) := by decide +kernel
theorem dX7_init_124 : decode cX7_init 124 = .ok (.putfield 56, 3) := by decide +kernel
theorem dX7_init_127 : decode cX7_init 127 = .ok (.aload_n 0, 1) := by decide +kernel
theorem dX7_init_128 : decode cX7_init 128 = .ok (.bipush 14, 2) := by decide +kernel
theorem dX7_init_130 : decode cX7_init 130 = .ok (.newarray .int, 2) := by decide +kernel
theorem dX7_init_132 : decode cX7_init 132 = .ok (.putfield 59, 3) := by decide +kernel
theorem dX7_init_135 : decode cX7_init 135 = .ok (.aload_n 0, 1) := by decide +kernel
theorem dX7_init_136 : decode cX7_init 136 = .ok (.sipush 2400, 3) := by decide +kernel
theorem dX7_init_139 : decode cX7_init 139 = .ok (.newarray .int, 2) := by decide +kernel
theorem dX7_init_141 : decode cX7_init 141 = .ok (.putfield 62, 3) := by decide +kernel
theorem dX7_init_144 : decode cX7_init 144 = .ok (.aload_n 0, 1) := by decide +kernel
theorem dX7_init_145 : decode cX7_init 145 = .ok (.sipush 2400, 3) := by decide +kernel
theorem dX7_init_148 : decode cX7_init 148 = .ok (.newarray .int, 2) := by decide +kernel
theorem dX7_init_150 : decode cX7_init 150 = .ok (.putfield 65, 3) := by decide +kernel
theorem dX7_init_153 : decode cX7_init 153 = .ok (.aload_n 0, 1) := by decide +kernel
theorem dX7_init_154 : decode cX7_init 154 = .ok (.sipush 2400, 3) := by decide +kernel
theorem dX7_init_157 : decode cX7_init 157 = .ok (.newarray .int, 2) := by decide +kernel
theorem dX7_init_159 : decode cX7_init 159 = .ok (.putfield 68, 3) := by decide +kernel
theorem dX7_init_162 : decode cX7_init 162 = .ok (.aload_n 0, 1) := by decide +kernel
theorem dX7_init_163 : decode cX7_init 163 = .ok (.sipush 2400, 3) := by decide +kernel
theorem dX7_init_166 : decode cX7_init 166 = .ok (.newarray .int, 2) := by decide +kernel
theorem dX7_init_168 : decode cX7_init 168 = .ok (.putfield 71, 3) := by decide +kernel
theorem dX7_init_171 : decode cX7_init 171 = .ok (.aload_n 0, 1) := by decide +kernel
theorem dX7_init_172 : decode cX7_init 172 = .ok (.sipush 2400, 3) := by decide +kernel
theorem dX7_init_175 : decode cX7_init 175 = .ok (.newarray .int, 2) := by decide +kernel
theorem dX7_init_177 : decode cX7_init 177 = .ok (.putfield 74, 3) := by decide +kernel
theorem dX7_init_180 : decode cX7_init 180 = .ok (.aload_n 0, 1) := by decide +kernel
theorem dX7_init_181 : decode cX7_init 181 = .ok (.sipush 2400, 3) := by decide +kernel
theorem dX7_init_184 : decode cX7_init 184 = .ok (.newarray .int, 2) := by decide +kernel
theorem dX7_init_186 : decode cX7_init 186 = .ok (.putfield 77, 3) := by decide +kernel
theorem dX7_init_189 : decode cX7_init 189 = .ok (.aload_n 0, 1) := by decide +kernel
theorem dX7_init_190 : decode cX7_init 190 = .ok (.sipush 2400, 3) := by decide +kernel
theorem dX7_init_193 : decode cX7_init 193 = .ok (.newarray .int, 2) := by decide +kernel
theorem dX7_init_195 : decode cX7_init 195 = .ok (.putfield 80, 3) := by decide +kernel
theorem dX7_init_198 : decode cX7_init 198 = .ok (.aload_n 0, 1) := by decide +kernel
theorem dX7_init_199 : decode cX7_init 199 = .ok (.sipush 14400, 3) := by decide +kernel
theorem dX7_init_202 : decode cX7_init 202 = .ok (.newarray .int, 2) := by decide +kernel
theorem dX7_init_204 : decode cX7_init 204 = .ok (.putfield 83, 3) := by decide +kernel
theorem dX7_init_207 : decode cX7_init 207 = .ok (.aload_n 0, 1) := by decide +kernel
theorem dX7_init_208 : decode cX7_init 208 = .ok (.bipush 7, 2) := by decide +kernel
theorem dX7_init_210 : decode cX7_init 210 = .ok (.newarray .int, 2) := by decide +kernel
theorem dX7_init_212 : decode cX7_init 212 = .ok (.putfield 86, 3) := by decide +kernel
theorem dX7_init_215 : decode cX7_init 215 = .ok (.aload_n 0, 1) := by decide +kernel
theorem dX7_init_216 : decode cX7_init 216 = .ok (.bipush 7, 2) := by decide +kernel
theorem dX7_init_218 : decode cX7_init 218 = .ok (.newarray .int, 2) := by decide +kernel
theorem dX7_init_220 : decode cX7_init 220 = .ok (.putfield 89, 3) := by decide +kernel
theorem dX7_init_223 : decode cX7_init 223 = .ok (.aload_n 0, 1) := by decide +kernel
theorem dX7_init_224 : decode cX7_init 224 = .ok (.bipush 49, 2) := by decide +kernel
theorem dX7_init_226 : decode cX7_init 226 = .ok (.newarray .int, 2) := by decide +kernel
theorem dX7_init_228 : decode cX7_init 228 = .ok (.putfield 92, 3) := by decide +kernel
theorem dX7_init_231 : decode cX7_init 231 = .ok (.aload_n 0, 1) := by decide +kernel
theorem dX7_init_232 : decode cX7_init 232 = .ok (.bipush 7, 2) := by decide +kernel
theorem dX7_init_234 : decode cX7_init 234 = .ok (.newarray .boolean, 2) := by decide +kernel
theorem dX7_init_236 : decode cX7_init 236 = .ok (.putfield 95, 3) := by decide +kernel
theorem dX7_init_239 : decode cX7_init 239 = .ok (.aload_n 0, 1) := by decide +kernel
theorem dX7_init_240 : decode cX7_init 240 = .ok (.bipush 7, 2) := by decide +kernel
theorem dX7_init_242 : decode cX7_init 242 = .ok (.newarray .boolean, 2) := by decide +kernel
theorem dX7_init_244 : decode cX7_init 244 = .ok (.putfield 98, 3) := by decide +kernel
theorem dX7_init_247 : decode cX7_init 247 = .ok (.aload_n 0, 1) := by decide +kernel
theorem dX7_init_248 : decode cX7_init 248 = .ok (.iload_n 1, 1) := by decide +kernel
theorem dX7_init_249 : decode cX7_init 249 = .ok (.iconst 2, 1) := by decide +kernel
theorem dX7_init_250 : decode cX7_init 250 = .ok (.if_icmp .ge 7, 3) := by decide +kernel
theorem dX7_init_253 : decode cX7_init 253 = .ok (.iconst 2, 1) := by decide +kernel
theorem dX7_init_254 : decode cX7_init 254 = .ok (.goto 15, 3) := by decide +kernel
theorem dX7_init_257 : decode cX7_init 257 = .ok (.iload_n 1, 1) := by decide +kernel
theorem dX7_init_258 : decode cX7_init 258 = .ok (.bipush 6, 2) := by decide +kernel
theorem dX7_init_260 : decode cX7_init 260 = .ok (.if_icmp .le 8, 3) := by decide +kernel
theorem dX7_init_263 : decode cX7_init 263 = .ok (.bipush 6, 2) := by decide +kernel
theorem dX7_init_265 : decode cX7_init 265 = .ok (.goto 4, 3) := by decide +kernel
theorem dX7_init_268 : decode cX7_init 268 = .ok (.iload_n 1, 1) := by decide +kernel
theorem dX7_init_269 : decode cX7_init 269 = .ok (.putfield 101, 3) := by decide +kernel
theorem dX7_init_272 : decode cX7_init 272 = .ok (.iconst 0, 1) := by decide +kernel
theorem dX7_init_273 : decode cX7_init 273 = .ok (.istore_n 2, 1) := by decide +kernel
theorem dX7_init_274 : decode cX7_init 274 = .ok (.iload_n 2, 1) := by decide +kernel
theorem dX7_init_275 : decode cX7_init 275 = .ok (.bipush 49, 2) := by decide +kernel
theorem dX7_init_277 : decode cX7_init 277 = .ok (.if_icmp .ge 16, 3) := by decide +kernel
theorem dX7_init_280 : decode cX7_init 280 = .ok (.aload_n 0, 1) := by decide +kernel
theorem dX7_init_281 : decode cX7_init 281 = .ok (.getfield 13, 3) := by decide +kernel
theorem dX7_init_284 : decode cX7_init 284 = .ok (.iload_n 2, 1) := by decide +kernel
theorem dX7_init_285 : decode cX7_init 285 = .ok (.iconst 1, 1) := by decide +kernel
theorem dX7_init_286 : decode cX7_init 286 = .ok (.iastore, 1) := by decide +kernel
theorem dX7_init_287 : decode cX7_init 287 = .ok (.iinc 2 1, 3) := by decide +kernel
theorem dX7_init_290 : decode cX7_init 290 = .ok (.goto (-16), 3) := by decide +kernel
theorem dX7_init_293 : decode cX7_init 293 = .ok (.return_, 1) := by decide +kernel
theorem dX7_in_0 : decode cX7_in 0 = .ok (.iload_n 0, 1) := by decide +kernel
theorem dX7_in_1 : decode cX7_in 1 = .ok (.iload_n 1, 1) := by decide +kernel
theorem dX7_in_2 : decode cX7_in 2 = .ok (.if_icmp .lt 12, 3) := by decide +kernel
theorem dX7_in_5 : decode cX7_in 5 = .ok (.iload_n 0, 1) := by decide +kernel
theorem dX7_in_6 : decode cX7_in 6 = .ok (.iload_n 2, 1) := by decide +kernel
theorem dX7_in_7 : decode cX7_in 7 = .ok (.if_icmp .gt 7, 3) := by decide +kernel
theorem dX7_in_10 : decode cX7_in 10 = .ok (.iconst 1, 1) := by decide +kernel
theorem dX7_in_11 : decode cX7_in 11 = .ok (.goto 4, 3) := by decide +kernel
theorem dX7_in_14 : decode cX7_in 14 = .ok (.iconst 0, 1) := by decide +kernel
theorem dX7_in_15 : decode cX7_in 15 = .ok (.ireturn, 1) := by decide +kernel
set_option maxRecDepth 20000 in
theorem ggX7_isNode_X7_in : GoodIn wsX7_isNode wsX7_in := goodIn_r _ [5] (by decide +kernel) (by decide +kernel)
set_option maxRecDepth 20000 in
theorem gX7_isNode_X7_in : GoodIn wsX7_isNode (va_wsS RX7 105 yX7_in wsX7_in) := goodIn_app (goodIn_of _ (by decide +kernel)) ggX7_isNode_X7_in
theorem dX7_isNode_0 : decode cX7_isNode 0 = .ok (.iload_n 1, 1) := by decide +kernel
theorem dX7_isNode_1 : decode cX7_isNode 1 = .ok (.iconst 0, 1) := by decide +kernel
theorem dX7_isNode_2 : decode cX7_isNode 2 = .ok (.aload_n 0, 1) := by decide +kernel
theorem dX7_isNode_3 : decode cX7_isNode 3 = .ok (.getfield 101, 3) := by decide +kernel
theorem dX7_isNode_6 : decode cX7_isNode 6 = .ok (.iconst 1, 1) := by decide +kernel
theorem dX7_isNode_7 : decode cX7_isNode 7 = .ok (.isub, 1) := by decide +kernel
theorem dX7_isNode_8 : decode cX7_isNode 8 = .ok (.invokestatic 105, 3) := by decide +kernel
theorem dX7_isNode_11 : decode cX7_isNode 11 = .ok (.ireturn, 1) := by decide +kernel
set_option maxRecDepth 20000 in
theorem ggX7_behaviour_X7_isNode : GoodIn wsX7_behaviour wsX7_isNode := goodIn_r _ [6, 7, 8, 9, 5, 10, 11, 12, 13, 14, 15, 16, 17, 18, 19, 20, 21, 22, 23, 24, 25, 26, 27, 28, 29, 30, 31, 32, 33, 34, 35, 36, 37, 38, 39, 40, 41, 42, 43, 44] (by decide +kernel) (by decide +kernel)
set_option maxRecDepth 20000 in
theorem gX7_behaviour_X7_isNode : GoodIn wsX7_behaviour (wsV RX7 109 RX7 yX7_isNode wsX7_isNode) := goodIn_app (goodIn_of _ (by decide +kernel)) ggX7_behaviour_X7_isNode
set_option maxRecDepth 20000 in
theorem ggX7_behaviour_X7_in : GoodIn wsX7_behaviour wsX7_in := goodIn_r _ [10] (by decide +kernel) (by decide +kernel)
set_option maxRecDepth 20000 in
theorem gX7_behaviour_X7_in : GoodIn wsX7_behaviour (va_wsS RX7 105 yX7_in wsX7_in) := goodIn_app (goodIn_of _ (by decide +kernel)) ggX7_behaviour_X7_in
theorem dX7_behaviour_0 : decode cX7_behaviour 0 = .ok (.aload_n 0, 1) := by decide +kernel
theorem dX7_behaviour_1 : decode cX7_behaviour 1 = .ok (.iload_n 1, 1) := by decide +kernel
theorem dX7_behaviour_2 : decode cX7_behaviour 2 = .ok (.invokevirtual 109, 3) := by decide +kernel
theorem dX7_behaviour_5 : decode cX7_behaviour 5 = .ok (.ifCond .ne 6, 3) := by decide +kernel
theorem dX7_behaviour_8 : decode cX7_behaviour 8 = .ok (.bipush (-2), 2) := by decide +kernel
theorem dX7_behaviour_10 : decode cX7_behaviour 10 = .ok (.ireturn, 1) := by decide +kernel
end
section
theorem dX7_behaviour_11 : decode cX7_behaviour 11 = .ok (.iload_n 2, 1) := by decide +kernel
theorem dX7_behaviour_12 : decode cX7_behaviour 12 = .ok (.iconst 0, 1) := by decide +kernel
theorem dX7_behaviour_13 : decode cX7_behaviour 13 = .ok (.iconst 3, 1) := by decide +kernel
theorem dX7_behaviour_14 : decode cX7_behaviour 14 = .ok (.invokestatic 105, 3) := by decide +kernel
theorem dX7_behaviour_17 : decode cX7_behaviour 17 = .ok (.ifCond .ne 6, 3) := by decide +kernel
theorem dX7_behaviour_20 : decode cX7_behaviour 20 = .ok (.bipush (-3), 2) := by decide +kernel
theorem dX7_behaviour_22 : decode cX7_behaviour 22 = .ok (.ireturn, 1) := by decide +kernel
theorem dX7_behaviour_23 : decode cX7_behaviour 23 = .ok (.aload_n 0, 1) := by decide +kernel
theorem dX7_behaviour_24 : decode cX7_behaviour 24 = .ok (.getfield 7, 3) := by decide +kernel
theorem dX7_behaviour_27 : decode cX7_behaviour 27 = .ok (.iload_n 1, 1) := by decide +kernel
theorem dX7_behaviour_28 : decode cX7_behaviour 28 = .ok (.iaload, 1) := by decide +kernel
theorem dX7_behaviour_29 : decode cX7_behaviour 29 = .ok (.istore_n 3, 1) := by decide +kernel
theorem dX7_behaviour_30 : decode cX7_behaviour 30 = .ok (.aload_n 0, 1) := by decide +kernel
theorem dX7_behaviour_31 : decode cX7_behaviour 31 = .ok (.getfield 7, 3) := by decide +kernel
theorem dX7_behaviour_34 : decode cX7_behaviour 34 = .ok (.iload_n 1, 1) := by decide +kernel
theorem dX7_behaviour_35 : decode cX7_behaviour 35 = .ok (.iload_n 2, 1) := by decide +kernel
theorem dX7_behaviour_36 : decode cX7_behaviour 36 = .ok (.iastore, 1) := by decide +kernel
theorem dX7_behaviour_37 : decode cX7_behaviour 37 = .ok (.iload_n 3, 1) := by decide +kernel
theorem dX7_behaviour_38 : decode cX7_behaviour 38 = .ok (.ireturn, 1) := by decide +kernel
set_option maxRecDepth 20000 in
theorem ggX7_delay_X7_isNode : GoodIn wsX7_delay wsX7_isNode := goodIn_r _ [6, 7, 8, 9, 5, 10, 11, 12, 13, 14, 15, 16, 17, 18, 19, 20, 21, 22, 23, 24, 25, 26, 27, 28, 29, 30, 31, 32, 33, 34, 35, 36, 37, 38, 39, 40, 41, 42, 43, 44] (by decide +kernel) (by decide +kernel)
set_option maxRecDepth 20000 in
theorem gX7_delay_X7_isNode : GoodIn wsX7_delay (wsV RX7 109 RX7 yX7_isNode wsX7_isNode) := goodIn_app (goodIn_of _ (by decide +kernel)) ggX7_delay_X7_isNode
set_option maxRecDepth 20000 in
theorem ggX7_delay_X7_in : GoodIn wsX7_delay wsX7_in := goodIn_r _ [10] (by decide +kernel) (by decide +kernel)
set_option maxRecDepth 20000 in
theorem gX7_delay_X7_in : GoodIn wsX7_delay (va_wsS RX7 105 yX7_in wsX7_in) := goodIn_app (goodIn_of _ (by decide +kernel)) ggX7_delay_X7_in
theorem dX7_delay_0 : decode cX7_delay 0 = .ok (.aload_n 0, 1) := by decide +kernel
theorem dX7_delay_1 : decode cX7_delay 1 = .ok (.iload_n 1, 1) := by decide +kernel
theorem dX7_delay_2 : decode cX7_delay 2 = .ok (.invokevirtual 109, 3) := by decide +kernel
theorem dX7_delay_5 : decode cX7_delay 5 = .ok (.ifCond .eq 16, 3) := by decide +kernel
theorem dX7_delay_8 : decode cX7_delay 8 = .ok (.aload_n 0, 1) := by decide +kernel
theorem dX7_delay_9 : decode cX7_delay 9 = .ok (.iload_n 2, 1) := by decide +kernel
theorem dX7_delay_10 : decode cX7_delay 10 = .ok (.invokevirtual 109, 3) := by decide +kernel
theorem dX7_delay_13 : decode cX7_delay 13 = .ok (.ifCond .eq 8, 3) := by decide +kernel
theorem dX7_delay_16 : decode cX7_delay 16 = .ok (.iload_n 1, 1) := by decide +kernel
theorem dX7_delay_17 : decode cX7_delay 17 = .ok (.iload_n 2, 1) := by decide +kernel
theorem dX7_delay_18 : decode cX7_delay 18 = .ok (.if_icmp .ne 6, 3) := by decide +kernel
theorem dX7_delay_21 : decode cX7_delay 21 = .ok (.bipush (-2), 2) := by decide +kernel
theorem dX7_delay_23 : decode cX7_delay 23 = .ok (.ireturn, 1) := by decide +kernel
theorem dX7_delay_24 : decode cX7_delay 24 = .ok (.iload_n 3, 1) := by decide +kernel
theorem dX7_delay_25 : decode cX7_delay 25 = .ok (.iconst 1, 1) := by decide +kernel
theorem dX7_delay_26 : decode cX7_delay 26 = .ok (.iconst 5, 1) := by decide +kernel
theorem dX7_delay_27 : decode cX7_delay 27 = .ok (.invokestatic 105, 3) := by decide +kernel
theorem dX7_delay_30 : decode cX7_delay 30 = .ok (.ifCond .ne 6, 3) := by decide +kernel
theorem dX7_delay_33 : decode cX7_delay 33 = .ok (.bipush (-3), 2) := by decide +kernel
theorem dX7_delay_35 : decode cX7_delay 35 = .ok (.ireturn, 1) := by decide +kernel
theorem dX7_delay_36 : decode cX7_delay 36 = .ok (.aload_n 0, 1) := by decide +kernel
theorem dX7_delay_37 : decode cX7_delay 37 = .ok (.getfield 13, 3) := by decide +kernel
theorem dX7_delay_40 : decode cX7_delay 40 = .ok (.bipush 7, 2) := by decide +kernel
theorem dX7_delay_42 : decode cX7_delay 42 = .ok (.iload_n 1, 1) := by decide +kernel
theorem dX7_delay_43 : decode cX7_delay 43 = .ok (.imul, 1) := by decide +kernel
theorem dX7_delay_44 : decode cX7_delay 44 = .ok (.iload_n 2, 1) := by decide +kernel
theorem dX7_delay_45 : decode cX7_delay 45 = .ok (.iadd, 1) := by decide +kernel
theorem dX7_delay_46 : decode cX7_delay 46 = .ok (.iaload, 1) := by decide +kernel
theorem dX7_delay_47 : decode cX7_delay 47 = .ok (.istore 4, 2) := by decide +kernel
theorem dX7_delay_49 : decode cX7_delay 49 = .ok (.aload_n 0, 1) := by decide +kernel
theorem dX7_delay_50 : decode cX7_delay 50 = .ok (.getfield 13, 3) := by decide +kernel
theorem dX7_delay_53 : decode cX7_delay 53 = .ok (.bipush 7, 2) := by decide +kernel
theorem dX7_delay_55 : decode cX7_delay 55 = .ok (.iload_n 1, 1) := by decide +kernel
theorem dX7_delay_56 : decode cX7_delay 56 = .ok (.imul, 1) := by decide +kernel
theorem dX7_delay_57 : decode cX7_delay 57 = .ok (.iload_n 2, 1) := by decide +kernel
theorem dX7_delay_58 : decode cX7_delay 58 = .ok (.iadd, 1) := by decide +kernel
theorem dX7_delay_59 : decode cX7_delay 59 = .ok (.iload_n 3, 1) := by decide +kernel
theorem dX7_delay_60 : decode cX7_delay 60 = .ok (.iastore, 1) := by decide +kernel
theorem dX7_delay_61 : decode cX7_delay 61 = .ok (.iload 4, 2) := by decide +kernel
theorem dX7_delay_63 : decode cX7_delay 63 = .ok (.ireturn, 1) := by decide +kernel
theorem dX7_bits_0 : decode cX7_bits 0 = .ok (.iconst 0, 1) := by decide +kernel
theorem dX7_bits_1 : decode cX7_bits 1 = .ok (.istore_n 1, 1) := by decide +kernel
theorem dX7_bits_2 : decode cX7_bits 2 = .ok (.iconst 0, 1) := by decide +kernel
theorem dX7_bits_3 : decode cX7_bits 3 = .ok (.istore_n 2, 1) := by decide +kernel
theorem dX7_bits_4 : decode cX7_bits 4 = .ok (.iload_n 2, 1) := by decide +kernel
theorem dX7_bits_5 : decode cX7_bits 5 = .ok (.bipush 8, 2) := by decide +kernel
theorem dX7_bits_7 : decode cX7_bits 7 = .ok (.if_icmp .ge 17, 3) := by decide +kernel
theorem dX7_bits_10 : decode cX7_bits 10 = .ok (.iload_n 1, 1) := by decide +kernel
theorem dX7_bits_11 : decode cX7_bits 11 = .ok (.iload_n 0, 1) := by decide +kernel
theorem dX7_bits_12 : decode cX7_bits 12 = .ok (.iload_n 2, 1) := by decide +kernel
theorem dX7_bits_13 : decode cX7_bits 13 = .ok (.ishr, 1) := by decide +kernel
theorem dX7_bits_14 : decode cX7_bits 14 = .ok (.iconst 1, 1) := by decide +kernel
theorem dX7_bits_15 : decode cX7_bits 15 = .ok (.iand, 1) := by decide +kernel
theorem dX7_bits_16 : decode cX7_bits 16 = .ok (.iadd, 1) := by decide +kernel
theorem dX7_bits_17 : decode cX7_bits 17 = .ok (.istore_n 1, 1) := by decide +kernel
theorem dX7_bits_18 : decode cX7_bits 18 = .ok (.iinc 2 1, 3) := by decide +kernel
theorem dX7_bits_21 : decode cX7_bits 21 = .ok (.goto (-17), 3) := by decide +kernel
theorem dX7_bits_24 : decode cX7_bits 24 = .ok (.iload_n 1, 1) := by decide +kernel
theorem dX7_bits_25 : decode cX7_bits 25 = .ok (.ireturn, 1) := by decide +kernel
set_option maxRecDepth 20000 in
theorem ggX7_tell_X7_isNode : GoodIn wsX7_tell wsX7_isNode := goodIn_r _ [6, 7, 8, 9, 5, 10, 14, 15, 16, 17, 18, 19, 20, 21, 22, 23, 24, 25, 26, 27, 28, 29, 30, 31, 32, 33, 34, 35, 36, 37, 38, 39, 40, 41, 42, 43, 44, 45, 46, 47] (by decide +kernel) (by decide +kernel)
set_option maxRecDepth 20000 in
theorem gX7_tell_X7_isNode : GoodIn wsX7_tell (wsV RX7 109 RX7 yX7_isNode wsX7_isNode) := goodIn_app (goodIn_of _ (by decide +kernel)) ggX7_tell_X7_isNode
set_option maxRecDepth 20000 in
theorem ggX7_tell_X7_in : GoodIn wsX7_tell wsX7_in := goodIn_r _ [10] (by decide +kernel) (by decide +kernel)
set_option maxRecDepth 20000 in
theorem gX7_tell_X7_in : GoodIn wsX7_tell (va_wsS RX7 105 yX7_in wsX7_in) := goodIn_app (goodIn_of _ (by decide +kernel)) ggX7_tell_X7_in
set_option maxRecDepth 20000 in
theorem ggX7_tell_X7_bits : GoodIn wsX7_tell wsX7_bits := goodIn_r _ [13] (by decide +kernel) (by decide +kernel)
set_option maxRecDepth 20000 in
theorem gX7_tell_X7_bits : GoodIn wsX7_tell (va_wsS RX7 113 yX7_bits wsX7_bits) := goodIn_app (goodIn_of _ (by decide +kernel)) ggX7_tell_X7_bits
theorem dX7_tell_0 : decode cX7_tell 0 = .ok (.aload_n 0, 1) := by decide +kernel
theorem dX7_tell_1 : decode cX7_tell 1 = .ok (.iload_n 1, 1) := by decide +kernel
theorem dX7_tell_2 : decode cX7_tell 2 = .ok (.invokevirtual 109, 3) := by decide +kernel
theorem dX7_tell_5 : decode cX7_tell 5 = .ok (.ifCond .eq 13, 3) := by decide +kernel
theorem dX7_tell_8 : decode cX7_tell 8 = .ok (.iload_n 2, 1) := by decide +kernel
theorem dX7_tell_9 : decode cX7_tell 9 = .ok (.iconst 0, 1) := by decide +kernel
theorem dX7_tell_10 : decode cX7_tell 10 = .ok (.bipush 7, 2) := by decide +kernel
theorem dX7_tell_12 : decode cX7_tell 12 = .ok (.invokestatic 105, 3) := by decide +kernel
theorem dX7_tell_15 : decode cX7_tell 15 = .ok (.ifCond .ne 6, 3) := by decide +kernel
theorem dX7_tell_18 : decode cX7_tell 18 = .ok (.bipush (-2), 2) := by decide +kernel
theorem dX7_tell_20 : decode cX7_tell 20 = .ok (.ireturn, 1) := by decide +kernel
theorem dX7_tell_21 : decode cX7_tell 21 = .ok (.aload_n 0, 1) := by decide +kernel
theorem dX7_tell_22 : decode cX7_tell 22 = .ok (.getfield 16, 3) := by decide +kernel
theorem dX7_tell_25 : decode cX7_tell 25 = .ok (.iload_n 1, 1) := by decide +kernel
theorem dX7_tell_26 : decode cX7_tell 26 = .ok (.dup2, 1) := by decide +kernel
theorem dX7_tell_27 : decode cX7_tell 27 = .ok (.iaload, 1) := by decide +kernel
theorem dX7_tell_28 : decode cX7_tell 28 = .ok (.iconst 1, 1) := by decide +kernel
theorem dX7_tell_29 : decode cX7_tell 29 = .ok (.iload_n 2, 1) := by decide +kernel
theorem dX7_tell_30 : decode cX7_tell 30 = .ok (.ishl, 1) := by decide +kernel
theorem dX7_tell_31 : decode cX7_tell 31 = .ok (.ior, 1) := by decide +kernel
theorem dX7_tell_32 : decode cX7_tell 32 = .ok (.iastore, 1) := by decide +kernel
theorem dX7_tell_33 : decode cX7_tell 33 = .ok (.aload_n 0, 1) := by decide +kernel
theorem dX7_tell_34 : decode cX7_tell 34 = .ok (.getfield 16, 3) := by decide +kernel
theorem dX7_tell_37 : decode cX7_tell 37 = .ok (.iload_n 1, 1) := by decide +kernel
theorem dX7_tell_38 : decode cX7_tell 38 = .ok (.iaload, 1) := by decide +kernel
theorem dX7_tell_39 : decode cX7_tell 39 = .ok (.invokestatic 113, 3) := by decide +kernel
theorem dX7_tell_42 : decode cX7_tell 42 = .ok (.ireturn, 1) := by decide +kernel
set_option maxRecDepth 20000 in
theorem ggX7_event_X7_in : GoodIn wsX7_event wsX7_in := goodIn_r _ [10] (by decide +kernel) (by decide +kernel)
set_option maxRecDepth 20000 in
theorem gX7_event_X7_in : GoodIn wsX7_event (va_wsS RX7 105 yX7_in wsX7_in) := goodIn_app (goodIn_of _ (by decide +kernel)) ggX7_event_X7_in
set_option maxRecDepth 20000 in
theorem ggX7_event_X7_isNode : GoodIn wsX7_event wsX7_isNode := goodIn_r _ [14, 1, 7, 8, 9, 10, 15, 16, 17, 18, 19, 20, 21, 22, 23, 24, 25, 26, 27, 28, 29, 30, 31, 32, 33, 34, 35, 36, 37, 38, 39, 40, 41, 42, 43, 44, 45, 46, 47, 48] (by decide +kernel) (by decide +kernel)
set_option maxRecDepth 20000 in
theorem gX7_event_X7_isNode : GoodIn wsX7_event (wsV RX7 109 RX7 yX7_isNode wsX7_isNode) := goodIn_app (goodIn_of _ (by decide +kernel)) ggX7_event_X7_isNode
theorem dX7_event_0 : decode cX7_event 0 = .ok (.iload_n 1, 1) := by decide +kernel
theorem dX7_event_1 : decode cX7_event 1 = .ok (.iconst 0, 1) := by decide +kernel
theorem dX7_event_2 : decode cX7_event 2 = .ok (.bipush 6, 2) := by decide +kernel
theorem dX7_event_4 : decode cX7_event 4 = .ok (.invokestatic 105, 3) := by decide +kernel
theorem dX7_event_7 : decode cX7_event 7 = .ok (.ifCond .eq 21, 3) := by decide +kernel
theorem dX7_event_10 : decode cX7_event 10 = .ok (.iload_n 1, 1) := by decide +kernel
theorem dX7_event_11 : decode cX7_event 11 = .ok (.iconst 2, 1) := by decide +kernel
theorem dX7_event_12 : decode cX7_event 12 = .ok (.if_icmp .eq 8, 3) := by decide +kernel
theorem dX7_event_15 : decode cX7_event 15 = .ok (.iload_n 1, 1) := by decide +kernel
theorem dX7_event_16 : decode cX7_event 16 = .ok (.iconst 3, 1) := by decide +kernel
theorem dX7_event_17 : decode cX7_event 17 = .ok (.if_icmp .ne 14, 3) := by decide +kernel
theorem dX7_event_20 : decode cX7_event 20 = .ok (.aload_n 0, 1) := by decide +kernel
theorem dX7_event_21 : decode cX7_event 21 = .ok (.iload_n 3, 1) := by decide +kernel
theorem dX7_event_22 : decode cX7_event 22 = .ok (.invokevirtual 109, 3) := by decide +kernel
theorem dX7_event_25 : decode cX7_event 25 = .ok (.ifCond .ne 6, 3) := by decide +kernel
theorem dX7_event_28 : decode cX7_event 28 = .ok (.bipush (-2), 2) := by decide +kernel
theorem dX7_event_30 : decode cX7_event 30 = .ok (.ireturn, 1) := by decide +kernel
theorem dX7_event_31 : decode cX7_event 31 = .ok (.iload_n 1, 1) := by decide +kernel
theorem dX7_event_32 : decode cX7_event 32 = .ok (.iconst 4, 1) := by decide +kernel
theorem dX7_event_33 : decode cX7_event 33 = .ok (.if_icmp .ge 13, 3) := by decide +kernel
theorem dX7_event_36 : decode cX7_event 36 = .ok (.iload_n 2, 1) := by decide +kernel
theorem dX7_event_37 : decode cX7_event 37 = .ok (.iconst 0, 1) := by decide +kernel
theorem dX7_event_38 : decode cX7_event 38 = .ok (.bipush 39, 2) := by decide +kernel
theorem dX7_event_40 : decode cX7_event 40 = .ok (.invokestatic 105, 3) := by decide +kernel
theorem dX7_event_43 : decode cX7_event 43 = .ok (.ifCond .eq 54, 3) := by decide +kernel
theorem dX7_event_46 : decode cX7_event 46 = .ok (.iload_n 1, 1) := by decide +kernel
theorem dX7_event_47 : decode cX7_event 47 = .ok (.ifCond .ne 19, 3) := by decide +kernel
theorem dX7_event_50 : decode cX7_event 50 = .ok (.iload_n 3, 1) := by decide +kernel
theorem dX7_event_51 : decode cX7_event 51 = .ok (.iconst 0, 1) := by decide +kernel
theorem dX7_event_52 : decode cX7_event 52 = .ok (.iconst 1, 1) := by decide +kernel
theorem dX7_event_53 : decode cX7_event 53 = .ok (.aload_n 0, 1) := by decide +kernel
theorem dX7_event_54 : decode cX7_event 54 = .ok (.getfield 101, 3) := by decide +kernel
theorem dX7_event_57 : decode cX7_event 57 = .ok (.ishl, 1) := by decide +kernel
theorem dX7_event_58 : decode cX7_event 58 = .ok (.iconst 1, 1) := by decide +kernel
theorem dX7_event_59 : decode cX7_event 59 = .ok (.isub, 1) := by decide +kernel
theorem dX7_event_60 : decode cX7_event 60 = .ok (.invokestatic 105, 3) := by decide +kernel
theorem dX7_event_63 : decode cX7_event 63 = .ok (.ifCond .eq 34, 3) := by decide +kernel
theorem dX7_event_66 : decode cX7_event 66 = .ok (.iload_n 1, 1) := by decide +kernel
theorem dX7_event_67 : decode cX7_event 67 = .ok (.iconst 3, 1) := by decide +kernel
theorem dX7_event_68 : decode cX7_event 68 = .ok (.if_icmp .le 14, 3) := by decide +kernel
theorem dX7_event_71 : decode cX7_event 71 = .ok (.iload_n 3, 1) := by decide +kernel
theorem dX7_event_72 : decode cX7_event 72 = .ok (.iconst 0, 1) := by decide +kernel
theorem dX7_event_73 : decode cX7_event 73 = .ok (.sipush 1199, 3) := by decide +kernel
theorem dX7_event_76 : decode cX7_event 76 = .ok (.invokestatic 105, 3) := by decide +kernel
theorem dX7_event_79 : decode cX7_event 79 = .ok (.ifCond .eq 18, 3) := by decide +kernel
theorem dX7_event_82 : decode cX7_event 82 = .ok (.iload_n 1, 1) := by decide +kernel
theorem dX7_event_83 : decode cX7_event 83 = .ok (.iconst 4, 1) := by decide +kernel
theorem dX7_event_84 : decode cX7_event 84 = .ok (.if_icmp .le 16, 3) := by decide +kernel
theorem dX7_event_87 : decode cX7_event 87 = .ok (.iload 4, 2) := by decide +kernel
theorem dX7_event_89 : decode cX7_event 89 = .ok (.iconst 1, 1) := by decide +kernel
theorem dX7_event_90 : decode cX7_event 90 = .ok (.iconst 5, 1) := by decide +kernel
theorem dX7_event_91 : decode cX7_event 91 = .ok (.invokestatic 105, 3) := by decide +kernel
theorem dX7_event_94 : decode cX7_event 94 = .ok (.ifCond .ne 6, 3) := by decide +kernel
theorem dX7_event_97 : decode cX7_event 97 = .ok (.bipush (-3), 2) := by decide +kernel
theorem dX7_event_99 : decode cX7_event 99 = .ok (.ireturn, 1) := by decide +kernel
theorem dX7_event_100 : decode cX7_event 100 = .ok (.aload_n 0, 1) := by decide +kernel
theorem dX7_event_101 : decode cX7_event 101 = .ok (.getfield 117, 3) := by decide +kernel
theorem dX7_event_104 : decode cX7_event 104 = .ok (.bipush 20, 2) := by decide +kernel
theorem dX7_event_106 : decode cX7_event 106 = .ok (.if_icmp .ne 6, 3) := by decide +kernel
theorem dX7_event_109 : decode cX7_event 109 = .ok (.bipush (-5), 2) := by decide +kernel
theorem dX7_event_111 : decode cX7_event 111 = .ok (.ireturn, 1) := by decide +kernel
theorem dX7_event_112 : decode cX7_event 112 = .ok (.aload_n 0, 1) := by decide +kernel
theorem dX7_event_113 : decode cX7_event 113 = .ok (.getfield 19, 3) := by decide +kernel
theorem dX7_event_116 : decode cX7_event 116 = .ok (.aload_n 0, 1) := by decide +kernel
theorem dX7_event_117 : decode cX7_event 117 = .ok (.getfield 117, 3) := by decide +kernel
theorem dX7_event_120 : decode cX7_event 120 = .ok (.iload_n 1, 1) := by decide +kernel
theorem dX7_event_121 : decode cX7_event 121 = .ok (.iastore, 1) := by decide +kernel
theorem dX7_event_122 : decode cX7_event 122 = .ok (.aload_n 0, 1) := by decide +kernel
theorem dX7_event_123 : decode cX7_event 123 = .ok (.getfield 22, 3) := by decide +kernel
theorem dX7_event_126 : decode cX7_event 126 = .ok (.aload_n 0, 1) := by decide +kernel
theorem dX7_event_127 : decode cX7_event 127 = .ok (.getfield 117, 3) := by decide +kernel
theorem dX7_event_130 : decode cX7_event 130 = .ok (.iload_n 1, 1) := by decide +kernel
theorem dX7_event_131 : decode cX7_event 131 = .ok (.iconst 4, 1) := by decide +kernel
theorem dX7_event_132 : decode cX7_event 132 = .ok (.if_icmp .ge 7, 3) := by decide +kernel
theorem dX7_event_135 : decode cX7_event 135 = .ok (.iload_n 2, 1) := by decide +kernel
theorem dX7_event_136 : decode cX7_event 136 = .ok (.goto 4, 3) := by decide +kernel
theorem dX7_event_139 : decode cX7_event 139 = .ok (.iconst 0, 1) := by decide +kernel
theorem dX7_event_140 : decode cX7_event 140 = .ok (.iastore, 1) := by decide +kernel
theorem dX7_event_141 : decode cX7_event 141 = .ok (.aload_n 0, 1) := by decide +kernel
theorem dX7_event_142 : decode cX7_event 142 = .ok (.getfield 25, 3) := by decide +kernel
theorem dX7_event_145 : decode cX7_event 145 = .ok (.aload_n 0, 1) := by decide +kernel
theorem dX7_event_146 : decode cX7_event 146 = .ok (.getfield 117, 3) := by decide +kernel
theorem dX7_event_149 : decode cX7_event 149 = .ok (.iload_n 1, 1) := by decide +kernel
theorem dX7_event_150 : decode cX7_event 150 = .ok (.iconst 1, 1) := by decide +kernel
theorem dX7_event_151 : decode cX7_event 151 = .ok (.if_icmp .ne 7, 3) := by decide +kernel
theorem dX7_event_154 : decode cX7_event 154 = .ok (.iconst 0, 1) := by decide +kernel
theorem dX7_event_155 : decode cX7_event 155 = .ok (.goto 4, 3) := by decide +kernel
theorem dX7_event_158 : decode cX7_event 158 = .ok (.iload_n 3, 1) := by decide +kernel
theorem dX7_event_159 : decode cX7_event 159 = .ok (.iastore, 1) := by decide +kernel
theorem dX7_event_160 : decode cX7_event 160 = .ok (.aload_n 0, 1) := by decide +kernel
theorem dX7_event_161 : decode cX7_event 161 = .ok (.getfield 28, 3) := by decide +kernel
theorem dX7_event_164 : decode cX7_event 164 = .ok (.aload_n 0, 1) := by decide +kernel
theorem dX7_event_165 : decode cX7_event 165 = .ok (.getfield 117, 3) := by decide +kernel
theorem dX7_event_168 : decode cX7_event 168 = .ok (.iload_n 1, 1) := by decide +kernel
theorem dX7_event_169 : decode cX7_event 169 = .ok (.iconst 4, 1) := by decide +kernel
theorem dX7_event_170 : decode cX7_event 170 = .ok (.if_icmp .le 8, 3) := by decide +kernel
theorem dX7_event_173 : decode cX7_event 173 = .ok (.iload 4, 2) := by decide +kernel
theorem dX7_event_175 : decode cX7_event 175 = .ok (.goto 4, 3) := by decide +kernel
theorem dX7_event_178 : decode cX7_event 178 = .ok (.iconst 0, 1) := by decide +kernel
theorem dX7_event_179 : decode cX7_event 179 = .ok (.iastore, 1) := by decide +kernel
theorem dX7_event_180 : decode cX7_event 180 = .ok (.aload_n 0, 1) := by decide +kernel
theorem dX7_event_181 : decode cX7_event 181 = .ok (.dup, 1) := by decide +kernel
theorem dX7_event_182 : decode cX7_event 182 = .ok (.getfield 117, 3) := by decide +kernel
theorem dX7_event_185 : decode cX7_event 185 = .ok (.iconst 1, 1) := by decide +kernel
theorem dX7_event_186 : decode cX7_event 186 = .ok (.iadd, 1) := by decide +kernel
theorem dX7_event_187 : decode cX7_event 187 = .ok (.putfield 117, 3) := by decide +kernel
theorem dX7_event_190 : decode cX7_event 190 = .ok (.aload_n 0, 1) := by decide +kernel
theorem dX7_event_191 : decode cX7_event 191 = .ok (.getfield 117, 3) := by decide +kernel
theorem dX7_event_194 : decode cX7_event 194 = .ok (.iconst 1, 1) := by decide +kernel
theorem dX7_event_195 : decode cX7_event 195 = .ok (.isub, 1) := by decide +kernel
theorem dX7_event_196 : decode cX7_event 196 = .ok (.ireturn, 1) := by decide +kernel
theorem dX7_remove_0 : decode cX7_remove 0 = .ok (.iload_n 1, 1) := by decide +kernel
theorem dX7_remove_1 : decode cX7_remove 1 = .ok (.istore_n 2, 1) := by decide +kernel
theorem dX7_remove_2 : decode cX7_remove 2 = .ok (.iload_n 2, 1) := by decide +kernel
theorem dX7_remove_3 : decode cX7_remove 3 = .ok (.iconst 1, 1) := by decide +kernel
theorem dX7_remove_4 : decode cX7_remove 4 = .ok (.iadd, 1) := by decide +kernel
theorem dX7_remove_5 : decode cX7_remove 5 = .ok (.aload_n 0, 1) := by decide +kernel
theorem dX7_remove_6 : decode cX7_remove 6 = .ok (.getfield 117, 3) := by decide +kernel
theorem dX7_remove_9 : decode cX7_remove 9 = .ok (.if_icmp .ge 65, 3) := by decide +kernel
theorem dX7_remove_12 : decode cX7_remove 12 = .ok (.aload_n 0, 1) := by decide +kernel
theorem dX7_remove_13 : decode cX7_remove 13 = .ok (.getfield 19, 3) := by decide +kernel
theorem dX7_remove_16 : decode cX7_remove 16 = .ok (.iload_n 2, 1) := by decide +kernel
theorem dX7_remove_17 : decode cX7_remove 17 = .ok (.aload_n 0, 1) := by decide +kernel
theorem dX7_remove_18 : decode cX7_remove 18 = .ok (.getfield 19, 3) := by decide +kernel
theorem dX7_remove_21 : decode cX7_remove 21 = .ok (.iload_n 2, 1) := by decide +kernel
theorem dX7_remove_22 : decode cX7_remove 22 = .ok (.iconst 1, 1) := by decide +kernel
theorem dX7_remove_23 : decode cX7_remove 23 = .ok (.iadd, 1) := by decide +kernel
theorem dX7_remove_24 : decode cX7_remove 24 = .ok (.iaload, 1) := by decide +kernel
theorem dX7_remove_25 : decode cX7_remove 25 = .ok (.iastore, 1) := by decide +kernel
theorem dX7_remove_26 : decode cX7_remove 26 = .ok (.aload_n 0, 1) := by decide +kernel
theorem dX7_remove_27 : decode cX7_remove 27 = .ok (.getfield 22, 3) := by decide +kernel
theorem dX7_remove_30 : decode cX7_remove 30 = .ok (.iload_n 2, 1) := by decide +kernel
theorem dX7_remove_31 : decode cX7_remove 31 = .ok (.aload_n 0, 1) := by decide +kernel
theorem dX7_remove_32 : decode cX7_remove 32 = .ok (.getfield 22, 3) := by decide +kernel
theorem dX7_remove_35 : decode cX7_remove 35 = .ok (.iload_n 2, 1) := by decide +kernel
theorem dX7_remove_36 : decode cX7_remove 36 = .ok (.iconst 1, 1) := by decide +kernel
theorem dX7_remove_37 : decode cX7_remove 37 = .ok (.iadd, 1) := by decide +kernel
theorem dX7_remove_38 : decode cX7_remove 38 = .ok (.iaload, 1) := by decide +kernel
theorem dX7_remove_39 : decode cX7_remove 39 = .ok (.iastore, 1) := by decide +kernel
theorem dX7_remove_40 : decode cX7_remove 40 = .ok (.aload_n 0, 1) := by decide +kernel
theorem dX7_remove_41 : decode cX7_remove 41 = .ok (.getfield 25, 3) := by decide +kernel
theorem dX7_remove_44 : decode cX7_remove 44 = .ok (.iload_n 2, 1) := by decide +kernel
theorem dX7_remove_45 : decode cX7_remove 45 = .ok (.aload_n 0, 1) := by decide +kernel
theorem dX7_remove_46 : decode cX7_remove 46 = .ok (.getfield 25, 3) := by decide +kernel
theorem dX7_remove_49 : decode cX7_remove 49 = .ok (.iload_n 2, 1) := by decide +kernel
theorem dX7_remove_50 : decode cX7_remove 50 = .ok (.iconst 1, 1) := by decide +kernel
theorem dX7_remove_51 : decode cX7_remove 51 = .ok (.iadd, 1) := by decide +kernel
theorem dX7_remove_52 : decode cX7_remove 52 = .ok (.iaload, 1) := by decide +kernel
theorem dX7_remove_53 : decode cX7_remove 53 = .ok (.iastore, 1) := by decide +kernel
theorem dX7_remove_54 : decode cX7_remove 54 = .ok (.aload_n 0, 1) := by decide +kernel
theorem dX7_remove_55 : decode cX7_remove 55 = .ok (.getfield 28, 3) := by decide +kernel
theorem dX7_remove_58 : decode cX7_remove 58 = .ok (.iload_n 2, 1) := by decide +kernel
theorem dX7_remove_59 : decode cX7_remove 59 = .ok (.aload_n 0, 1) := by decide +kernel
theorem dX7_remove_60 : decode cX7_remove 60 = .ok (.getfield 28, 3) := by decide +kernel
theorem dX7_remove_63 : decode cX7_remove 63 = .ok (.iload_n 2, 1) := by decide +kernel
theorem dX7_remove_64 : decode cX7_remove 64 = .ok (.iconst 1, 1) := by decide +kernel
theorem dX7_remove_65 : decode cX7_remove 65 = .ok (.iadd, 1) := by decide +kernel
theorem dX7_remove_66 : decode cX7_remove 66 = .ok (.iaload, 1) := by decide +kernel
theorem dX7_remove_67 : decode cX7_remove 67 = .ok (.iastore, 1) := by decide +kernel
theorem dX7_remove_68 : decode cX7_remove 68 = .ok (.iinc 2 1, 3) := by decide +kernel
theorem dX7_remove_71 : decode cX7_remove 71 = .ok (.goto (-69), 3) := by decide +kernel
theorem dX7_remove_74 : decode cX7_remove 74 = .ok (.aload_n 0, 1) := by decide +kernel
theorem dX7_remove_75 : decode cX7_remove 75 = .ok (.dup, 1) := by decide +kernel
theorem dX7_remove_76 : decode cX7_remove 76 = .ok (.getfield 117, 3) := by decide +kernel
theorem dX7_remove_79 : decode cX7_remove 79 = .ok (.iconst 1, 1) := by decide +kernel
theorem dX7_remove_80 : decode cX7_remove 80 = .ok (.isub, 1) := by decide +kernel
theorem dX7_remove_81 : decode cX7_remove 81 = .ok (.putfield 117, 3) := by decide +kernel
theorem dX7_remove_84 : decode cX7_remove 84 = .ok (.return_, 1) := by decide +kernel
set_option maxRecDepth 20000 in
theorem ggX7_drop_X7_in : GoodIn wsX7_drop wsX7_in := goodIn_r _ [5] (by decide +kernel) (by decide +kernel)
set_option maxRecDepth 20000 in
theorem gX7_drop_X7_in : GoodIn wsX7_drop (va_wsS RX7 105 yX7_in wsX7_in) := goodIn_app (goodIn_of _ (by decide +kernel)) ggX7_drop_X7_in
set_option maxRecDepth 20000 in
theorem ggX7_drop_X7_remove : GoodIn wsX7_drop wsX7_remove := goodIn_r _ [9, 1, 10, 11, 12, 13, 14, 15, 16, 17, 18, 19, 20, 21, 22, 23, 24, 25, 26, 27, 28, 29, 30, 31, 32, 33, 34, 35, 36, 37, 38, 39, 40, 41, 42, 43, 44, 45, 46, 47] (by decide +kernel) (by decide +kernel)
set_option maxRecDepth 20000 in
theorem gX7_drop_X7_remove : GoodIn wsX7_drop (wsV RX7 120 RX7 yX7_remove wsX7_remove) := goodIn_app (goodIn_of _ (by decide +kernel)) ggX7_drop_X7_remove
theorem dX7_drop_0 : decode cX7_drop 0 = .ok (.iload_n 1, 1) := by decide +kernel
theorem dX7_drop_1 : decode cX7_drop 1 = .ok (.iconst 0, 1) := by decide +kernel
theorem dX7_drop_2 : decode cX7_drop 2 = .ok (.aload_n 0, 1) := by decide +kernel
theorem dX7_drop_3 : decode cX7_drop 3 = .ok (.getfield 117, 3) := by decide +kernel
theorem dX7_drop_6 : decode cX7_drop 6 = .ok (.iconst 1, 1) := by decide +kernel
theorem dX7_drop_7 : decode cX7_drop 7 = .ok (.isub, 1) := by decide +kernel
theorem dX7_drop_8 : decode cX7_drop 8 = .ok (.invokestatic 105, 3) := by decide +kernel
theorem dX7_drop_11 : decode cX7_drop 11 = .ok (.ifCond .ne 6, 3) := by decide +kernel
theorem dX7_drop_14 : decode cX7_drop 14 = .ok (.bipush (-2), 2) := by decide +kernel
theorem dX7_drop_16 : decode cX7_drop 16 = .ok (.ireturn, 1) := by decide +kernel
theorem dX7_drop_17 : decode cX7_drop 17 = .ok (.aload_n 0, 1) := by decide +kernel
theorem dX7_drop_18 : decode cX7_drop 18 = .ok (.iload_n 1, 1) := by decide +kernel
theorem dX7_drop_19 : decode cX7_drop 19 = .ok (.invokevirtual 120, 3) := by decide +kernel
theorem dX7_drop_22 : decode cX7_drop 22 = .ok (.aload_n 0, 1) := by decide +kernel
theorem dX7_drop_23 : decode cX7_drop 23 = .ok (.getfield 117, 3) := by decide +kernel
theorem dX7_drop_26 : decode cX7_drop 26 = .ok (.ireturn, 1) := by decide +kernel
set_option maxRecDepth 20000 in
theorem ggX7_told_X7_in : GoodIn wsX7_told wsX7_in := goodIn_r _ [9] (by decide +kernel) (by decide +kernel)
set_option maxRecDepth 20000 in
theorem gX7_told_X7_in : GoodIn wsX7_told (va_wsS RX7 105 yX7_in wsX7_in) := goodIn_app (goodIn_of _ (by decide +kernel)) ggX7_told_X7_in
theorem dX7_told_0 : decode cX7_told 0 = .ok (.iload_n 1, 1) := by decide +kernel
theorem dX7_told_1 : decode cX7_told 1 = .ok (.iconst 0, 1) := by decide +kernel
theorem dX7_told_2 : decode cX7_told 2 = .ok (.aload_n 0, 1) := by decide +kernel
theorem dX7_told_3 : decode cX7_told 3 = .ok (.getfield 117, 3) := by decide +kernel
theorem dX7_told_6 : decode cX7_told 6 = .ok (.iconst 1, 1) := by decide +kernel
theorem dX7_told_7 : decode cX7_told 7 = .ok (.isub, 1) := by decide +kernel
theorem dX7_told_8 : decode cX7_told 8 = .ok (.invokestatic 105, 3) := by decide +kernel
theorem dX7_told_11 : decode cX7_told 11 = .ok (.ifCond .eq 12, 3) := by decide +kernel
theorem dX7_told_14 : decode cX7_told 14 = .ok (.iload_n 2, 1) := by decide +kernel
theorem dX7_told_15 : decode cX7_told 15 = .ok (.iconst 0, 1) := by decide +kernel
theorem dX7_told_16 : decode cX7_told 16 = .ok (.iconst 3, 1) := by decide +kernel
theorem dX7_told_17 : decode cX7_told 17 = .ok (.invokestatic 105, 3) := by decide +kernel
theorem dX7_told_20 : decode cX7_told 20 = .ok (.ifCond .ne 6, 3) := by decide +kernel
theorem dX7_told_23 : decode cX7_told 23 = .ok (.bipush (-2), 2) := by decide +kernel
theorem dX7_told_25 : decode cX7_told 25 = .ok (.ireturn, 1) := by decide +kernel
theorem dX7_told_26 : decode cX7_told 26 = .ok (.iload_n 2, 1) := by decide +kernel
theorem dX7_told_27 : decode cX7_told 27 = .ok (.ifCond .ne 12, 3) := by decide +kernel
theorem dX7_told_30 : decode cX7_told 30 = .ok (.aload_n 0, 1) := by decide +kernel
theorem dX7_told_31 : decode cX7_told 31 = .ok (.getfield 19, 3) := by decide +kernel
theorem dX7_told_34 : decode cX7_told 34 = .ok (.iload_n 1, 1) := by decide +kernel
theorem dX7_told_35 : decode cX7_told 35 = .ok (.iaload, 1) := by decide +kernel
theorem dX7_told_36 : decode cX7_told 36 = .ok (.goto 37, 3) := by decide +kernel
theorem dX7_told_39 : decode cX7_told 39 = .ok (.iload_n 2, 1) := by decide +kernel
theorem dX7_told_40 : decode cX7_told 40 = .ok (.iconst 1, 1) := by decide +kernel
theorem dX7_told_41 : decode cX7_told 41 = .ok (.if_icmp .ne 12, 3) := by decide +kernel
theorem dX7_told_44 : decode cX7_told 44 = .ok (.aload_n 0, 1) := by decide +kernel
theorem dX7_told_45 : decode cX7_told 45 = .ok (.getfield 22, 3) := by decide +kernel
theorem dX7_told_48 : decode cX7_told 48 = .ok (.iload_n 1, 1) := by decide +kernel
theorem dX7_told_49 : decode cX7_told 49 = .ok (.iaload, 1) := by decide +kernel
theorem dX7_told_50 : decode cX7_told 50 = .ok (.goto 23, 3) := by decide +kernel
theorem dX7_told_53 : decode cX7_told 53 = .ok (.iload_n 2, 1) := by decide +kernel
theorem dX7_told_54 : decode cX7_told 54 = .ok (.iconst 2, 1) := by decide +kernel
theorem dX7_told_55 : decode cX7_told 55 = .ok (.if_icmp .ne 12, 3) := by decide +kernel
theorem dX7_told_58 : decode cX7_told 58 = .ok (.aload_n 0, 1) := by decide +kernel
theorem dX7_told_59 : decode cX7_told 59 = .ok (.getfield 25, 3) := by decide +kernel
theorem dX7_told_62 : decode cX7_told 62 = .ok (.iload_n 1, 1) := by decide +kernel
theorem dX7_told_63 : decode cX7_told 63 = .ok (.iaload, 1) := by decide +kernel
theorem dX7_told_64 : decode cX7_told 64 = .ok (.goto 9, 3) := by decide +kernel
theorem dX7_told_67 : decode cX7_told 67 = .ok (.aload_n 0, 1) := by decide +kernel
theorem dX7_told_68 : decode cX7_told 68 = .ok (.getfield 28, 3) := by decide +kernel
theorem dX7_told_71 : decode cX7_told 71 = .ok (.iload_n 1, 1) := by decide +kernel
theorem dX7_told_72 : decode cX7_told 72 = .ok (.iaload, 1) := by decide +kernel
theorem dX7_told_73 : decode cX7_told 73 = .ok (.ireturn, 1) := by decide +kernel
theorem dX7_isTogether_0 : decode cX7_isTogether 0 = .ok (.aload_n 0, 1) := by decide +kernel
theorem dX7_isTogether_1 : decode cX7_isTogether 1 = .ok (.getfield 124, 3) := by decide +kernel
theorem dX7_isTogether_4 : decode cX7_isTogether 4 = .ok (.iload_n 1, 1) := by decide +kernel
theorem dX7_isTogether_5 : decode cX7_isTogether 5 = .ok (.ishr, 1) := by decide +kernel
theorem dX7_isTogether_6 : decode cX7_isTogether 6 = .ok (.iconst 1, 1) := by decide +kernel
theorem dX7_isTogether_7 : decode cX7_isTogether 7 = .ok (.iand, 1) := by decide +kernel
theorem dX7_isTogether_8 : decode cX7_isTogether 8 = .ok (.aload_n 0, 1) := by decide +kernel
theorem dX7_isTogether_9 : decode cX7_isTogether 9 = .ok (.getfield 124, 3) := by decide +kernel
theorem dX7_isTogether_12 : decode cX7_isTogether 12 = .ok (.iload_n 2, 1) := by decide +kernel
theorem dX7_isTogether_13 : decode cX7_isTogether 13 = .ok (.ishr, 1) := by decide +kernel
theorem dX7_isTogether_14 : decode cX7_isTogether 14 = .ok (.iconst 1, 1) := by decide +kernel
theorem dX7_isTogether_15 : decode cX7_isTogether 15 = .ok (.iand, 1) := by decide +kernel
theorem dX7_isTogether_16 : decode cX7_isTogether 16 = .ok (.if_icmp .ne 7, 3) := by decide +kernel
theorem dX7_isTogether_19 : decode cX7_isTogether 19 = .ok (.iconst 1, 1) := by decide +kernel
theorem dX7_isTogether_20 : decode cX7_isTogether 20 = .ok (.goto 4, 3) := by decide +kernel
theorem dX7_isTogether_23 : decode cX7_isTogether 23 = .ok (.iconst 0, 1) := by decide +kernel
theorem dX7_isTogether_24 : decode cX7_isTogether 24 = .ok (.ireturn, 1) := by decide +kernel
theorem dX7_happen_0 : decode cX7_happen 0 = .ok (.iconst 0, 1) := by decide +kernel
theorem dX7_happen_1 : decode cX7_happen 1 = .ok (.istore_n 2, 1) := by decide +kernel
theorem dX7_happen_2 : decode cX7_happen 2 = .ok (.iload_n 2, 1) := by decide +kernel
theorem dX7_happen_3 : decode cX7_happen 3 = .ok (.aload_n 0, 1) := by decide +kernel
theorem dX7_happen_4 : decode cX7_happen 4 = .ok (.getfield 117, 3) := by decide +kernel
theorem dX7_happen_7 : decode cX7_happen 7 = .ok (.if_icmp .ge 141, 3) := by decide +kernel
theorem dX7_happen_10 : decode cX7_happen 10 = .ok (.aload_n 0, 1) := by decide +kernel
theorem dX7_happen_11 : decode cX7_happen 11 = .ok (.getfield 31, 3) := by decide +kernel
theorem dX7_happen_14 : decode cX7_happen 14 = .ok (.iload_n 2, 1) := by decide +kernel
theorem dX7_happen_15 : decode cX7_happen 15 = .ok (.baload, 1) := by decide +kernel
theorem dX7_happen_16 : decode cX7_happen 16 = .ok (.ifCond .ne 126, 3) := by decide +kernel
theorem dX7_happen_19 : decode cX7_happen 19 = .ok (.aload_n 0, 1) := by decide +kernel
theorem dX7_happen_20 : decode cX7_happen 20 = .ok (.getfield 19, 3) := by decide +kernel
theorem dX7_happen_23 : decode cX7_happen 23 = .ok (.iload_n 2, 1) := by decide +kernel
theorem dX7_happen_24 : decode cX7_happen 24 = .ok (.iaload, 1) := by decide +kernel
theorem dX7_happen_25 : decode cX7_happen 25 = .ok (.iconst 4, 1) := by decide +kernel
theorem dX7_happen_26 : decode cX7_happen 26 = .ok (.if_icmp .ge 116, 3) := by decide +kernel
theorem dX7_happen_29 : decode cX7_happen 29 = .ok (.aload_n 0, 1) := by decide +kernel
theorem dX7_happen_30 : decode cX7_happen 30 = .ok (.getfield 22, 3) := by decide +kernel
theorem dX7_happen_33 : decode cX7_happen 33 = .ok (.iload_n 2, 1) := by decide +kernel
theorem dX7_happen_34 : decode cX7_happen 34 = .ok (.iaload, 1) := by decide +kernel
theorem dX7_happen_35 : decode cX7_happen 35 = .ok (.iload_n 1, 1) := by decide +kernel
theorem dX7_happen_36 : decode cX7_happen 36 = .ok (.if_icmp .ne 106, 3) := by decide +kernel
theorem dX7_happen_39 : decode cX7_happen 39 = .ok (.aload_n 0, 1) := by decide +kernel
theorem dX7_happen_40 : decode cX7_happen 40 = .ok (.getfield 25, 3) := by decide +kernel
theorem dX7_happen_43 : decode cX7_happen 43 = .ok (.iload_n 2, 1) := by decide +kernel
theorem dX7_happen_44 : decode cX7_happen 44 = .ok (.iaload, 1) := by decide +kernel
theorem dX7_happen_45 : decode cX7_happen 45 = .ok (.istore_n 3, 1) := by decide +kernel
theorem dX7_happen_46 : decode cX7_happen 46 = .ok (.aload_n 0, 1) := by decide +kernel
theorem dX7_happen_47 : decode cX7_happen 47 = .ok (.getfield 19, 3) := by decide +kernel
theorem dX7_happen_50 : decode cX7_happen 50 = .ok (.iload_n 2, 1) := by decide +kernel
theorem dX7_happen_51 : decode cX7_happen 51 = .ok (.iaload, 1) := by decide +kernel
theorem dX7_happen_52 : decode cX7_happen 52 = .ok (.iconst 2, 1) := by decide +kernel
theorem dX7_happen_53 : decode cX7_happen 53 = .ok (.if_icmp .ge 24, 3) := by decide +kernel
theorem dX7_happen_56 : decode cX7_happen 56 = .ok (.aload_n 0, 1) := by decide +kernel
theorem dX7_happen_57 : decode cX7_happen 57 = .ok (.aload_n 0, 1) := by decide +kernel
theorem dX7_happen_58 : decode cX7_happen 58 = .ok (.getfield 19, 3) := by decide +kernel
theorem dX7_happen_61 : decode cX7_happen 61 = .ok (.iload_n 2, 1) := by decide +kernel
theorem dX7_happen_62 : decode cX7_happen 62 = .ok (.iaload, 1) := by decide +kernel
theorem dX7_happen_63 : decode cX7_happen 63 = .ok (.ifCond .ne 7, 3) := by decide +kernel
theorem dX7_happen_66 : decode cX7_happen 66 = .ok (.iload_n 3, 1) := by decide +kernel
theorem dX7_happen_67 : decode cX7_happen 67 = .ok (.goto 4, 3) := by decide +kernel
theorem dX7_happen_70 : decode cX7_happen 70 = .ok (.iconst 0, 1) := by decide +kernel
theorem dX7_happen_71 : decode cX7_happen 71 = .ok (.putfield 124, 3) := by decide +kernel
theorem dX7_happen_74 : decode cX7_happen 74 = .ok (.goto 68, 3) := by decide +kernel
theorem dX7_happen_77 : decode cX7_happen 77 = .ok (.aload_n 0, 1) := by decide +kernel
theorem dX7_happen_78 : decode cX7_happen 78 = .ok (.getfield 19, 3) := by decide +kernel
theorem dX7_happen_81 : decode cX7_happen 81 = .ok (.iload_n 2, 1) := by decide +kernel
theorem dX7_happen_82 : decode cX7_happen 82 = .ok (.iaload, 1) := by decide +kernel
theorem dX7_happen_83 : decode cX7_happen 83 = .ok (.iconst 2, 1) := by decide +kernel
theorem dX7_happen_84 : decode cX7_happen 84 = .ok (.if_icmp .ne 13, 3) := by decide +kernel
theorem dX7_happen_87 : decode cX7_happen 87 = .ok (.aload_n 0, 1) := by decide +kernel
theorem dX7_happen_88 : decode cX7_happen 88 = .ok (.getfield 95, 3) := by decide +kernel
theorem dX7_happen_91 : decode cX7_happen 91 = .ok (.iload_n 3, 1) := by decide +kernel
theorem dX7_happen_92 : decode cX7_happen 92 = .ok (.iconst 1, 1) := by decide +kernel
theorem dX7_happen_93 : decode cX7_happen 93 = .ok (.bastore, 1) := by decide +kernel
theorem dX7_happen_94 : decode cX7_happen 94 = .ok (.goto 48, 3) := by decide +kernel
theorem dX7_happen_97 : decode cX7_happen 97 = .ok (.aload_n 0, 1) := by decide +kernel
theorem dX7_happen_98 : decode cX7_happen 98 = .ok (.getfield 95, 3) := by decide +kernel
theorem dX7_happen_101 : decode cX7_happen 101 = .ok (.iload_n 3, 1) := by decide +kernel
theorem dX7_happen_102 : decode cX7_happen 102 = .ok (.baload, 1) := by decide +kernel
theorem dX7_happen_103 : decode cX7_happen 103 = .ok (.ifCond .eq 39, 3) := by decide +kernel
theorem dX7_happen_106 : decode cX7_happen 106 = .ok (.aload_n 0, 1) := by decide +kernel
theorem dX7_happen_107 : decode cX7_happen 107 = .ok (.getfield 95, 3) := by decide +kernel
theorem dX7_happen_110 : decode cX7_happen 110 = .ok (.iload_n 3, 1) := by decide +kernel
theorem dX7_happen_111 : decode cX7_happen 111 = .ok (.iconst 0, 1) := by decide +kernel
theorem dX7_happen_112 : decode cX7_happen 112 = .ok (.bastore, 1) := by decide +kernel
theorem dX7_happen_113 : decode cX7_happen 113 = .ok (.iconst 0, 1) := by decide +kernel
theorem dX7_happen_114 : decode cX7_happen 114 = .ok (.istore 4, 2) := by decide +kernel
theorem dX7_happen_116 : decode cX7_happen 116 = .ok (.iload 4, 2) := by decide +kernel
theorem dX7_happen_118 : decode cX7_happen 118 = .ok (.bipush 7, 2) := by decide +kernel
theorem dX7_happen_120 : decode cX7_happen 120 = .ok (.if_icmp .ge 22, 3) := by decide +kernel
theorem dX7_happen_123 : decode cX7_happen 123 = .ok (.aload_n 0, 1) := by decide +kernel
theorem dX7_happen_124 : decode cX7_happen 124 = .ok (.getfield 92, 3) := by decide +kernel
theorem dX7_happen_127 : decode cX7_happen 127 = .ok (.bipush 7, 2) := by decide +kernel
theorem dX7_happen_129 : decode cX7_happen 129 = .ok (.iload_n 3, 1) := by decide +kernel
theorem dX7_happen_130 : decode cX7_happen 130 = .ok (.imul, 1) := by decide +kernel
theorem dX7_happen_131 : decode cX7_happen 131 = .ok (.iload 4, 2) := by decide +kernel
theorem dX7_happen_133 : decode cX7_happen 133 = .ok (.iadd, 1) := by decide +kernel
theorem dX7_happen_134 : decode cX7_happen 134 = .ok (.iconst 0, 1) := by decide +kernel
theorem dX7_happen_135 : decode cX7_happen 135 = .ok (.iastore, 1) := by decide +kernel
theorem dX7_happen_136 : decode cX7_happen 136 = .ok (.iinc 4 1, 3) := by decide +kernel
theorem dX7_happen_139 : decode cX7_happen 139 = .ok (.goto (-23), 3) := by decide +kernel
theorem dX7_happen_142 : decode cX7_happen 142 = .ok (.iinc 2 1, 3) := by decide +kernel
theorem dX7_happen_145 : decode cX7_happen 145 = .ok (.goto (-143), 3) := by decide +kernel
theorem dX7_happen_148 : decode cX7_happen 148 = .ok (.return_, 1) := by decide +kernel
set_option maxRecDepth 20000 in
theorem ggX7_come_X7_isTogether : GoodIn wsX7_come wsX7_isTogether := goodIn_r _ [15, 16, 17, 18, 19, 20, 21, 22, 23, 24, 25, 26, 27, 28, 29, 30, 31, 32, 33, 34, 35, 36, 37, 38, 39, 40, 41, 42, 43, 44, 45, 46, 47, 48, 49, 50] (by decide +kernel) (by decide +kernel)
set_option maxRecDepth 20000 in
theorem gX7_come_X7_isTogether : GoodIn wsX7_come (wsV RX7 127 RX7 yX7_isTogether wsX7_isTogether) := goodIn_app (goodIn_of _ (by decide +kernel)) ggX7_come_X7_isTogether
theorem dX7_come_0 : decode cX7_come 0 = .ok (.aload_n 0, 1) := by decide +kernel
theorem dX7_come_1 : decode cX7_come 1 = .ok (.getfield 65, 3) := by decide +kernel
theorem dX7_come_4 : decode cX7_come 4 = .ok (.iload_n 2, 1) := by decide +kernel
theorem dX7_come_5 : decode cX7_come 5 = .ok (.iaload, 1) := by decide +kernel
theorem dX7_come_6 : decode cX7_come 6 = .ok (.istore 4, 2) := by decide +kernel
theorem dX7_come_8 : decode cX7_come 8 = .ok (.aload_n 0, 1) := by decide +kernel
theorem dX7_come_9 : decode cX7_come 9 = .ok (.getfield 95, 3) := by decide +kernel
theorem dX7_come_12 : decode cX7_come 12 = .ok (.iload 4, 2) := by decide +kernel
theorem dX7_come_14 : decode cX7_come 14 = .ok (.baload, 1) := by decide +kernel
theorem dX7_come_15 : decode cX7_come 15 = .ok (.ifCond .ne 18, 3) := by decide +kernel
theorem dX7_come_18 : decode cX7_come 18 = .ok (.aload_n 0, 1) := by decide +kernel
theorem dX7_come_19 : decode cX7_come 19 = .ok (.iload 4, 2) := by decide +kernel
theorem dX7_come_21 : decode cX7_come 21 = .ok (.aload_n 0, 1) := by decide +kernel
theorem dX7_come_22 : decode cX7_come 22 = .ok (.getfield 62, 3) := by decide +kernel
theorem dX7_come_25 : decode cX7_come 25 = .ok (.iload_n 2, 1) := by decide +kernel
theorem dX7_come_26 : decode cX7_come 26 = .ok (.iaload, 1) := by decide +kernel
theorem dX7_come_27 : decode cX7_come 27 = .ok (.invokevirtual 127, 3) := by decide +kernel
theorem dX7_come_30 : decode cX7_come 30 = .ok (.ifCond .ne 14, 3) := by decide +kernel
theorem dX7_come_33 : decode cX7_come 33 = .ok (.aload_n 0, 1) := by decide +kernel
theorem dX7_come_34 : decode cX7_come 34 = .ok (.getfield 47, 3) := by decide +kernel
theorem dX7_come_37 : decode cX7_come 37 = .ok (.iload_n 1, 1) := by decide +kernel
theorem dX7_come_38 : decode cX7_come 38 = .ok (.dup2, 1) := by decide +kernel
theorem dX7_come_39 : decode cX7_come 39 = .ok (.iaload, 1) := by decide +kernel
theorem dX7_come_40 : decode cX7_come 40 = .ok (.iload_n 3, 1) := by decide +kernel
theorem dX7_come_41 : decode cX7_come 41 = .ok (.iadd, 1) := by decide +kernel
theorem dX7_come_42 : decode cX7_come 42 = .ok (.iastore, 1) := by decide +kernel
theorem dX7_come_43 : decode cX7_come 43 = .ok (.return_, 1) := by decide +kernel
theorem dX7_come_44 : decode cX7_come 44 = .ok (.aload_n 0, 1) := by decide +kernel
theorem dX7_come_45 : decode cX7_come 45 = .ok (.getfield 44, 3) := by decide +kernel
theorem dX7_come_48 : decode cX7_come 48 = .ok (.iload_n 1, 1) := by decide +kernel
theorem dX7_come_49 : decode cX7_come 49 = .ok (.dup2, 1) := by decide +kernel
theorem dX7_come_50 : decode cX7_come 50 = .ok (.iaload, 1) := by decide +kernel
theorem dX7_come_51 : decode cX7_come 51 = .ok (.iload_n 3, 1) := by decide +kernel
theorem dX7_come_52 : decode cX7_come 52 = .ok (.iadd, 1) := by decide +kernel
theorem dX7_come_53 : decode cX7_come 53 = .ok (.iastore, 1) := by decide +kernel
theorem dX7_come_54 : decode cX7_come 54 = .ok (.aload_n 0, 1) := by decide +kernel
theorem dX7_come_55 : decode cX7_come 55 = .ok (.getfield 80, 3) := by decide +kernel
theorem dX7_come_58 : decode cX7_come 58 = .ok (.iload_n 2, 1) := by decide +kernel
theorem dX7_come_59 : decode cX7_come 59 = .ok (.dup2, 1) := by decide +kernel
theorem dX7_come_60 : decode cX7_come 60 = .ok (.iaload, 1) := by decide +kernel
theorem dX7_come_61 : decode cX7_come 61 = .ok (.iload_n 3, 1) := by decide +kernel
theorem dX7_come_62 : decode cX7_come 62 = .ok (.iadd, 1) := by decide +kernel
theorem dX7_come_63 : decode cX7_come 63 = .ok (.iastore, 1) := by decide +kernel
theorem dX7_come_64 : decode cX7_come 64 = .ok (.bipush 7, 2) := by decide +kernel
theorem dX7_come_66 : decode cX7_come 66 = .ok (.iload 4, 2) := by decide +kernel
theorem dX7_come_68 : decode cX7_come 68 = .ok (.imul, 1) := by decide +kernel
theorem dX7_come_69 : decode cX7_come 69 = .ok (.aload_n 0, 1) := by decide +kernel
theorem dX7_come_70 : decode cX7_come 70 = .ok (.getfield 62, 3) := by decide +kernel
theorem dX7_come_73 : decode cX7_come 73 = .ok (.iload_n 2, 1) := by decide +kernel
theorem dX7_come_74 : decode cX7_come 74 = .ok (.iaload, 1) := by decide +kernel
theorem dX7_come_75 : decode cX7_come 75 = .ok (.iadd, 1) := by decide +kernel
theorem dX7_come_76 : decode cX7_come 76 = .ok (.istore 5, 2) := by decide +kernel
theorem dX7_come_78 : decode cX7_come 78 = .ok (.aload_n 0, 1) := by decide +kernel
theorem dX7_come_79 : decode cX7_come 79 = .ok (.getfield 92, 3) := by decide +kernel
theorem dX7_come_82 : decode cX7_come 82 = .ok (.iload 5, 2) := by decide +kernel
theorem dX7_come_84 : decode cX7_come 84 = .ok (.aload_n 0, 1) := by decide +kernel
theorem dX7_come_85 : decode cX7_come 85 = .ok (.getfield 71, 3) := by decide +kernel
theorem dX7_come_88 : decode cX7_come 88 = .ok (.iload_n 2, 1) := by decide +kernel
theorem dX7_come_89 : decode cX7_come 89 = .ok (.iaload, 1) := by decide +kernel
theorem dX7_come_90 : decode cX7_come 90 = .ok (.aload_n 0, 1) := by decide +kernel
theorem dX7_come_91 : decode cX7_come 91 = .ok (.getfield 92, 3) := by decide +kernel
theorem dX7_come_94 : decode cX7_come 94 = .ok (.iload 5, 2) := by decide +kernel
theorem dX7_come_96 : decode cX7_come 96 = .ok (.iaload, 1) := by decide +kernel
theorem dX7_come_97 : decode cX7_come 97 = .ok (.if_icmp .le 12, 3) := by decide +kernel
theorem dX7_come_100 : decode cX7_come 100 = .ok (.aload_n 0, 1) := by decide +kernel
theorem dX7_come_101 : decode cX7_come 101 = .ok (.getfield 71, 3) := by decide +kernel
theorem dX7_come_104 : decode cX7_come 104 = .ok (.iload_n 2, 1) := by decide +kernel
theorem dX7_come_105 : decode cX7_come 105 = .ok (.iaload, 1) := by decide +kernel
theorem dX7_come_106 : decode cX7_come 106 = .ok (.goto 10, 3) := by decide +kernel
theorem dX7_come_109 : decode cX7_come 109 = .ok (.aload_n 0, 1) := by decide +kernel
theorem dX7_come_110 : decode cX7_come 110 = .ok (.getfield 92, 3) := by decide +kernel
theorem dX7_come_113 : decode cX7_come 113 = .ok (.iload 5, 2) := by decide +kernel
theorem dX7_come_115 : decode cX7_come 115 = .ok (.iaload, 1) := by decide +kernel
theorem dX7_come_116 : decode cX7_come 116 = .ok (.iastore, 1) := by decide +kernel
theorem dX7_come_117 : decode cX7_come 117 = .ok (.aload_n 0, 1) := by decide +kernel
theorem dX7_come_118 : decode cX7_come 118 = .ok (.getfield 89, 3) := by decide +kernel
theorem dX7_come_121 : decode cX7_come 121 = .ok (.iload 4, 2) := by decide +kernel
theorem dX7_come_123 : decode cX7_come 123 = .ok (.dup2, 1) := by decide +kernel
theorem dX7_come_124 : decode cX7_come 124 = .ok (.iaload, 1) := by decide +kernel
theorem dX7_come_125 : decode cX7_come 125 = .ok (.aload_n 0, 1) := by decide +kernel
theorem dX7_come_126 : decode cX7_come 126 = .ok (.getfield 74, 3) := by decide +kernel
theorem dX7_come_129 : decode cX7_come 129 = .ok (.iload_n 2, 1) := by decide +kernel
theorem dX7_come_130 : decode cX7_come 130 = .ok (.iaload, 1) := by decide +kernel
theorem dX7_come_131 : decode cX7_come 131 = .ok (.ior, 1) := by decide +kernel
theorem dX7_come_132 : decode cX7_come 132 = .ok (.iastore, 1) := by decide +kernel
theorem dX7_come_133 : decode cX7_come 133 = .ok (.return_, 1) := by decide +kernel
set_option maxRecDepth 20000 in
theorem ggX7_takeIn_X7_in : GoodIn wsX7_takeIn wsX7_in := goodIn_r _ [7] (by decide +kernel) (by decide +kernel)
set_option maxRecDepth 20000 in
theorem gX7_takeIn_X7_in : GoodIn wsX7_takeIn (va_wsS RX7 105 yX7_in wsX7_in) := goodIn_app (goodIn_of _ (by decide +kernel)) ggX7_takeIn_X7_in
set_option maxRecDepth 20000 in
theorem ggX7_takeIn_X7_come : GoodIn wsX7_takeIn wsX7_come := goodIn_r _ [11, 12, 13, 14, 15, 16, 17, 18, 19, 20, 21, 22, 23, 24, 6, 25, 26, 27, 28, 29, 30, 31, 32, 33, 34, 35, 36, 37, 38, 39, 40, 41, 42, 43, 44, 45, 46, 47, 48, 49, 50, 51, 52, 53, 54, 55, 56, 57, 58, 59, 60] (by decide +kernel) (by decide +kernel)
set_option maxRecDepth 20000 in
theorem gX7_takeIn_X7_come : GoodIn wsX7_takeIn (wsV RX7 131 RX7 yX7_come wsX7_come) := goodIn_app (goodIn_of _ (by decide +kernel)) ggX7_takeIn_X7_come
theorem dX7_takeIn_0 : decode cX7_takeIn 0 = .ok (.iconst 0, 1) := by decide +kernel
theorem dX7_takeIn_1 : decode cX7_takeIn 1 = .ok (.istore_n 3, 1) := by decide +kernel
theorem dX7_takeIn_2 : decode cX7_takeIn 2 = .ok (.iload_n 3, 1) := by decide +kernel
theorem dX7_takeIn_3 : decode cX7_takeIn 3 = .ok (.aload_n 0, 1) := by decide +kernel
theorem dX7_takeIn_4 : decode cX7_takeIn 4 = .ok (.getfield 38, 3) := by decide +kernel
theorem dX7_takeIn_7 : decode cX7_takeIn 7 = .ok (.iload_n 1, 1) := by decide +kernel
theorem dX7_takeIn_8 : decode cX7_takeIn 8 = .ok (.iaload, 1) := by decide +kernel
theorem dX7_takeIn_9 : decode cX7_takeIn 9 = .ok (.if_icmp .ge 87, 3) := by decide +kernel
theorem dX7_takeIn_12 : decode cX7_takeIn 12 = .ok (.sipush 1200, 3) := by decide +kernel
theorem dX7_takeIn_15 : decode cX7_takeIn 15 = .ok (.iload_n 1, 1) := by decide +kernel
theorem dX7_takeIn_16 : decode cX7_takeIn 16 = .ok (.imul, 1) := by decide +kernel
theorem dX7_takeIn_17 : decode cX7_takeIn 17 = .ok (.iload_n 3, 1) := by decide +kernel
theorem dX7_takeIn_18 : decode cX7_takeIn 18 = .ok (.iadd, 1) := by decide +kernel
theorem dX7_takeIn_19 : decode cX7_takeIn 19 = .ok (.istore 4, 2) := by decide +kernel
theorem dX7_takeIn_21 : decode cX7_takeIn 21 = .ok (.iload_n 2, 1) := by decide +kernel
theorem dX7_takeIn_22 : decode cX7_takeIn 22 = .ok (.aload_n 0, 1) := by decide +kernel
theorem dX7_takeIn_23 : decode cX7_takeIn 23 = .ok (.getfield 77, 3) := by decide +kernel
theorem dX7_takeIn_26 : decode cX7_takeIn 26 = .ok (.iload 4, 2) := by decide +kernel
theorem dX7_takeIn_28 : decode cX7_takeIn 28 = .ok (.iaload, 1) := by decide +kernel
theorem dX7_takeIn_29 : decode cX7_takeIn 29 = .ok (.isub, 1) := by decide +kernel
theorem dX7_takeIn_30 : decode cX7_takeIn 30 = .ok (.istore 5, 2) := by decide +kernel
theorem dX7_takeIn_32 : decode cX7_takeIn 32 = .ok (.aload_n 0, 1) := by decide +kernel
theorem dX7_takeIn_33 : decode cX7_takeIn 33 = .ok (.getfield 77, 3) := by decide +kernel
theorem dX7_takeIn_36 : decode cX7_takeIn 36 = .ok (.iload 4, 2) := by decide +kernel
theorem dX7_takeIn_38 : decode cX7_takeIn 38 = .ok (.iaload, 1) := by decide +kernel
theorem dX7_takeIn_39 : decode cX7_takeIn 39 = .ok (.ifCond .lt 51, 3) := by decide +kernel
theorem dX7_takeIn_42 : decode cX7_takeIn 42 = .ok (.iload 5, 2) := by decide +kernel
theorem dX7_takeIn_44 : decode cX7_takeIn 44 = .ok (.iconst 0, 1) := by decide +kernel
theorem dX7_takeIn_45 : decode cX7_takeIn 45 = .ok (.iconst 5, 1) := by decide +kernel
theorem dX7_takeIn_46 : decode cX7_takeIn 46 = .ok (.invokestatic 105, 3) := by decide +kernel
theorem dX7_takeIn_49 : decode cX7_takeIn 49 = .ok (.ifCond .eq 41, 3) := by decide +kernel
theorem dX7_takeIn_52 : decode cX7_takeIn 52 = .ok (.iload 5, 2) := by decide +kernel
theorem dX7_takeIn_54 : decode cX7_takeIn 54 = .ok (.ifCond .ne 7, 3) := by decide +kernel
theorem dX7_takeIn_57 : decode cX7_takeIn 57 = .ok (.iconst 1, 1) := by decide +kernel
theorem dX7_takeIn_58 : decode cX7_takeIn 58 = .ok (.goto 16, 3) := by decide +kernel
theorem dX7_takeIn_61 : decode cX7_takeIn 61 = .ok (.aload_n 0, 1) := by decide +kernel
theorem dX7_takeIn_62 : decode cX7_takeIn 62 = .ok (.getfield 83, 3) := by decide +kernel
theorem dX7_takeIn_65 : decode cX7_takeIn 65 = .ok (.bipush 6, 2) := by decide +kernel
theorem dX7_takeIn_67 : decode cX7_takeIn 67 = .ok (.iload 4, 2) := by decide +kernel
theorem dX7_takeIn_69 : decode cX7_takeIn 69 = .ok (.imul, 1) := by decide +kernel
theorem dX7_takeIn_70 : decode cX7_takeIn 70 = .ok (.iload 5, 2) := by decide +kernel
theorem dX7_takeIn_72 : decode cX7_takeIn 72 = .ok (.iadd, 1) := by decide +kernel
theorem dX7_takeIn_73 : decode cX7_takeIn 73 = .ok (.iaload, 1) := by decide +kernel
theorem dX7_takeIn_74 : decode cX7_takeIn 74 = .ok (.istore 6, 2) := by decide +kernel
theorem dX7_takeIn_76 : decode cX7_takeIn 76 = .ok (.iload 6, 2) := by decide +kernel
theorem dX7_takeIn_78 : decode cX7_takeIn 78 = .ok (.ifCond .le 12, 3) := by decide +kernel
theorem dX7_takeIn_81 : decode cX7_takeIn 81 = .ok (.aload_n 0, 1) := by decide +kernel
theorem dX7_takeIn_82 : decode cX7_takeIn 82 = .ok (.iload_n 1, 1) := by decide +kernel
theorem dX7_takeIn_83 : decode cX7_takeIn 83 = .ok (.iload 4, 2) := by decide +kernel
theorem dX7_takeIn_85 : decode cX7_takeIn 85 = .ok (.iload 6, 2) := by decide +kernel
theorem dX7_takeIn_87 : decode cX7_takeIn 87 = .ok (.invokevirtual 131, 3) := by decide +kernel
theorem dX7_takeIn_90 : decode cX7_takeIn 90 = .ok (.iinc 3 1, 3) := by decide +kernel
theorem dX7_takeIn_93 : decode cX7_takeIn 93 = .ok (.goto (-91), 3) := by decide +kernel
theorem dX7_takeIn_96 : decode cX7_takeIn 96 = .ok (.return_, 1) := by decide +kernel
theorem dX7_grow_0 : decode cX7_grow 0 = .ok (.iconst 0, 1) := by decide +kernel
theorem dX7_grow_1 : decode cX7_grow 1 = .ok (.istore_n 1, 1) := by decide +kernel
theorem dX7_grow_2 : decode cX7_grow 2 = .ok (.iload_n 1, 1) := by decide +kernel
theorem dX7_grow_3 : decode cX7_grow 3 = .ok (.aload_n 0, 1) := by decide +kernel
theorem dX7_grow_4 : decode cX7_grow 4 = .ok (.getfield 101, 3) := by decide +kernel
theorem dX7_grow_7 : decode cX7_grow 7 = .ok (.if_icmp .ge 113, 3) := by decide +kernel
theorem dX7_grow_10 : decode cX7_grow 10 = .ok (.iconst 0, 1) := by decide +kernel
theorem dX7_grow_11 : decode cX7_grow 11 = .ok (.istore_n 2, 1) := by decide +kernel
theorem dX7_grow_12 : decode cX7_grow 12 = .ok (.iconst 0, 1) := by decide +kernel
theorem dX7_grow_13 : decode cX7_grow 13 = .ok (.istore_n 3, 1) := by decide +kernel
theorem dX7_grow_14 : decode cX7_grow 14 = .ok (.iload_n 3, 1) := by decide +kernel
theorem dX7_grow_15 : decode cX7_grow 15 = .ok (.aload_n 0, 1) := by decide +kernel
theorem dX7_grow_16 : decode cX7_grow 16 = .ok (.getfield 101, 3) := by decide +kernel
theorem dX7_grow_19 : decode cX7_grow 19 = .ok (.if_icmp .ge 42, 3) := by decide +kernel
theorem dX7_grow_22 : decode cX7_grow 22 = .ok (.iload_n 2, 1) := by decide +kernel
theorem dX7_grow_23 : decode cX7_grow 23 = .ok (.iload_n 3, 1) := by decide +kernel
theorem dX7_grow_24 : decode cX7_grow 24 = .ok (.iload_n 1, 1) := by decide +kernel
theorem dX7_grow_25 : decode cX7_grow 25 = .ok (.if_icmp .eq 23, 3) := by decide +kernel
theorem dX7_grow_28 : decode cX7_grow 28 = .ok (.aload_n 0, 1) := by decide +kernel
theorem dX7_grow_29 : decode cX7_grow 29 = .ok (.getfield 92, 3) := by decide +kernel
theorem dX7_grow_32 : decode cX7_grow 32 = .ok (.bipush 7, 2) := by decide +kernel
theorem dX7_grow_34 : decode cX7_grow 34 = .ok (.iload_n 1, 1) := by decide +kernel
theorem dX7_grow_35 : decode cX7_grow 35 = .ok (.imul, 1) := by decide +kernel
theorem dX7_grow_36 : decode cX7_grow 36 = .ok (.iload_n 3, 1) := by decide +kernel
theorem dX7_grow_37 : decode cX7_grow 37 = .ok (.iadd, 1) := by decide +kernel
theorem dX7_grow_38 : decode cX7_grow 38 = .ok (.iaload, 1) := by decide +kernel
theorem dX7_grow_39 : decode cX7_grow 39 = .ok (.aload_n 0, 1) := by decide +kernel
theorem dX7_grow_40 : decode cX7_grow 40 = .ok (.getfield 86, 3) := by decide +kernel
theorem dX7_grow_43 : decode cX7_grow 43 = .ok (.iload_n 1, 1) := by decide +kernel
theorem dX7_grow_44 : decode cX7_grow 44 = .ok (.iaload, 1) := by decide +kernel
theorem dX7_grow_45 : decode cX7_grow 45 = .ok (.if_icmp .lt 7, 3) := by decide +kernel
theorem dX7_grow_48 : decode cX7_grow 48 = .ok (.iconst 1, 1) := by decide +kernel
theorem dX7_grow_49 : decode cX7_grow 49 = .ok (.goto 4, 3) := by decide +kernel
theorem dX7_grow_52 : decode cX7_grow 52 = .ok (.iconst 0, 1) := by decide +kernel
theorem dX7_grow_53 : decode cX7_grow 53 = .ok (.iadd, 1) := by decide +kernel
theorem dX7_grow_54 : decode cX7_grow 54 = .ok (.istore_n 2, 1) := by decide +kernel
theorem dX7_grow_55 : decode cX7_grow 55 = .ok (.iinc 3 1, 3) := by decide +kernel
theorem dX7_grow_58 : decode cX7_grow 58 = .ok (.goto (-44), 3) := by decide +kernel
theorem dX7_grow_61 : decode cX7_grow 61 = .ok (.aload_n 0, 1) := by decide +kernel
theorem dX7_grow_62 : decode cX7_grow 62 = .ok (.getfield 98, 3) := by decide +kernel
theorem dX7_grow_65 : decode cX7_grow 65 = .ok (.iload_n 1, 1) := by decide +kernel
theorem dX7_grow_66 : decode cX7_grow 66 = .ok (.aload_n 0, 1) := by decide +kernel
theorem dX7_grow_67 : decode cX7_grow 67 = .ok (.getfield 95, 3) := by decide +kernel
theorem dX7_grow_70 : decode cX7_grow 70 = .ok (.iload_n 1, 1) := by decide +kernel
theorem dX7_grow_71 : decode cX7_grow 71 = .ok (.baload, 1) := by decide +kernel
theorem dX7_grow_72 : decode cX7_grow 72 = .ok (.ifCond .ne 17, 3) := by decide +kernel
theorem dX7_grow_75 : decode cX7_grow 75 = .ok (.iconst 2, 1) := by decide +kernel
theorem dX7_grow_76 : decode cX7_grow 76 = .ok (.iload_n 2, 1) := by decide +kernel
theorem dX7_grow_77 : decode cX7_grow 77 = .ok (.imul, 1) := by decide +kernel
theorem dX7_grow_78 : decode cX7_grow 78 = .ok (.aload_n 0, 1) := by decide +kernel
theorem dX7_grow_79 : decode cX7_grow 79 = .ok (.getfield 101, 3) := by decide +kernel
theorem dX7_grow_82 : decode cX7_grow 82 = .ok (.if_icmp .le 7, 3) := by decide +kernel
theorem dX7_grow_85 : decode cX7_grow 85 = .ok (.iconst 1, 1) := by decide +kernel
theorem dX7_grow_86 : decode cX7_grow 86 = .ok (.goto 4, 3) := by decide +kernel
theorem dX7_grow_89 : decode cX7_grow 89 = .ok (.iconst 0, 1) := by decide +kernel
theorem dX7_grow_90 : decode cX7_grow 90 = .ok (.bastore, 1) := by decide +kernel
theorem dX7_grow_91 : decode cX7_grow 91 = .ok (.aload_n 0, 1) := by decide +kernel
theorem dX7_grow_92 : decode cX7_grow 92 = .ok (.getfield 86, 3) := by decide +kernel
theorem dX7_grow_95 : decode cX7_grow 95 = .ok (.iload_n 1, 1) := by decide +kernel
theorem dX7_grow_96 : decode cX7_grow 96 = .ok (.dup2, 1) := by decide +kernel
theorem dX7_grow_97 : decode cX7_grow 97 = .ok (.iaload, 1) := by decide +kernel
theorem dX7_grow_98 : decode cX7_grow 98 = .ok (.aload_n 0, 1) := by decide +kernel
theorem dX7_grow_99 : decode cX7_grow 99 = .ok (.getfield 98, 3) := by decide +kernel
theorem dX7_grow_102 : decode cX7_grow 102 = .ok (.iload_n 1, 1) := by decide +kernel
theorem dX7_grow_103 : decode cX7_grow 103 = .ok (.baload, 1) := by decide +kernel
theorem dX7_grow_104 : decode cX7_grow 104 = .ok (.ifCond .eq 7, 3) := by decide +kernel
theorem dX7_grow_107 : decode cX7_grow 107 = .ok (.iconst 1, 1) := by decide +kernel
theorem dX7_grow_108 : decode cX7_grow 108 = .ok (.goto 4, 3) := by decide +kernel
theorem dX7_grow_111 : decode cX7_grow 111 = .ok (.iconst 0, 1) := by decide +kernel
theorem dX7_grow_112 : decode cX7_grow 112 = .ok (.iadd, 1) := by decide +kernel
theorem dX7_grow_113 : decode cX7_grow 113 = .ok (.iastore, 1) := by decide +kernel
theorem dX7_grow_114 : decode cX7_grow 114 = .ok (.iinc 1 1, 3) := by decide +kernel
theorem dX7_grow_117 : decode cX7_grow 117 = .ok (.goto (-115), 3) := by decide +kernel
theorem dX7_grow_120 : decode cX7_grow 120 = .ok (.return_, 1) := by decide +kernel
theorem dX7_send_0 : decode cX7_send 0 = .ok (.aload_n 0, 1) := by decide +kernel
theorem dX7_send_1 : decode cX7_send 1 = .ok (.getfield 38, 3) := by decide +kernel
theorem dX7_send_4 : decode cX7_send 4 = .ok (.iload_n 1, 1) := by decide +kernel
theorem dX7_send_5 : decode cX7_send 5 = .ok (.dup2, 1) := by decide +kernel
theorem dX7_send_6 : decode cX7_send 6 = .ok (.iaload, 1) := by decide +kernel
theorem dX7_send_7 : decode cX7_send 7 = .ok (.dup_x2, 1) := by decide +kernel
theorem dX7_send_8 : decode cX7_send 8 = .ok (.iconst 1, 1) := by decide +kernel
theorem dX7_send_9 : decode cX7_send 9 = .ok (.iadd, 1) := by decide +kernel
theorem dX7_send_10 : decode cX7_send 10 = .ok (.iastore, 1) := by decide +kernel
theorem dX7_send_11 : decode cX7_send 11 = .ok (.istore 5, 2) := by decide +kernel
theorem dX7_send_13 : decode cX7_send 13 = .ok (.sipush 1200, 3) := by decide +kernel
theorem dX7_send_16 : decode cX7_send 16 = .ok (.iload_n 1, 1) := by decide +kernel
theorem dX7_send_17 : decode cX7_send 17 = .ok (.imul, 1) := by decide +kernel
theorem dX7_send_18 : decode cX7_send 18 = .ok (.iload 5, 2) := by decide +kernel
theorem dX7_send_20 : decode cX7_send 20 = .ok (.iadd, 1) := by decide +kernel
theorem dX7_send_21 : decode cX7_send 21 = .ok (.istore 6, 2) := by decide +kernel
theorem dX7_send_23 : decode cX7_send 23 = .ok (.aload_n 0, 1) := by decide +kernel
theorem dX7_send_24 : decode cX7_send 24 = .ok (.getfield 62, 3) := by decide +kernel
theorem dX7_send_27 : decode cX7_send 27 = .ok (.iload 6, 2) := by decide +kernel
theorem dX7_send_29 : decode cX7_send 29 = .ok (.iload_n 3, 1) := by decide +kernel
theorem dX7_send_30 : decode cX7_send 30 = .ok (.iastore, 1) := by decide +kernel
theorem dX7_send_31 : decode cX7_send 31 = .ok (.aload_n 0, 1) := by decide +kernel
theorem dX7_send_32 : decode cX7_send 32 = .ok (.getfield 65, 3) := by decide +kernel
theorem dX7_send_35 : decode cX7_send 35 = .ok (.iload 6, 2) := by decide +kernel
theorem dX7_send_37 : decode cX7_send 37 = .ok (.iload 4, 2) := by decide +kernel
theorem dX7_send_39 : decode cX7_send 39 = .ok (.iastore, 1) := by decide +kernel
theorem dX7_send_40 : decode cX7_send 40 = .ok (.aload_n 0, 1) := by decide +kernel
theorem dX7_send_41 : decode cX7_send 41 = .ok (.getfield 68, 3) := by decide +kernel
theorem dX7_send_44 : decode cX7_send 44 = .ok (.iload 6, 2) := by decide +kernel
theorem dX7_send_46 : decode cX7_send 46 = .ok (.iload_n 2, 1) := by decide +kernel
theorem dX7_send_47 : decode cX7_send 47 = .ok (.iastore, 1) := by decide +kernel
theorem dX7_send_48 : decode cX7_send 48 = .ok (.aload_n 0, 1) := by decide +kernel
theorem dX7_send_49 : decode cX7_send 49 = .ok (.getfield 71, 3) := by decide +kernel
theorem dX7_send_52 : decode cX7_send 52 = .ok (.iload 6, 2) := by decide +kernel
theorem dX7_send_54 : decode cX7_send 54 = .ok (.aload_n 0, 1) := by decide +kernel
theorem dX7_send_55 : decode cX7_send 55 = .ok (.getfield 7, 3) := by decide +kernel
theorem dX7_send_58 : decode cX7_send 58 = .ok (.iload_n 3, 1) := by decide +kernel
theorem dX7_send_59 : decode cX7_send 59 = .ok (.iaload, 1) := by decide +kernel
theorem dX7_send_60 : decode cX7_send 60 = .ok (.iconst 3, 1) := by decide +kernel
theorem dX7_send_61 : decode cX7_send 61 = .ok (.if_icmp .ne 7, 3) := by decide +kernel
theorem dX7_send_64 : decode cX7_send 64 = .ok (.iconst 0, 1) := by decide +kernel
theorem dX7_send_65 : decode cX7_send 65 = .ok (.goto 25, 3) := by decide +kernel
theorem dX7_send_68 : decode cX7_send 68 = .ok (.aload_n 0, 1) := by decide +kernel
theorem dX7_send_69 : decode cX7_send 69 = .ok (.getfield 86, 3) := by decide +kernel
theorem dX7_send_72 : decode cX7_send 72 = .ok (.iload_n 3, 1) := by decide +kernel
theorem dX7_send_73 : decode cX7_send 73 = .ok (.iaload, 1) := by decide +kernel
theorem dX7_send_74 : decode cX7_send 74 = .ok (.aload_n 0, 1) := by decide +kernel
theorem dX7_send_75 : decode cX7_send 75 = .ok (.getfield 7, 3) := by decide +kernel
theorem dX7_send_78 : decode cX7_send 78 = .ok (.iload_n 3, 1) := by decide +kernel
theorem dX7_send_79 : decode cX7_send 79 = .ok (.iaload, 1) := by decide +kernel
theorem dX7_send_80 : decode cX7_send 80 = .ok (.iconst 1, 1) := by decide +kernel
theorem dX7_send_81 : decode cX7_send 81 = .ok (.if_icmp .ne 7, 3) := by decide +kernel
theorem dX7_send_84 : decode cX7_send 84 = .ok (.iconst 3, 1) := by decide +kernel
theorem dX7_send_85 : decode cX7_send 85 = .ok (.goto 4, 3) := by decide +kernel
theorem dX7_send_88 : decode cX7_send 88 = .ok (.iconst 0, 1) := by decide +kernel
theorem dX7_send_89 : decode cX7_send 89 = .ok (.iadd, 1) := by decide +kernel
theorem dX7_send_90 : decode cX7_send 90 = .ok (.iastore, 1) := by decide +kernel
theorem dX7_send_91 : decode cX7_send 91 = .ok (.aload_n 0, 1) := by decide +kernel
theorem dX7_send_92 : decode cX7_send 92 = .ok (.getfield 74, 3) := by decide +kernel
theorem dX7_send_95 : decode cX7_send 95 = .ok (.iload 6, 2) := by decide +kernel
theorem dX7_send_97 : decode cX7_send 97 = .ok (.aload_n 0, 1) := by decide +kernel
theorem dX7_send_98 : decode cX7_send 98 = .ok (.getfield 89, 3) := by decide +kernel
theorem dX7_send_101 : decode cX7_send 101 = .ok (.iload_n 3, 1) := by decide +kernel
theorem dX7_send_102 : decode cX7_send 102 = .ok (.iaload, 1) := by decide +kernel
theorem dX7_send_103 : decode cX7_send 103 = .ok (.iastore, 1) := by decide +kernel
theorem dX7_send_104 : decode cX7_send 104 = .ok (.aload_n 0, 1) := by decide +kernel
theorem dX7_send_105 : decode cX7_send 105 = .ok (.getfield 80, 3) := by decide +kernel
theorem dX7_send_108 : decode cX7_send 108 = .ok (.iload 6, 2) := by decide +kernel
theorem dX7_send_110 : decode cX7_send 110 = .ok (.iconst 0, 1) := by decide +kernel
theorem dX7_send_111 : decode cX7_send 111 = .ok (.iastore, 1) := by decide +kernel
theorem dX7_send_112 : decode cX7_send 112 = .ok (.aload_n 0, 1) := by decide +kernel
theorem dX7_send_113 : decode cX7_send 113 = .ok (.getfield 77, 3) := by decide +kernel
theorem dX7_send_116 : decode cX7_send 116 = .ok (.iload 6, 2) := by decide +kernel
theorem dX7_send_118 : decode cX7_send 118 = .ok (.iload_n 2, 1) := by decide +kernel
theorem dX7_send_119 : decode cX7_send 119 = .ok (.aload_n 0, 1) := by decide +kernel
theorem dX7_send_120 : decode cX7_send 120 = .ok (.getfield 13, 3) := by decide +kernel
theorem dX7_send_123 : decode cX7_send 123 = .ok (.bipush 7, 2) := by decide +kernel
theorem dX7_send_125 : decode cX7_send 125 = .ok (.iload_n 3, 1) := by decide +kernel
theorem dX7_send_126 : decode cX7_send 126 = .ok (.imul, 1) := by decide +kernel
theorem dX7_send_127 : decode cX7_send 127 = .ok (.iload 4, 2) := by decide +kernel
theorem dX7_send_129 : decode cX7_send 129 = .ok (.iadd, 1) := by decide +kernel
theorem dX7_send_130 : decode cX7_send 130 = .ok (.iaload, 1) := by decide +kernel
theorem dX7_send_131 : decode cX7_send 131 = .ok (.iadd, 1) := by decide +kernel
theorem dX7_send_132 : decode cX7_send 132 = .ok (.iastore, 1) := by decide +kernel
theorem dX7_send_133 : decode cX7_send 133 = .ok (.iload 5, 2) := by decide +kernel
theorem dX7_send_135 : decode cX7_send 135 = .ok (.iconst 5, 1) := by decide +kernel
theorem dX7_send_136 : decode cX7_send 136 = .ok (.if_icmp .ge 20, 3) := by decide +kernel
theorem dX7_send_139 : decode cX7_send 139 = .ok (.aload_n 0, 1) := by decide +kernel
theorem dX7_send_140 : decode cX7_send 140 = .ok (.getfield 135, 3) := by decide +kernel
theorem dX7_send_143 : decode cX7_send 143 = .ok (.iload 5, 2) := by decide +kernel
theorem dX7_send_145 : decode cX7_send 145 = .ok (.ishr, 1) := by decide +kernel
theorem dX7_send_146 : decode cX7_send 146 = .ok (.iconst 1, 1) := by decide +kernel
theorem dX7_send_147 : decode cX7_send 147 = .ok (.iand, 1) := by decide +kernel
theorem dX7_send_148 : decode cX7_send 148 = .ok (.iconst 1, 1) := by decide +kernel
theorem dX7_send_149 : decode cX7_send 149 = .ok (.if_icmp .ne 7, 3) := by decide +kernel
theorem dX7_send_152 : decode cX7_send 152 = .ok (.iconst 1, 1) := by decide +kernel
theorem dX7_send_153 : decode cX7_send 153 = .ok (.goto 4, 3) := by decide +kernel
theorem dX7_send_156 : decode cX7_send 156 = .ok (.iconst 0, 1) := by decide +kernel
theorem dX7_send_157 : decode cX7_send 157 = .ok (.istore 7, 2) := by decide +kernel
theorem dX7_send_159 : decode cX7_send 159 = .ok (.iconst 0, 1) := by decide +kernel
theorem dX7_send_160 : decode cX7_send 160 = .ok (.istore 8, 2) := by decide +kernel
theorem dX7_send_162 : decode cX7_send 162 = .ok (.iload 8, 2) := by decide +kernel
theorem dX7_send_164 : decode cX7_send 164 = .ok (.bipush 6, 2) := by decide +kernel
theorem dX7_send_166 : decode cX7_send 166 = .ok (.if_icmp .ge 23, 3) := by decide +kernel
theorem dX7_send_169 : decode cX7_send 169 = .ok (.aload_n 0, 1) := by decide +kernel
theorem dX7_send_170 : decode cX7_send 170 = .ok (.getfield 83, 3) := by decide +kernel
theorem dX7_send_173 : decode cX7_send 173 = .ok (.bipush 6, 2) := by decide +kernel
theorem dX7_send_175 : decode cX7_send 175 = .ok (.iload 6, 2) := by decide +kernel
theorem dX7_send_177 : decode cX7_send 177 = .ok (.imul, 1) := by decide +kernel
theorem dX7_send_178 : decode cX7_send 178 = .ok (.iload 8, 2) := by decide +kernel
theorem dX7_send_180 : decode cX7_send 180 = .ok (.iadd, 1) := by decide +kernel
theorem dX7_send_181 : decode cX7_send 181 = .ok (.iconst 0, 1) := by decide +kernel
theorem dX7_send_182 : decode cX7_send 182 = .ok (.iastore, 1) := by decide +kernel
theorem dX7_send_183 : decode cX7_send 183 = .ok (.iinc 8 1, 3) := by decide +kernel
theorem dX7_send_186 : decode cX7_send 186 = .ok (.goto (-24), 3) := by decide +kernel
theorem dX7_send_189 : decode cX7_send 189 = .ok (.iconst 0, 1) := by decide +kernel
theorem dX7_send_190 : decode cX7_send 190 = .ok (.istore 8, 2) := by decide +kernel
theorem dX7_send_192 : decode cX7_send 192 = .ok (.iload 8, 2) := by decide +kernel
theorem dX7_send_194 : decode cX7_send 194 = .ok (.aload_n 0, 1) := by decide +kernel
theorem dX7_send_195 : decode cX7_send 195 = .ok (.getfield 117, 3) := by decide +kernel
theorem dX7_send_198 : decode cX7_send 198 = .ok (.if_icmp .ge 135, 3) := by decide +kernel
theorem dX7_send_201 : decode cX7_send 201 = .ok (.aload_n 0, 1) := by decide +kernel
theorem dX7_send_202 : decode cX7_send 202 = .ok (.getfield 31, 3) := by decide +kernel
theorem dX7_send_205 : decode cX7_send 205 = .ok (.iload 8, 2) := by decide +kernel
theorem dX7_send_207 : decode cX7_send 207 = .ok (.baload, 1) := by decide +kernel
theorem dX7_send_208 : decode cX7_send 208 = .ok (.ifCond .ne 119, 3) := by decide +kernel
theorem dX7_send_211 : decode cX7_send 211 = .ok (.aload_n 0, 1) := by decide +kernel
theorem dX7_send_212 : decode cX7_send 212 = .ok (.getfield 19, 3) := by decide +kernel
theorem dX7_send_215 : decode cX7_send 215 = .ok (.iload 8, 2) := by decide +kernel
theorem dX7_send_217 : decode cX7_send 217 = .ok (.iaload, 1) := by decide +kernel
theorem dX7_send_218 : decode cX7_send 218 = .ok (.iconst 3, 1) := by decide +kernel
theorem dX7_send_219 : decode cX7_send 219 = .ok (.if_icmp .le 108, 3) := by decide +kernel
theorem dX7_send_222 : decode cX7_send 222 = .ok (.aload_n 0, 1) := by decide +kernel
theorem dX7_send_223 : decode cX7_send 223 = .ok (.getfield 25, 3) := by decide +kernel
theorem dX7_send_226 : decode cX7_send 226 = .ok (.iload 8, 2) := by decide +kernel
theorem dX7_send_228 : decode cX7_send 228 = .ok (.iaload, 1) := by decide +kernel
theorem dX7_send_229 : decode cX7_send 229 = .ok (.iload 5, 2) := by decide +kernel
theorem dX7_send_231 : decode cX7_send 231 = .ok (.if_icmp .ne 96, 3) := by decide +kernel
theorem dX7_send_234 : decode cX7_send 234 = .ok (.iload 7, 2) := by decide +kernel
theorem dX7_send_236 : decode cX7_send 236 = .ok (.ifCond .ne 14, 3) := by decide +kernel
theorem dX7_send_239 : decode cX7_send 239 = .ok (.aload_n 0, 1) := by decide +kernel
theorem dX7_send_240 : decode cX7_send 240 = .ok (.getfield 19, 3) := by decide +kernel
theorem dX7_send_243 : decode cX7_send 243 = .ok (.iload 8, 2) := by decide +kernel
theorem dX7_send_245 : decode cX7_send 245 = .ok (.iaload, 1) := by decide +kernel
theorem dX7_send_246 : decode cX7_send 246 = .ok (.iconst 4, 1) := by decide +kernel
theorem dX7_send_247 : decode cX7_send 247 = .ok (.if_icmp .ne 7, 3) := by decide +kernel
theorem dX7_send_250 : decode cX7_send 250 = .ok (.iconst 1, 1) := by decide +kernel
theorem dX7_send_251 : decode cX7_send 251 = .ok (.goto 4, 3) := by decide +kernel
theorem dX7_send_254 : decode cX7_send 254 = .ok (.iconst 0, 1) := by decide +kernel
theorem dX7_send_255 : decode cX7_send 255 = .ok (.istore 7, 2) := by decide +kernel
theorem dX7_send_257 : decode cX7_send 257 = .ok (.aload_n 0, 1) := by decide +kernel
theorem dX7_send_258 : decode cX7_send 258 = .ok (.getfield 77, 3) := by decide +kernel
theorem dX7_send_261 : decode cX7_send 261 = .ok (.iload 6, 2) := by decide +kernel
theorem dX7_send_263 : decode cX7_send 263 = .ok (.dup2, 1) := by decide +kernel
theorem dX7_send_264 : decode cX7_send 264 = .ok (.iaload, 1) := by decide +kernel
theorem dX7_send_265 : decode cX7_send 265 = .ok (.aload_n 0, 1) := by decide +kernel
theorem dX7_send_266 : decode cX7_send 266 = .ok (.getfield 19, 3) := by decide +kernel
theorem dX7_send_269 : decode cX7_send 269 = .ok (.iload 8, 2) := by decide +kernel
theorem dX7_send_271 : decode cX7_send 271 = .ok (.iaload, 1) := by decide +kernel
theorem dX7_send_272 : decode cX7_send 272 = .ok (.bipush 6, 2) := by decide +kernel
theorem dX7_send_274 : decode cX7_send 274 = .ok (.if_icmp .ne 13, 3) := by decide +kernel
theorem dX7_send_277 : decode cX7_send 277 = .ok (.aload_n 0, 1) := by decide +kernel
theorem dX7_send_278 : decode cX7_send 278 = .ok (.getfield 28, 3) := by decide +kernel
theorem dX7_send_281 : decode cX7_send 281 = .ok (.iload 8, 2) := by decide +kernel
theorem dX7_send_283 : decode cX7_send 283 = .ok (.iaload, 1) := by decide +kernel
theorem dX7_send_284 : decode cX7_send 284 = .ok (.goto 4, 3) := by decide +kernel
theorem dX7_send_287 : decode cX7_send 287 = .ok (.iconst 0, 1) := by decide +kernel
theorem dX7_send_288 : decode cX7_send 288 = .ok (.iadd, 1) := by decide +kernel
theorem dX7_send_289 : decode cX7_send 289 = .ok (.iastore, 1) := by decide +kernel
theorem dX7_send_290 : decode cX7_send 290 = .ok (.aload_n 0, 1) := by decide +kernel
theorem dX7_send_291 : decode cX7_send 291 = .ok (.getfield 83, 3) := by decide +kernel
theorem dX7_send_294 : decode cX7_send 294 = .ok (.bipush 6, 2) := by decide +kernel
theorem dX7_send_296 : decode cX7_send 296 = .ok (.iload 6, 2) := by decide +kernel
theorem dX7_send_298 : decode cX7_send 298 = .ok (.imul, 1) := by decide +kernel
theorem dX7_send_299 : decode cX7_send 299 = .ok (.aload_n 0, 1) := by decide +kernel
theorem dX7_send_300 : decode cX7_send 300 = .ok (.getfield 28, 3) := by decide +kernel
theorem dX7_send_303 : decode cX7_send 303 = .ok (.iload 8, 2) := by decide +kernel
theorem dX7_send_305 : decode cX7_send 305 = .ok (.iaload, 1) := by decide +kernel
theorem dX7_send_306 : decode cX7_send 306 = .ok (.iadd, 1) := by decide +kernel
theorem dX7_send_307 : decode cX7_send 307 = .ok (.dup2, 1) := by decide +kernel
theorem dX7_send_308 : decode cX7_send 308 = .ok (.iaload, 1) := by decide +kernel
theorem dX7_send_309 : decode cX7_send 309 = .ok (.aload_n 0, 1) := by decide +kernel
theorem dX7_send_310 : decode cX7_send 310 = .ok (.getfield 19, 3) := by decide +kernel
theorem dX7_send_313 : decode cX7_send 313 = .ok (.iload 8, 2) := by decide +kernel
theorem dX7_send_315 : decode cX7_send 315 = .ok (.iaload, 1) := by decide +kernel
theorem dX7_send_316 : decode cX7_send 316 = .ok (.iconst 5, 1) := by decide +kernel
theorem dX7_send_317 : decode cX7_send 317 = .ok (.if_icmp .ne 7, 3) := by decide +kernel
theorem dX7_send_320 : decode cX7_send 320 = .ok (.iconst 1, 1) := by decide +kernel
theorem dX7_send_321 : decode cX7_send 321 = .ok (.goto 4, 3) := by decide +kernel
theorem dX7_send_324 : decode cX7_send 324 = .ok (.iconst 0, 1) := by decide +kernel
theorem dX7_send_325 : decode cX7_send 325 = .ok (.iadd, 1) := by decide +kernel
theorem dX7_send_326 : decode cX7_send 326 = .ok (.iastore, 1) := by decide +kernel
theorem dX7_send_327 : decode cX7_send 327 = .ok (.iinc 8 1, 3) := by decide +kernel
theorem dX7_send_330 : decode cX7_send 330 = .ok (.goto (-138), 3) := by decide +kernel
theorem dX7_send_333 : decode cX7_send 333 = .ok (.iload 7, 2) := by decide +kernel
theorem dX7_send_335 : decode cX7_send 335 = .ok (.ifCond .eq 21, 3) := by decide +kernel
theorem dX7_send_338 : decode cX7_send 338 = .ok (.aload_n 0, 1) := by decide +kernel
theorem dX7_send_339 : decode cX7_send 339 = .ok (.getfield 77, 3) := by decide +kernel
theorem dX7_send_342 : decode cX7_send 342 = .ok (.iload 6, 2) := by decide +kernel
end
section
theorem dX7_send_344 : decode cX7_send 344 = .ok (.iconst (-1), 1) := by decide +kernel
theorem dX7_send_345 : decode cX7_send 345 = .ok (.iastore, 1) := by decide +kernel
theorem dX7_send_346 : decode cX7_send 346 = .ok (.aload_n 0, 1) := by decide +kernel
theorem dX7_send_347 : decode cX7_send 347 = .ok (.getfield 41, 3) := by decide +kernel
theorem dX7_send_350 : decode cX7_send 350 = .ok (.iload_n 1, 1) := by decide +kernel
theorem dX7_send_351 : decode cX7_send 351 = .ok (.dup2, 1) := by decide +kernel
theorem dX7_send_352 : decode cX7_send 352 = .ok (.iaload, 1) := by decide +kernel
theorem dX7_send_353 : decode cX7_send 353 = .ok (.iconst 1, 1) := by decide +kernel
theorem dX7_send_354 : decode cX7_send 354 = .ok (.iadd, 1) := by decide +kernel
theorem dX7_send_355 : decode cX7_send 355 = .ok (.iastore, 1) := by decide +kernel
theorem dX7_send_356 : decode cX7_send 356 = .ok (.return_, 1) := by decide +kernel
theorem dX7_isRule_0 : decode cX7_isRule 0 = .ok (.iconst 0, 1) := by decide +kernel
theorem dX7_isRule_1 : decode cX7_isRule 1 = .ok (.istore_n 1, 1) := by decide +kernel
theorem dX7_isRule_2 : decode cX7_isRule 2 = .ok (.iconst 0, 1) := by decide +kernel
theorem dX7_isRule_3 : decode cX7_isRule 3 = .ok (.istore_n 2, 1) := by decide +kernel
theorem dX7_isRule_4 : decode cX7_isRule 4 = .ok (.iload_n 2, 1) := by decide +kernel
theorem dX7_isRule_5 : decode cX7_isRule 5 = .ok (.aload_n 0, 1) := by decide +kernel
theorem dX7_isRule_6 : decode cX7_isRule 6 = .ok (.getfield 101, 3) := by decide +kernel
theorem dX7_isRule_9 : decode cX7_isRule 9 = .ok (.if_icmp .ge 39, 3) := by decide +kernel
theorem dX7_isRule_12 : decode cX7_isRule 12 = .ok (.aload_n 0, 1) := by decide +kernel
theorem dX7_isRule_13 : decode cX7_isRule 13 = .ok (.getfield 7, 3) := by decide +kernel
theorem dX7_isRule_16 : decode cX7_isRule 16 = .ok (.iload_n 2, 1) := by decide +kernel
theorem dX7_isRule_17 : decode cX7_isRule 17 = .ok (.iaload, 1) := by decide +kernel
theorem dX7_isRule_18 : decode cX7_isRule 18 = .ok (.ifCond .ne 22, 3) := by decide +kernel
theorem dX7_isRule_21 : decode cX7_isRule 21 = .ok (.aload_n 0, 1) := by decide +kernel
theorem dX7_isRule_22 : decode cX7_isRule 22 = .ok (.getfield 86, 3) := by decide +kernel
theorem dX7_isRule_25 : decode cX7_isRule 25 = .ok (.iload_n 2, 1) := by decide +kernel
theorem dX7_isRule_26 : decode cX7_isRule 26 = .ok (.iaload, 1) := by decide +kernel
theorem dX7_isRule_27 : decode cX7_isRule 27 = .ok (.iload_n 1, 1) := by decide +kernel
theorem dX7_isRule_28 : decode cX7_isRule 28 = .ok (.if_icmp .le 12, 3) := by decide +kernel
theorem dX7_isRule_31 : decode cX7_isRule 31 = .ok (.aload_n 0, 1) := by decide +kernel
theorem dX7_isRule_32 : decode cX7_isRule 32 = .ok (.getfield 86, 3) := by decide +kernel
theorem dX7_isRule_35 : decode cX7_isRule 35 = .ok (.iload_n 2, 1) := by decide +kernel
theorem dX7_isRule_36 : decode cX7_isRule 36 = .ok (.iaload, 1) := by decide +kernel
theorem dX7_isRule_37 : decode cX7_isRule 37 = .ok (.goto 4, 3) := by decide +kernel
theorem dX7_isRule_40 : decode cX7_isRule 40 = .ok (.iload_n 1, 1) := by decide +kernel
theorem dX7_isRule_41 : decode cX7_isRule 41 = .ok (.istore_n 1, 1) := by decide +kernel
theorem dX7_isRule_42 : decode cX7_isRule 42 = .ok (.iinc 2 1, 3) := by decide +kernel
theorem dX7_isRule_45 : decode cX7_isRule 45 = .ok (.goto (-41), 3) := by decide +kernel
theorem dX7_isRule_48 : decode cX7_isRule 48 = .ok (.iconst 0, 1) := by decide +kernel
theorem dX7_isRule_49 : decode cX7_isRule 49 = .ok (.istore_n 2, 1) := by decide +kernel
theorem dX7_isRule_50 : decode cX7_isRule 50 = .ok (.iconst 0, 1) := by decide +kernel
theorem dX7_isRule_51 : decode cX7_isRule 51 = .ok (.istore_n 3, 1) := by decide +kernel
theorem dX7_isRule_52 : decode cX7_isRule 52 = .ok (.iload_n 3, 1) := by decide +kernel
theorem dX7_isRule_53 : decode cX7_isRule 53 = .ok (.aload_n 0, 1) := by decide +kernel
theorem dX7_isRule_54 : decode cX7_isRule 54 = .ok (.getfield 101, 3) := by decide +kernel
theorem dX7_isRule_57 : decode cX7_isRule 57 = .ok (.if_icmp .ge 29, 3) := by decide +kernel
theorem dX7_isRule_60 : decode cX7_isRule 60 = .ok (.iload_n 2, 1) := by decide +kernel
theorem dX7_isRule_61 : decode cX7_isRule 61 = .ok (.aload_n 0, 1) := by decide +kernel
theorem dX7_isRule_62 : decode cX7_isRule 62 = .ok (.getfield 86, 3) := by decide +kernel
theorem dX7_isRule_65 : decode cX7_isRule 65 = .ok (.iload_n 3, 1) := by decide +kernel
theorem dX7_isRule_66 : decode cX7_isRule 66 = .ok (.iaload, 1) := by decide +kernel
theorem dX7_isRule_67 : decode cX7_isRule 67 = .ok (.iload_n 1, 1) := by decide +kernel
theorem dX7_isRule_68 : decode cX7_isRule 68 = .ok (.iconst 1, 1) := by decide +kernel
theorem dX7_isRule_69 : decode cX7_isRule 69 = .ok (.isub, 1) := by decide +kernel
theorem dX7_isRule_70 : decode cX7_isRule 70 = .ok (.if_icmp .lt 7, 3) := by decide +kernel
theorem dX7_isRule_73 : decode cX7_isRule 73 = .ok (.iconst 1, 1) := by decide +kernel
theorem dX7_isRule_74 : decode cX7_isRule 74 = .ok (.goto 4, 3) := by decide +kernel
theorem dX7_isRule_77 : decode cX7_isRule 77 = .ok (.iconst 0, 1) := by decide +kernel
theorem dX7_isRule_78 : decode cX7_isRule 78 = .ok (.iadd, 1) := by decide +kernel
theorem dX7_isRule_79 : decode cX7_isRule 79 = .ok (.istore_n 2, 1) := by decide +kernel
theorem dX7_isRule_80 : decode cX7_isRule 80 = .ok (.iinc 3 1, 3) := by decide +kernel
theorem dX7_isRule_83 : decode cX7_isRule 83 = .ok (.goto (-31), 3) := by decide +kernel
theorem dX7_isRule_86 : decode cX7_isRule 86 = .ok (.iload_n 1, 1) := by decide +kernel
theorem dX7_isRule_87 : decode cX7_isRule 87 = .ok (.ifCond .eq 13, 3) := by decide +kernel
theorem dX7_isRule_90 : decode cX7_isRule 90 = .ok (.iconst 2, 1) := by decide +kernel
theorem dX7_isRule_91 : decode cX7_isRule 91 = .ok (.iload_n 2, 1) := by decide +kernel
theorem dX7_isRule_92 : decode cX7_isRule 92 = .ok (.imul, 1) := by decide +kernel
theorem dX7_isRule_93 : decode cX7_isRule 93 = .ok (.aload_n 0, 1) := by decide +kernel
theorem dX7_isRule_94 : decode cX7_isRule 94 = .ok (.getfield 101, 3) := by decide +kernel
theorem dX7_isRule_97 : decode cX7_isRule 97 = .ok (.if_icmp .le 7, 3) := by decide +kernel
theorem dX7_isRule_100 : decode cX7_isRule 100 = .ok (.iconst 1, 1) := by decide +kernel
theorem dX7_isRule_101 : decode cX7_isRule 101 = .ok (.goto 4, 3) := by decide +kernel
theorem dX7_isRule_104 : decode cX7_isRule 104 = .ok (.iconst 0, 1) := by decide +kernel
theorem dX7_isRule_105 : decode cX7_isRule 105 = .ok (.ireturn, 1) := by decide +kernel
set_option maxRecDepth 20000 in
theorem ggX7_run_X7_happen : GoodIn wsX7_run wsX7_happen := goodIn_r _ [23, 24, 25, 26, 27, 28, 7, 11, 12, 67, 68, 69, 70, 71, 72, 73, 74, 75, 76, 77, 78, 79, 80, 81, 82, 83, 84, 85, 86, 87, 88, 89, 90, 91, 92, 93, 94, 95, 96, 97, 98, 99, 100] (by decide +kernel) (by decide +kernel)
set_option maxRecDepth 20000 in
theorem gX7_run_X7_happen : GoodIn wsX7_run (wsV RX7 138 RX7 yX7_happen wsX7_happen) := goodIn_app (goodIn_of _ (by decide +kernel)) ggX7_run_X7_happen
set_option maxRecDepth 20000 in
theorem ggX7_run_X7_takeIn : GoodIn wsX7_run wsX7_takeIn := goodIn_r _ [32, 2, 33, 34, 35, 36, 22, 37, 38, 39, 40, 41, 42, 11, 43, 5, 4, 44, 12, 45, 9, 46, 47, 48, 49, 50, 7, 67, 68, 69, 70, 71, 72, 73, 74, 75, 76, 77, 78, 79, 80, 81, 82, 83, 84, 85, 86, 87, 88, 89, 90, 91, 92, 93, 94, 95, 96, 97, 98, 99, 100] (by decide +kernel) (by decide +kernel)
set_option maxRecDepth 20000 in
theorem gX7_run_X7_takeIn : GoodIn wsX7_run (wsV RX7 141 RX7 yX7_takeIn wsX7_takeIn) := goodIn_app (goodIn_of _ (by decide +kernel)) ggX7_run_X7_takeIn
set_option maxRecDepth 20000 in
theorem ggX7_run_X7_grow : GoodIn wsX7_run wsX7_grow := goodIn_r _ [54, 13, 12, 8, 15, 11, 67, 68, 69, 70, 71, 72, 73, 74, 75, 76, 77, 78, 79, 80, 81, 82, 83, 84, 85, 86, 87, 88, 89, 90, 91, 92, 93, 94, 95, 96, 97, 98, 99, 100] (by decide +kernel) (by decide +kernel)
set_option maxRecDepth 20000 in
theorem gX7_run_X7_grow : GoodIn wsX7_run (wsV RX7 145 RX7 yX7_grow wsX7_grow) := goodIn_app (goodIn_of _ (by decide +kernel)) ggX7_run_X7_grow
set_option maxRecDepth 20000 in
theorem ggX7_run_X7_send : GoodIn wsX7_run wsX7_send := goodIn_r _ [58, 2, 43, 42, 59, 45, 14, 8, 46, 9, 44, 33, 60, 61, 34, 24, 25, 26, 28, 62, 3, 67, 68, 69, 70, 71, 72, 73, 74, 75, 76, 77, 78, 79, 80, 81, 82, 83, 84, 85, 86, 87, 88, 89, 90, 91, 92, 93, 94, 95, 96, 97, 98, 99, 100] (by decide +kernel) (by decide +kernel)
set_option maxRecDepth 20000 in
theorem gX7_run_X7_send : GoodIn wsX7_run (wsV RX7 148 RX7 yX7_send wsX7_send) := goodIn_app (goodIn_of _ (by decide +kernel)) ggX7_run_X7_send
set_option maxRecDepth 20000 in
theorem ggX7_run_X7_isRule : GoodIn wsX7_run wsX7_isRule := goodIn_r _ [66, 13, 14, 8, 67, 68, 69, 70, 71, 72, 73, 74, 75, 76, 77, 78, 79, 80, 81, 82, 83, 84, 85, 86, 87, 88, 89, 90, 91, 92, 93, 94, 95, 96, 97, 98, 99, 100] (by decide +kernel) (by decide +kernel)
set_option maxRecDepth 20000 in
theorem gX7_run_X7_isRule : GoodIn wsX7_run (wsV RX7 152 RX7 yX7_isRule wsX7_isRule) := goodIn_app (goodIn_of _ (by decide +kernel)) ggX7_run_X7_isRule
theorem dX7_run_0 : decode cX7_run 0 = .ok (.aload_n 0, 1) := by decide +kernel
theorem dX7_run_1 : decode cX7_run 1 = .ok (.getfield 35, 3) := by decide +kernel
theorem dX7_run_4 : decode cX7_run 4 = .ok (.iload_n 1, 1) := by decide +kernel
theorem dX7_run_5 : decode cX7_run 5 = .ok (.iload_n 2, 1) := by decide +kernel
theorem dX7_run_6 : decode cX7_run 6 = .ok (.iastore, 1) := by decide +kernel
theorem dX7_run_7 : decode cX7_run 7 = .ok (.aload_n 0, 1) := by decide +kernel
theorem dX7_run_8 : decode cX7_run 8 = .ok (.getfield 38, 3) := by decide +kernel
theorem dX7_run_11 : decode cX7_run 11 = .ok (.iload_n 1, 1) := by decide +kernel
theorem dX7_run_12 : decode cX7_run 12 = .ok (.iconst 0, 1) := by decide +kernel
theorem dX7_run_13 : decode cX7_run 13 = .ok (.iastore, 1) := by decide +kernel
theorem dX7_run_14 : decode cX7_run 14 = .ok (.aload_n 0, 1) := by decide +kernel
theorem dX7_run_15 : decode cX7_run 15 = .ok (.getfield 41, 3) := by decide +kernel
theorem dX7_run_18 : decode cX7_run 18 = .ok (.iload_n 1, 1) := by decide +kernel
theorem dX7_run_19 : decode cX7_run 19 = .ok (.iconst 0, 1) := by decide +kernel
theorem dX7_run_20 : decode cX7_run 20 = .ok (.iastore, 1) := by decide +kernel
theorem dX7_run_21 : decode cX7_run 21 = .ok (.aload_n 0, 1) := by decide +kernel
theorem dX7_run_22 : decode cX7_run 22 = .ok (.getfield 44, 3) := by decide +kernel
theorem dX7_run_25 : decode cX7_run 25 = .ok (.iload_n 1, 1) := by decide +kernel
theorem dX7_run_26 : decode cX7_run 26 = .ok (.iconst 0, 1) := by decide +kernel
theorem dX7_run_27 : decode cX7_run 27 = .ok (.iastore, 1) := by decide +kernel
theorem dX7_run_28 : decode cX7_run 28 = .ok (.aload_n 0, 1) := by decide +kernel
theorem dX7_run_29 : decode cX7_run 29 = .ok (.getfield 47, 3) := by decide +kernel
theorem dX7_run_32 : decode cX7_run 32 = .ok (.iload_n 1, 1) := by decide +kernel
theorem dX7_run_33 : decode cX7_run 33 = .ok (.iconst 0, 1) := by decide +kernel
theorem dX7_run_34 : decode cX7_run 34 = .ok (.iastore, 1) := by decide +kernel
theorem dX7_run_35 : decode cX7_run 35 = .ok (.aload_n 0, 1) := by decide +kernel
theorem dX7_run_36 : decode cX7_run 36 = .ok (.getfield 50, 3) := by decide +kernel
theorem dX7_run_39 : decode cX7_run 39 = .ok (.iload_n 1, 1) := by decide +kernel
theorem dX7_run_40 : decode cX7_run 40 = .ok (.iconst (-1), 1) := by decide +kernel
theorem dX7_run_41 : decode cX7_run 41 = .ok (.iastore, 1) := by decide +kernel
theorem dX7_run_42 : decode cX7_run 42 = .ok (.aload_n 0, 1) := by decide +kernel
theorem dX7_run_43 : decode cX7_run 43 = .ok (.iconst 0, 1) := by decide +kernel
theorem dX7_run_44 : decode cX7_run 44 = .ok (.putfield 124, 3) := by decide +kernel
theorem dX7_run_47 : decode cX7_run 47 = .ok (.iconst 0, 1) := by decide +kernel
theorem dX7_run_48 : decode cX7_run 48 = .ok (.istore_n 3, 1) := by decide +kernel
theorem dX7_run_49 : decode cX7_run 49 = .ok (.iload_n 3, 1) := by decide +kernel
theorem dX7_run_50 : decode cX7_run 50 = .ok (.bipush 7, 2) := by decide +kernel
theorem dX7_run_52 : decode cX7_run 52 = .ok (.if_icmp .ge 35, 3) := by decide +kernel
theorem dX7_run_55 : decode cX7_run 55 = .ok (.aload_n 0, 1) := by decide +kernel
theorem dX7_run_56 : decode cX7_run 56 = .ok (.getfield 86, 3) := by decide +kernel
theorem dX7_run_59 : decode cX7_run 59 = .ok (.iload_n 3, 1) := by decide +kernel
theorem dX7_run_60 : decode cX7_run 60 = .ok (.iconst 0, 1) := by decide +kernel
theorem dX7_run_61 : decode cX7_run 61 = .ok (.iastore, 1) := by decide +kernel
theorem dX7_run_62 : decode cX7_run 62 = .ok (.aload_n 0, 1) := by decide +kernel
theorem dX7_run_63 : decode cX7_run 63 = .ok (.getfield 89, 3) := by decide +kernel
theorem dX7_run_66 : decode cX7_run 66 = .ok (.iload_n 3, 1) := by decide +kernel
theorem dX7_run_67 : decode cX7_run 67 = .ok (.aload_n 0, 1) := by decide +kernel
theorem dX7_run_68 : decode cX7_run 68 = .ok (.getfield 16, 3) := by decide +kernel
theorem dX7_run_71 : decode cX7_run 71 = .ok (.iload_n 3, 1) := by decide +kernel
theorem dX7_run_72 : decode cX7_run 72 = .ok (.iaload, 1) := by decide +kernel
theorem dX7_run_73 : decode cX7_run 73 = .ok (.iastore, 1) := by decide +kernel
theorem dX7_run_74 : decode cX7_run 74 = .ok (.aload_n 0, 1) := by decide +kernel
theorem dX7_run_75 : decode cX7_run 75 = .ok (.getfield 95, 3) := by decide +kernel
theorem dX7_run_78 : decode cX7_run 78 = .ok (.iload_n 3, 1) := by decide +kernel
theorem dX7_run_79 : decode cX7_run 79 = .ok (.iconst 0, 1) := by decide +kernel
theorem dX7_run_80 : decode cX7_run 80 = .ok (.bastore, 1) := by decide +kernel
theorem dX7_run_81 : decode cX7_run 81 = .ok (.iinc 3 1, 3) := by decide +kernel
theorem dX7_run_84 : decode cX7_run 84 = .ok (.goto (-35), 3) := by decide +kernel
theorem dX7_run_87 : decode cX7_run 87 = .ok (.iconst 0, 1) := by decide +kernel
theorem dX7_run_88 : decode cX7_run 88 = .ok (.istore_n 3, 1) := by decide +kernel
theorem dX7_run_89 : decode cX7_run 89 = .ok (.iload_n 3, 1) := by decide +kernel
theorem dX7_run_90 : decode cX7_run 90 = .ok (.bipush 49, 2) := by decide +kernel
theorem dX7_run_92 : decode cX7_run 92 = .ok (.if_icmp .ge 16, 3) := by decide +kernel
theorem dX7_run_95 : decode cX7_run 95 = .ok (.aload_n 0, 1) := by decide +kernel
theorem dX7_run_96 : decode cX7_run 96 = .ok (.getfield 92, 3) := by decide +kernel
theorem dX7_run_99 : decode cX7_run 99 = .ok (.iload_n 3, 1) := by decide +kernel
theorem dX7_run_100 : decode cX7_run 100 = .ok (.iconst 0, 1) := by decide +kernel
theorem dX7_run_101 : decode cX7_run 101 = .ok (.iastore, 1) := by decide +kernel
theorem dX7_run_102 : decode cX7_run 102 = .ok (.iinc 3 1, 3) := by decide +kernel
theorem dX7_run_105 : decode cX7_run 105 = .ok (.goto (-16), 3) := by decide +kernel
theorem dX7_run_108 : decode cX7_run 108 = .ok (.iconst 0, 1) := by decide +kernel
theorem dX7_run_109 : decode cX7_run 109 = .ok (.istore_n 3, 1) := by decide +kernel
theorem dX7_run_110 : decode cX7_run 110 = .ok (.iload_n 3, 1) := by decide +kernel
theorem dX7_run_111 : decode cX7_run 111 = .ok (.iload_n 2, 1) := by decide +kernel
theorem dX7_run_112 : decode cX7_run 112 = .ok (.if_icmp .ge 186, 3) := by decide +kernel
theorem dX7_run_115 : decode cX7_run 115 = .ok (.aload_n 0, 1) := by decide +kernel
theorem dX7_run_116 : decode cX7_run 116 = .ok (.iload_n 3, 1) := by decide +kernel
theorem dX7_run_117 : decode cX7_run 117 = .ok (.invokevirtual 138, 3) := by decide +kernel
theorem dX7_run_120 : decode cX7_run 120 = .ok (.aload_n 0, 1) := by decide +kernel
theorem dX7_run_121 : decode cX7_run 121 = .ok (.iload_n 1, 1) := by decide +kernel
theorem dX7_run_122 : decode cX7_run 122 = .ok (.iload_n 3, 1) := by decide +kernel
theorem dX7_run_123 : decode cX7_run 123 = .ok (.invokevirtual 141, 3) := by decide +kernel
theorem dX7_run_126 : decode cX7_run 126 = .ok (.aload_n 0, 1) := by decide +kernel
theorem dX7_run_127 : decode cX7_run 127 = .ok (.invokevirtual 145, 3) := by decide +kernel
theorem dX7_run_130 : decode cX7_run 130 = .ok (.iconst 0, 1) := by decide +kernel
theorem dX7_run_131 : decode cX7_run 131 = .ok (.istore 4, 2) := by decide +kernel
theorem dX7_run_133 : decode cX7_run 133 = .ok (.iload 4, 2) := by decide +kernel
theorem dX7_run_135 : decode cX7_run 135 = .ok (.aload_n 0, 1) := by decide +kernel
theorem dX7_run_136 : decode cX7_run 136 = .ok (.getfield 101, 3) := by decide +kernel
theorem dX7_run_139 : decode cX7_run 139 = .ok (.if_icmp .ge 106, 3) := by decide +kernel
theorem dX7_run_142 : decode cX7_run 142 = .ok (.aload_n 0, 1) := by decide +kernel
theorem dX7_run_143 : decode cX7_run 143 = .ok (.getfield 95, 3) := by decide +kernel
theorem dX7_run_146 : decode cX7_run 146 = .ok (.iload 4, 2) := by decide +kernel
theorem dX7_run_148 : decode cX7_run 148 = .ok (.baload, 1) := by decide +kernel
theorem dX7_run_149 : decode cX7_run 149 = .ok (.ifCond .ne 65, 3) := by decide +kernel
theorem dX7_run_152 : decode cX7_run 152 = .ok (.aload_n 0, 1) := by decide +kernel
theorem dX7_run_153 : decode cX7_run 153 = .ok (.getfield 7, 3) := by decide +kernel
theorem dX7_run_156 : decode cX7_run 156 = .ok (.iload 4, 2) := by decide +kernel
theorem dX7_run_158 : decode cX7_run 158 = .ok (.iaload, 1) := by decide +kernel
theorem dX7_run_159 : decode cX7_run 159 = .ok (.iconst 2, 1) := by decide +kernel
theorem dX7_run_160 : decode cX7_run 160 = .ok (.if_icmp .eq 54, 3) := by decide +kernel
theorem dX7_run_163 : decode cX7_run 163 = .ok (.aload_n 0, 1) := by decide +kernel
theorem dX7_run_164 : decode cX7_run 164 = .ok (.getfield 98, 3) := by decide +kernel
theorem dX7_run_167 : decode cX7_run 167 = .ok (.iload 4, 2) := by decide +kernel
theorem dX7_run_169 : decode cX7_run 169 = .ok (.baload, 1) := by decide +kernel
theorem dX7_run_170 : decode cX7_run 170 = .ok (.ifCond .ne 9, 3) := by decide +kernel
theorem dX7_run_173 : decode cX7_run 173 = .ok (.iload_n 3, 1) := by decide +kernel
theorem dX7_run_174 : decode cX7_run 174 = .ok (.iconst 4, 1) := by decide +kernel
theorem dX7_run_175 : decode cX7_run 175 = .ok (.irem, 1) := by decide +kernel
theorem dX7_run_176 : decode cX7_run 176 = .ok (.ifCond .ne 38, 3) := by decide +kernel
theorem dX7_run_179 : decode cX7_run 179 = .ok (.iconst 0, 1) := by decide +kernel
theorem dX7_run_180 : decode cX7_run 180 = .ok (.istore 5, 2) := by decide +kernel
theorem dX7_run_182 : decode cX7_run 182 = .ok (.iload 5, 2) := by decide +kernel
theorem dX7_run_184 : decode cX7_run 184 = .ok (.aload_n 0, 1) := by decide +kernel
theorem dX7_run_185 : decode cX7_run 185 = .ok (.getfield 101, 3) := by decide +kernel
theorem dX7_run_188 : decode cX7_run 188 = .ok (.if_icmp .ge 26, 3) := by decide +kernel
theorem dX7_run_191 : decode cX7_run 191 = .ok (.iload 5, 2) := by decide +kernel
theorem dX7_run_193 : decode cX7_run 193 = .ok (.iload 4, 2) := by decide +kernel
theorem dX7_run_195 : decode cX7_run 195 = .ok (.if_icmp .eq 13, 3) := by decide +kernel
theorem dX7_run_198 : decode cX7_run 198 = .ok (.aload_n 0, 1) := by decide +kernel
theorem dX7_run_199 : decode cX7_run 199 = .ok (.iload_n 1, 1) := by decide +kernel
theorem dX7_run_200 : decode cX7_run 200 = .ok (.iload_n 3, 1) := by decide +kernel
theorem dX7_run_201 : decode cX7_run 201 = .ok (.iload 4, 2) := by decide +kernel
theorem dX7_run_203 : decode cX7_run 203 = .ok (.iload 5, 2) := by decide +kernel
theorem dX7_run_205 : decode cX7_run 205 = .ok (.invokevirtual 148, 3) := by decide +kernel
theorem dX7_run_208 : decode cX7_run 208 = .ok (.iinc 5 1, 3) := by decide +kernel
theorem dX7_run_211 : decode cX7_run 211 = .ok (.goto (-29), 3) := by decide +kernel
theorem dX7_run_214 : decode cX7_run 214 = .ok (.aload_n 0, 1) := by decide +kernel
theorem dX7_run_215 : decode cX7_run 215 = .ok (.getfield 53, 3) := by decide +kernel
theorem dX7_run_218 : decode cX7_run 218 = .ok (.sipush 420, 3) := by decide +kernel
theorem dX7_run_221 : decode cX7_run 221 = .ok (.iload_n 1, 1) := by decide +kernel
theorem dX7_run_222 : decode cX7_run 222 = .ok (.imul, 1) := by decide +kernel
theorem dX7_run_223 : decode cX7_run 223 = .ok (.bipush 7, 2) := by decide +kernel
theorem dX7_run_225 : decode cX7_run 225 = .ok (.iload_n 3, 1) := by decide +kernel
theorem dX7_run_226 : decode cX7_run 226 = .ok (.imul, 1) := by decide +kernel
theorem dX7_run_227 : decode cX7_run 227 = .ok (.iadd, 1) := by decide +kernel
theorem dX7_run_228 : decode cX7_run 228 = .ok (.iload 4, 2) := by decide +kernel
theorem dX7_run_230 : decode cX7_run 230 = .ok (.iadd, 1) := by decide +kernel
theorem dX7_run_231 : decode cX7_run 231 = .ok (.aload_n 0, 1) := by decide +kernel
theorem dX7_run_232 : decode cX7_run 232 = .ok (.getfield 86, 3) := by decide +kernel
theorem dX7_run_235 : decode cX7_run 235 = .ok (.iload 4, 2) := by decide +kernel
theorem dX7_run_237 : decode cX7_run 237 = .ok (.iaload, 1) := by decide +kernel
theorem dX7_run_238 : decode cX7_run 238 = .ok (.iastore, 1) := by decide +kernel
theorem dX7_run_239 : decode cX7_run 239 = .ok (.iinc 4 1, 3) := by decide +kernel
theorem dX7_run_242 : decode cX7_run 242 = .ok (.goto (-109), 3) := by decide +kernel
theorem dX7_run_245 : decode cX7_run 245 = .ok (.aload_n 0, 1) := by decide +kernel
theorem dX7_run_246 : decode cX7_run 246 = .ok (.getfield 56, 3) := by decide +kernel
theorem dX7_run_249 : decode cX7_run 249 = .ok (.bipush 60, 2) := by decide +kernel
theorem dX7_run_251 : decode cX7_run 251 = .ok (.iload_n 1, 1) := by decide +kernel
theorem dX7_run_252 : decode cX7_run 252 = .ok (.imul, 1) := by decide +kernel
theorem dX7_run_253 : decode cX7_run 253 = .ok (.iload_n 3, 1) := by decide +kernel
theorem dX7_run_254 : decode cX7_run 254 = .ok (.iadd, 1) := by decide +kernel
theorem dX7_run_255 : decode cX7_run 255 = .ok (.aload_n 0, 1) := by decide +kernel
theorem dX7_run_256 : decode cX7_run 256 = .ok (.invokevirtual 152, 3) := by decide +kernel
theorem dX7_run_259 : decode cX7_run 259 = .ok (.bastore, 1) := by decide +kernel
theorem dX7_run_260 : decode cX7_run 260 = .ok (.aload_n 0, 1) := by decide +kernel
theorem dX7_run_261 : decode cX7_run 261 = .ok (.getfield 50, 3) := by decide +kernel
theorem dX7_run_264 : decode cX7_run 264 = .ok (.iload_n 1, 1) := by decide +kernel
theorem dX7_run_265 : decode cX7_run 265 = .ok (.aload_n 0, 1) := by decide +kernel
theorem dX7_run_266 : decode cX7_run 266 = .ok (.getfield 50, 3) := by decide +kernel
theorem dX7_run_269 : decode cX7_run 269 = .ok (.iload_n 1, 1) := by decide +kernel
theorem dX7_run_270 : decode cX7_run 270 = .ok (.iaload, 1) := by decide +kernel
theorem dX7_run_271 : decode cX7_run 271 = .ok (.ifCond .ge 14, 3) := by decide +kernel
theorem dX7_run_274 : decode cX7_run 274 = .ok (.aload_n 0, 1) := by decide +kernel
theorem dX7_run_275 : decode cX7_run 275 = .ok (.invokevirtual 152, 3) := by decide +kernel
theorem dX7_run_278 : decode cX7_run 278 = .ok (.ifCond .ne 7, 3) := by decide +kernel
theorem dX7_run_281 : decode cX7_run 281 = .ok (.iload_n 3, 1) := by decide +kernel
theorem dX7_run_282 : decode cX7_run 282 = .ok (.goto 9, 3) := by decide +kernel
theorem dX7_run_285 : decode cX7_run 285 = .ok (.aload_n 0, 1) := by decide +kernel
theorem dX7_run_286 : decode cX7_run 286 = .ok (.getfield 50, 3) := by decide +kernel
theorem dX7_run_289 : decode cX7_run 289 = .ok (.iload_n 1, 1) := by decide +kernel
theorem dX7_run_290 : decode cX7_run 290 = .ok (.iaload, 1) := by decide +kernel
theorem dX7_run_291 : decode cX7_run 291 = .ok (.iastore, 1) := by decide +kernel
theorem dX7_run_292 : decode cX7_run 292 = .ok (.iinc 3 1, 3) := by decide +kernel
theorem dX7_run_295 : decode cX7_run 295 = .ok (.goto (-185), 3) := by decide +kernel
theorem dX7_run_298 : decode cX7_run 298 = .ok (.iconst 0, 1) := by decide +kernel
theorem dX7_run_299 : decode cX7_run 299 = .ok (.istore_n 3, 1) := by decide +kernel
theorem dX7_run_300 : decode cX7_run 300 = .ok (.iload_n 3, 1) := by decide +kernel
theorem dX7_run_301 : decode cX7_run 301 = .ok (.bipush 7, 2) := by decide +kernel
theorem dX7_run_303 : decode cX7_run 303 = .ok (.if_icmp .ge 26, 3) := by decide +kernel
theorem dX7_run_306 : decode cX7_run 306 = .ok (.aload_n 0, 1) := by decide +kernel
theorem dX7_run_307 : decode cX7_run 307 = .ok (.getfield 59, 3) := by decide +kernel
theorem dX7_run_310 : decode cX7_run 310 = .ok (.bipush 7, 2) := by decide +kernel
theorem dX7_run_312 : decode cX7_run 312 = .ok (.iload_n 1, 1) := by decide +kernel
theorem dX7_run_313 : decode cX7_run 313 = .ok (.imul, 1) := by decide +kernel
theorem dX7_run_314 : decode cX7_run 314 = .ok (.iload_n 3, 1) := by decide +kernel
theorem dX7_run_315 : decode cX7_run 315 = .ok (.iadd, 1) := by decide +kernel
theorem dX7_run_316 : decode cX7_run 316 = .ok (.aload_n 0, 1) := by decide +kernel
theorem dX7_run_317 : decode cX7_run 317 = .ok (.getfield 89, 3) := by decide +kernel
theorem dX7_run_320 : decode cX7_run 320 = .ok (.iload_n 3, 1) := by decide +kernel
theorem dX7_run_321 : decode cX7_run 321 = .ok (.iaload, 1) := by decide +kernel
theorem dX7_run_322 : decode cX7_run 322 = .ok (.iastore, 1) := by decide +kernel
theorem dX7_run_323 : decode cX7_run 323 = .ok (.iinc 3 1, 3) := by decide +kernel
theorem dX7_run_326 : decode cX7_run 326 = .ok (.goto (-26), 3) := by decide +kernel
theorem dX7_run_329 : decode cX7_run 329 = .ok (.return_, 1) := by decide +kernel
set_option maxRecDepth 20000 in
theorem ggX7_isFailing_X7_run : GoodIn wsX7_isFailing wsX7_run := goodIn_r _ [7, 1, 8, 9, 10, 11, 2, 12, 13, 14, 15, 16, 17, 18, 19, 20, 21, 22, 23, 24, 25, 26, 6, 27, 28, 29, 30, 31, 32, 33, 34, 35, 36, 37, 38, 39, 40, 41, 42, 43, 44, 45, 46, 47, 48, 49, 50, 51, 52, 53, 54, 55, 56, 57, 58, 59, 60, 61, 62, 63, 64, 65, 66, 67, 68, 69, 70, 71, 72, 73, 74, 75, 76, 77, 78, 79, 80, 81, 82, 83, 84, 85, 86, 87, 88, 89, 90, 91, 92, 93, 94, 95, 96, 97, 98, 99, 100, 101, 102, 103, 104] (by decide +kernel) (by decide +kernel)
set_option maxRecDepth 20000 in
theorem gX7_isFailing_X7_run : GoodIn wsX7_isFailing (wsV RX7 156 RX7 yX7_run wsX7_run) := goodIn_app (goodIn_of _ (by decide +kernel)) ggX7_isFailing_X7_run
theorem dX7_isFailing_0 : decode cX7_isFailing 0 = .ok (.aload_n 0, 1) := by decide +kernel
theorem dX7_isFailing_1 : decode cX7_isFailing 1 = .ok (.iconst 1, 1) := by decide +kernel
theorem dX7_isFailing_2 : decode cX7_isFailing 2 = .ok (.aload_n 0, 1) := by decide +kernel
theorem dX7_isFailing_3 : decode cX7_isFailing 3 = .ok (.getfield 35, 3) := by decide +kernel
theorem dX7_isFailing_6 : decode cX7_isFailing 6 = .ok (.iconst 0, 1) := by decide +kernel
theorem dX7_isFailing_7 : decode cX7_isFailing 7 = .ok (.iaload, 1) := by decide +kernel
theorem dX7_isFailing_8 : decode cX7_isFailing 8 = .ok (.invokevirtual 156, 3) := by decide +kernel
theorem dX7_isFailing_11 : decode cX7_isFailing 11 = .ok (.aload_n 0, 1) := by decide +kernel
theorem dX7_isFailing_12 : decode cX7_isFailing 12 = .ok (.getfield 50, 3) := by decide +kernel
theorem dX7_isFailing_15 : decode cX7_isFailing 15 = .ok (.iconst 1, 1) := by decide +kernel
theorem dX7_isFailing_16 : decode cX7_isFailing 16 = .ok (.iaload, 1) := by decide +kernel
theorem dX7_isFailing_17 : decode cX7_isFailing 17 = .ok (.ifCond .lt 7, 3) := by decide +kernel
theorem dX7_isFailing_20 : decode cX7_isFailing 20 = .ok (.iconst 1, 1) := by decide +kernel
theorem dX7_isFailing_21 : decode cX7_isFailing 21 = .ok (.goto 4, 3) := by decide +kernel
theorem dX7_isFailing_24 : decode cX7_isFailing 24 = .ok (.iconst 0, 1) := by decide +kernel
theorem dX7_isFailing_25 : decode cX7_isFailing 25 = .ok (.ireturn, 1) := by decide +kernel
set_option maxRecDepth 20000 in
theorem ggX7_play_X7_in : GoodIn wsX7_play wsX7_in := goodIn_r _ [6] (by decide +kernel) (by decide +kernel)
set_option maxRecDepth 20000 in
theorem gX7_play_X7_in : GoodIn wsX7_play (va_wsS RX7 105 yX7_in wsX7_in) := goodIn_app (goodIn_of _ (by decide +kernel)) ggX7_play_X7_in
set_option maxRecDepth 20000 in
theorem ggX7_play_X7_run : GoodIn wsX7_play wsX7_run := goodIn_r _ [10, 11, 12, 13, 14, 15, 16, 17, 2, 18, 19, 20, 21, 1, 22, 23, 24, 25, 26, 27, 28, 29, 5, 30, 31, 32, 33, 34, 35, 36, 37, 38, 39, 40, 41, 3, 4, 6, 42, 43, 44, 45, 46, 47, 48, 49, 50, 51, 52, 53, 54, 55, 56, 57, 58, 59, 60, 61, 62, 63, 64, 65, 66, 67, 68, 69, 70, 71, 72, 73, 74, 75, 76, 77, 78, 79, 80, 81, 82, 83, 84, 85, 86, 87, 88, 89, 90, 91, 92, 93, 94, 95, 96, 97, 98, 99, 100, 101, 102, 103, 104] (by decide +kernel) (by decide +kernel)
set_option maxRecDepth 20000 in
theorem gX7_play_X7_run : GoodIn wsX7_play (wsV RX7 156 RX7 yX7_run wsX7_run) := goodIn_app (goodIn_of _ (by decide +kernel)) ggX7_play_X7_run
theorem dX7_play_0 : decode cX7_play 0 = .ok (.iload_n 1, 1) := by decide +kernel
theorem dX7_play_1 : decode cX7_play 1 = .ok (.iconst 1, 1) := by decide +kernel
theorem dX7_play_2 : decode cX7_play 2 = .ok (.bipush 40, 2) := by decide +kernel
theorem dX7_play_4 : decode cX7_play 4 = .ok (.invokestatic 105, 3) := by decide +kernel
theorem dX7_play_7 : decode cX7_play 7 = .ok (.ifCond .ne 6, 3) := by decide +kernel
theorem dX7_play_10 : decode cX7_play 10 = .ok (.bipush (-3), 2) := by decide +kernel
theorem dX7_play_12 : decode cX7_play 12 = .ok (.ireturn, 1) := by decide +kernel
theorem dX7_play_13 : decode cX7_play 13 = .ok (.aload_n 0, 1) := by decide +kernel
theorem dX7_play_14 : decode cX7_play 14 = .ok (.iconst 0, 1) := by decide +kernel
theorem dX7_play_15 : decode cX7_play 15 = .ok (.iload_n 1, 1) := by decide +kernel
theorem dX7_play_16 : decode cX7_play 16 = .ok (.invokevirtual 156, 3) := by decide +kernel
theorem dX7_play_19 : decode cX7_play 19 = .ok (.iconst 0, 1) := by decide +kernel
theorem dX7_play_20 : decode cX7_play 20 = .ok (.istore_n 2, 1) := by decide +kernel
theorem dX7_play_21 : decode cX7_play 21 = .ok (.iconst 0, 1) := by decide +kernel
theorem dX7_play_22 : decode cX7_play 22 = .ok (.istore_n 3, 1) := by decide +kernel
theorem dX7_play_23 : decode cX7_play 23 = .ok (.iload_n 3, 1) := by decide +kernel
theorem dX7_play_24 : decode cX7_play 24 = .ok (.aload_n 0, 1) := by decide +kernel
theorem dX7_play_25 : decode cX7_play 25 = .ok (.getfield 101, 3) := by decide +kernel
theorem dX7_play_28 : decode cX7_play 28 = .ok (.if_icmp .ge 30, 3) := by decide +kernel
theorem dX7_play_31 : decode cX7_play 31 = .ok (.aload_n 0, 1) := by decide +kernel
theorem dX7_play_32 : decode cX7_play 32 = .ok (.getfield 86, 3) := by decide +kernel
theorem dX7_play_35 : decode cX7_play 35 = .ok (.iload_n 3, 1) := by decide +kernel
theorem dX7_play_36 : decode cX7_play 36 = .ok (.iaload, 1) := by decide +kernel
theorem dX7_play_37 : decode cX7_play 37 = .ok (.iload_n 2, 1) := by decide +kernel
theorem dX7_play_38 : decode cX7_play 38 = .ok (.if_icmp .le 12, 3) := by decide +kernel
theorem dX7_play_41 : decode cX7_play 41 = .ok (.aload_n 0, 1) := by decide +kernel
theorem dX7_play_42 : decode cX7_play 42 = .ok (.getfield 86, 3) := by decide +kernel
theorem dX7_play_45 : decode cX7_play 45 = .ok (.iload_n 3, 1) := by decide +kernel
theorem dX7_play_46 : decode cX7_play 46 = .ok (.iaload, 1) := by decide +kernel
theorem dX7_play_47 : decode cX7_play 47 = .ok (.goto 4, 3) := by decide +kernel
theorem dX7_play_50 : decode cX7_play 50 = .ok (.iload_n 2, 1) := by decide +kernel
theorem dX7_play_51 : decode cX7_play 51 = .ok (.istore_n 2, 1) := by decide +kernel
theorem dX7_play_52 : decode cX7_play 52 = .ok (.iinc 3 1, 3) := by decide +kernel
theorem dX7_play_55 : decode cX7_play 55 = .ok (.goto (-32), 3) := by decide +kernel
theorem dX7_play_58 : decode cX7_play 58 = .ok (.iload_n 2, 1) := by decide +kernel
theorem dX7_play_59 : decode cX7_play 59 = .ok (.ireturn, 1) := by decide +kernel
set_option maxRecDepth 20000 in
theorem ggX7_isTurn_X7_in : GoodIn wsX7_isTurn wsX7_in := goodIn_r _ [5] (by decide +kernel) (by decide +kernel)
set_option maxRecDepth 20000 in
theorem gX7_isTurn_X7_in : GoodIn wsX7_isTurn (va_wsS RX7 105 yX7_in wsX7_in) := goodIn_app (goodIn_of _ (by decide +kernel)) ggX7_isTurn_X7_in
theorem dX7_isTurn_0 : decode cX7_isTurn 0 = .ok (.iload_n 1, 1) := by decide +kernel
theorem dX7_isTurn_1 : decode cX7_isTurn 1 = .ok (.iconst 0, 1) := by decide +kernel
theorem dX7_isTurn_2 : decode cX7_isTurn 2 = .ok (.aload_n 0, 1) := by decide +kernel
theorem dX7_isTurn_3 : decode cX7_isTurn 3 = .ok (.getfield 35, 3) := by decide +kernel
theorem dX7_isTurn_6 : decode cX7_isTurn 6 = .ok (.iconst 0, 1) := by decide +kernel
theorem dX7_isTurn_7 : decode cX7_isTurn 7 = .ok (.iaload, 1) := by decide +kernel
theorem dX7_isTurn_8 : decode cX7_isTurn 8 = .ok (.iconst 1, 1) := by decide +kernel
theorem dX7_isTurn_9 : decode cX7_isTurn 9 = .ok (.isub, 1) := by decide +kernel
theorem dX7_isTurn_10 : decode cX7_isTurn 10 = .ok (.invokestatic 105, 3) := by decide +kernel
theorem dX7_isTurn_13 : decode cX7_isTurn 13 = .ok (.ireturn, 1) := by decide +kernel
set_option maxRecDepth 20000 in
theorem ggX7_height_X7_isTurn : GoodIn wsX7_height wsX7_isTurn := goodIn_r _ [6, 7, 8, 9, 5, 10, 16, 17, 18, 19, 20, 21, 22, 23, 24, 25, 26, 27, 28, 29, 30, 31, 32, 33, 34, 35, 36, 37, 38, 39, 40, 41, 42, 43, 44, 45, 46, 47, 48, 49] (by decide +kernel) (by decide +kernel)
set_option maxRecDepth 20000 in
theorem gX7_height_X7_isTurn : GoodIn wsX7_height (wsV RX7 159 RX7 yX7_isTurn wsX7_isTurn) := goodIn_app (goodIn_of _ (by decide +kernel)) ggX7_height_X7_isTurn
set_option maxRecDepth 20000 in
theorem ggX7_height_X7_isNode : GoodIn wsX7_height wsX7_isNode := goodIn_r _ [14, 15, 8, 9, 5, 10, 16, 17, 18, 19, 20, 21, 22, 23, 24, 25, 26, 27, 28, 29, 30, 31, 32, 33, 34, 35, 36, 37, 38, 39, 40, 41, 42, 43, 44, 45, 46, 47, 48, 49] (by decide +kernel) (by decide +kernel)
set_option maxRecDepth 20000 in
theorem gX7_height_X7_isNode : GoodIn wsX7_height (wsV RX7 109 RX7 yX7_isNode wsX7_isNode) := goodIn_app (goodIn_of _ (by decide +kernel)) ggX7_height_X7_isNode
theorem dX7_height_0 : decode cX7_height 0 = .ok (.aload_n 0, 1) := by decide +kernel
theorem dX7_height_1 : decode cX7_height 1 = .ok (.iload_n 1, 1) := by decide +kernel
theorem dX7_height_2 : decode cX7_height 2 = .ok (.invokevirtual 159, 3) := by decide +kernel
theorem dX7_height_5 : decode cX7_height 5 = .ok (.ifCond .eq 25, 3) := by decide +kernel
theorem dX7_height_8 : decode cX7_height 8 = .ok (.aload_n 0, 1) := by decide +kernel
theorem dX7_height_9 : decode cX7_height 9 = .ok (.iload_n 2, 1) := by decide +kernel
theorem dX7_height_10 : decode cX7_height 10 = .ok (.invokevirtual 109, 3) := by decide +kernel
theorem dX7_height_13 : decode cX7_height 13 = .ok (.ifCond .eq 17, 3) := by decide +kernel
theorem dX7_height_16 : decode cX7_height 16 = .ok (.aload_n 0, 1) := by decide +kernel
theorem dX7_height_17 : decode cX7_height 17 = .ok (.getfield 53, 3) := by decide +kernel
theorem dX7_height_20 : decode cX7_height 20 = .ok (.bipush 7, 2) := by decide +kernel
theorem dX7_height_22 : decode cX7_height 22 = .ok (.iload_n 1, 1) := by decide +kernel
theorem dX7_height_23 : decode cX7_height 23 = .ok (.imul, 1) := by decide +kernel
theorem dX7_height_24 : decode cX7_height 24 = .ok (.iload_n 2, 1) := by decide +kernel
theorem dX7_height_25 : decode cX7_height 25 = .ok (.iadd, 1) := by decide +kernel
theorem dX7_height_26 : decode cX7_height 26 = .ok (.iaload, 1) := by decide +kernel
theorem dX7_height_27 : decode cX7_height 27 = .ok (.goto 5, 3) := by decide +kernel
theorem dX7_height_30 : decode cX7_height 30 = .ok (.bipush (-2), 2) := by decide +kernel
theorem dX7_height_32 : decode cX7_height 32 = .ok (.ireturn, 1) := by decide +kernel
set_option maxRecDepth 20000 in
theorem ggX7_holds_X7_isTurn : GoodIn wsX7_holds wsX7_isTurn := goodIn_r _ [6, 7, 8, 9, 5, 10, 11, 12, 13, 14, 15, 16, 17, 18, 19, 20, 21, 22, 23, 24, 25, 26, 27, 28, 29, 30, 31, 32, 33, 34, 35, 36, 37, 38, 39, 40, 41, 42, 43, 44] (by decide +kernel) (by decide +kernel)
set_option maxRecDepth 20000 in
theorem gX7_holds_X7_isTurn : GoodIn wsX7_holds (wsV RX7 159 RX7 yX7_isTurn wsX7_isTurn) := goodIn_app (goodIn_of _ (by decide +kernel)) ggX7_holds_X7_isTurn
theorem dX7_holds_0 : decode cX7_holds 0 = .ok (.aload_n 0, 1) := by decide +kernel
theorem dX7_holds_1 : decode cX7_holds 1 = .ok (.iload_n 1, 1) := by decide +kernel
theorem dX7_holds_2 : decode cX7_holds 2 = .ok (.invokevirtual 159, 3) := by decide +kernel
theorem dX7_holds_5 : decode cX7_holds 5 = .ok (.ifCond .ne 8, 3) := by decide +kernel
theorem dX7_holds_8 : decode cX7_holds 8 = .ok (.bipush (-2), 2) := by decide +kernel
theorem dX7_holds_10 : decode cX7_holds 10 = .ok (.goto 17, 3) := by decide +kernel
theorem dX7_holds_13 : decode cX7_holds 13 = .ok (.aload_n 0, 1) := by decide +kernel
theorem dX7_holds_14 : decode cX7_holds 14 = .ok (.getfield 56, 3) := by decide +kernel
theorem dX7_holds_17 : decode cX7_holds 17 = .ok (.iload_n 1, 1) := by decide +kernel
theorem dX7_holds_18 : decode cX7_holds 18 = .ok (.baload, 1) := by decide +kernel
theorem dX7_holds_19 : decode cX7_holds 19 = .ok (.ifCond .eq 7, 3) := by decide +kernel
theorem dX7_holds_22 : decode cX7_holds 22 = .ok (.iconst 1, 1) := by decide +kernel
theorem dX7_holds_23 : decode cX7_holds 23 = .ok (.goto 4, 3) := by decide +kernel
theorem dX7_holds_26 : decode cX7_holds 26 = .ok (.iconst 0, 1) := by decide +kernel
theorem dX7_holds_27 : decode cX7_holds 27 = .ok (.ireturn, 1) := by decide +kernel
theorem dX7_fails_0 : decode cX7_fails 0 = .ok (.aload_n 0, 1) := by decide +kernel
theorem dX7_fails_1 : decode cX7_fails 1 = .ok (.getfield 35, 3) := by decide +kernel
theorem dX7_fails_4 : decode cX7_fails 4 = .ok (.iconst 0, 1) := by decide +kernel
theorem dX7_fails_5 : decode cX7_fails 5 = .ok (.iaload, 1) := by decide +kernel
theorem dX7_fails_6 : decode cX7_fails 6 = .ok (.ifCond .ne 8, 3) := by decide +kernel
theorem dX7_fails_9 : decode cX7_fails 9 = .ok (.bipush (-4), 2) := by decide +kernel
theorem dX7_fails_11 : decode cX7_fails 11 = .ok (.goto 9, 3) := by decide +kernel
theorem dX7_fails_14 : decode cX7_fails 14 = .ok (.aload_n 0, 1) := by decide +kernel
theorem dX7_fails_15 : decode cX7_fails 15 = .ok (.getfield 50, 3) := by decide +kernel
theorem dX7_fails_18 : decode cX7_fails 18 = .ok (.iconst 0, 1) := by decide +kernel
theorem dX7_fails_19 : decode cX7_fails 19 = .ok (.iaload, 1) := by decide +kernel
theorem dX7_fails_20 : decode cX7_fails 20 = .ok (.ireturn, 1) := by decide +kernel
set_option maxRecDepth 20000 in
theorem ggX7_letter_X7_in : GoodIn wsX7_letter wsX7_in := goodIn_r _ [12] (by decide +kernel) (by decide +kernel)
set_option maxRecDepth 20000 in
theorem gX7_letter_X7_in : GoodIn wsX7_letter (va_wsS RX7 105 yX7_in wsX7_in) := goodIn_app (goodIn_of _ (by decide +kernel)) ggX7_letter_X7_in
theorem dX7_letter_0 : decode cX7_letter 0 = .ok (.iload_n 1, 1) := by decide +kernel
theorem dX7_letter_1 : decode cX7_letter 1 = .ok (.iconst 0, 1) := by decide +kernel
theorem dX7_letter_2 : decode cX7_letter 2 = .ok (.aload_n 0, 1) := by decide +kernel
theorem dX7_letter_3 : decode cX7_letter 3 = .ok (.getfield 38, 3) := by decide +kernel
theorem dX7_letter_6 : decode cX7_letter 6 = .ok (.iconst 0, 1) := by decide +kernel
theorem dX7_letter_7 : decode cX7_letter 7 = .ok (.iaload, 1) := by decide +kernel
theorem dX7_letter_8 : decode cX7_letter 8 = .ok (.iconst 1, 1) := by decide +kernel
theorem dX7_letter_9 : decode cX7_letter 9 = .ok (.isub, 1) := by decide +kernel
theorem dX7_letter_10 : decode cX7_letter 10 = .ok (.invokestatic 105, 3) := by decide +kernel
theorem dX7_letter_13 : decode cX7_letter 13 = .ok (.ifCond .eq 13, 3) := by decide +kernel
theorem dX7_letter_16 : decode cX7_letter 16 = .ok (.iload_n 2, 1) := by decide +kernel
theorem dX7_letter_17 : decode cX7_letter 17 = .ok (.iconst 0, 1) := by decide +kernel
theorem dX7_letter_18 : decode cX7_letter 18 = .ok (.bipush 6, 2) := by decide +kernel
theorem dX7_letter_20 : decode cX7_letter 20 = .ok (.invokestatic 105, 3) := by decide +kernel
theorem dX7_letter_23 : decode cX7_letter 23 = .ok (.ifCond .ne 6, 3) := by decide +kernel
theorem dX7_letter_26 : decode cX7_letter 26 = .ok (.bipush (-2), 2) := by decide +kernel
theorem dX7_letter_28 : decode cX7_letter 28 = .ok (.ireturn, 1) := by decide +kernel
theorem dX7_letter_29 : decode cX7_letter 29 = .ok (.iload_n 2, 1) := by decide +kernel
theorem dX7_letter_30 : decode cX7_letter 30 = .ok (.ifCond .ne 12, 3) := by decide +kernel
theorem dX7_letter_33 : decode cX7_letter 33 = .ok (.aload_n 0, 1) := by decide +kernel
theorem dX7_letter_34 : decode cX7_letter 34 = .ok (.getfield 62, 3) := by decide +kernel
theorem dX7_letter_37 : decode cX7_letter 37 = .ok (.iload_n 1, 1) := by decide +kernel
theorem dX7_letter_38 : decode cX7_letter 38 = .ok (.iaload, 1) := by decide +kernel
theorem dX7_letter_39 : decode cX7_letter 39 = .ok (.goto 79, 3) := by decide +kernel
theorem dX7_letter_42 : decode cX7_letter 42 = .ok (.iload_n 2, 1) := by decide +kernel
theorem dX7_letter_43 : decode cX7_letter 43 = .ok (.iconst 1, 1) := by decide +kernel
theorem dX7_letter_44 : decode cX7_letter 44 = .ok (.if_icmp .ne 12, 3) := by decide +kernel
theorem dX7_letter_47 : decode cX7_letter 47 = .ok (.aload_n 0, 1) := by decide +kernel
theorem dX7_letter_48 : decode cX7_letter 48 = .ok (.getfield 65, 3) := by decide +kernel
theorem dX7_letter_51 : decode cX7_letter 51 = .ok (.iload_n 1, 1) := by decide +kernel
theorem dX7_letter_52 : decode cX7_letter 52 = .ok (.iaload, 1) := by decide +kernel
theorem dX7_letter_53 : decode cX7_letter 53 = .ok (.goto 65, 3) := by decide +kernel
theorem dX7_letter_56 : decode cX7_letter 56 = .ok (.iload_n 2, 1) := by decide +kernel
theorem dX7_letter_57 : decode cX7_letter 57 = .ok (.iconst 2, 1) := by decide +kernel
theorem dX7_letter_58 : decode cX7_letter 58 = .ok (.if_icmp .ne 12, 3) := by decide +kernel
theorem dX7_letter_61 : decode cX7_letter 61 = .ok (.aload_n 0, 1) := by decide +kernel
theorem dX7_letter_62 : decode cX7_letter 62 = .ok (.getfield 68, 3) := by decide +kernel
theorem dX7_letter_65 : decode cX7_letter 65 = .ok (.iload_n 1, 1) := by decide +kernel
theorem dX7_letter_66 : decode cX7_letter 66 = .ok (.iaload, 1) := by decide +kernel
theorem dX7_letter_67 : decode cX7_letter 67 = .ok (.goto 51, 3) := by decide +kernel
theorem dX7_letter_70 : decode cX7_letter 70 = .ok (.iload_n 2, 1) := by decide +kernel
theorem dX7_letter_71 : decode cX7_letter 71 = .ok (.iconst 3, 1) := by decide +kernel
theorem dX7_letter_72 : decode cX7_letter 72 = .ok (.if_icmp .ne 12, 3) := by decide +kernel
theorem dX7_letter_75 : decode cX7_letter 75 = .ok (.aload_n 0, 1) := by decide +kernel
theorem dX7_letter_76 : decode cX7_letter 76 = .ok (.getfield 71, 3) := by decide +kernel
theorem dX7_letter_79 : decode cX7_letter 79 = .ok (.iload_n 1, 1) := by decide +kernel
theorem dX7_letter_80 : decode cX7_letter 80 = .ok (.iaload, 1) := by decide +kernel
theorem dX7_letter_81 : decode cX7_letter 81 = .ok (.goto 37, 3) := by decide +kernel
theorem dX7_letter_84 : decode cX7_letter 84 = .ok (.iload_n 2, 1) := by decide +kernel
theorem dX7_letter_85 : decode cX7_letter 85 = .ok (.iconst 4, 1) := by decide +kernel
theorem dX7_letter_86 : decode cX7_letter 86 = .ok (.if_icmp .ne 12, 3) := by decide +kernel
theorem dX7_letter_89 : decode cX7_letter 89 = .ok (.aload_n 0, 1) := by decide +kernel
theorem dX7_letter_90 : decode cX7_letter 90 = .ok (.getfield 74, 3) := by decide +kernel
theorem dX7_letter_93 : decode cX7_letter 93 = .ok (.iload_n 1, 1) := by decide +kernel
theorem dX7_letter_94 : decode cX7_letter 94 = .ok (.iaload, 1) := by decide +kernel
theorem dX7_letter_95 : decode cX7_letter 95 = .ok (.goto 23, 3) := by decide +kernel
theorem dX7_letter_98 : decode cX7_letter 98 = .ok (.iload_n 2, 1) := by decide +kernel
theorem dX7_letter_99 : decode cX7_letter 99 = .ok (.iconst 5, 1) := by decide +kernel
theorem dX7_letter_100 : decode cX7_letter 100 = .ok (.if_icmp .ne 12, 3) := by decide +kernel
theorem dX7_letter_103 : decode cX7_letter 103 = .ok (.aload_n 0, 1) := by decide +kernel
theorem dX7_letter_104 : decode cX7_letter 104 = .ok (.getfield 77, 3) := by decide +kernel
theorem dX7_letter_107 : decode cX7_letter 107 = .ok (.iload_n 1, 1) := by decide +kernel
theorem dX7_letter_108 : decode cX7_letter 108 = .ok (.iaload, 1) := by decide +kernel
theorem dX7_letter_109 : decode cX7_letter 109 = .ok (.goto 9, 3) := by decide +kernel
theorem dX7_letter_112 : decode cX7_letter 112 = .ok (.aload_n 0, 1) := by decide +kernel
theorem dX7_letter_113 : decode cX7_letter 113 = .ok (.getfield 80, 3) := by decide +kernel
theorem dX7_letter_116 : decode cX7_letter 116 = .ok (.iload_n 1, 1) := by decide +kernel
theorem dX7_letter_117 : decode cX7_letter 117 = .ok (.iaload, 1) := by decide +kernel
theorem dX7_letter_118 : decode cX7_letter 118 = .ok (.ireturn, 1) := by decide +kernel
set_option maxRecDepth 20000 in
theorem ggX7_reached_X7_in : GoodIn wsX7_reached wsX7_in := goodIn_r _ [7] (by decide +kernel) (by decide +kernel)
set_option maxRecDepth 20000 in
theorem gX7_reached_X7_in : GoodIn wsX7_reached (va_wsS RX7 105 yX7_in wsX7_in) := goodIn_app (goodIn_of _ (by decide +kernel)) ggX7_reached_X7_in
theorem dX7_reached_0 : decode cX7_reached 0 = .ok (.iload_n 1, 1) := by decide +kernel
theorem dX7_reached_1 : decode cX7_reached 1 = .ok (.iconst 0, 1) := by decide +kernel
theorem dX7_reached_2 : decode cX7_reached 2 = .ok (.bipush 7, 2) := by decide +kernel
theorem dX7_reached_4 : decode cX7_reached 4 = .ok (.invokestatic 105, 3) := by decide +kernel
theorem dX7_reached_7 : decode cX7_reached 7 = .ok (.ifCond .ne 6, 3) := by decide +kernel
theorem dX7_reached_10 : decode cX7_reached 10 = .ok (.bipush (-2), 2) := by decide +kernel
theorem dX7_reached_12 : decode cX7_reached 12 = .ok (.ireturn, 1) := by decide +kernel
theorem dX7_reached_13 : decode cX7_reached 13 = .ok (.aload_n 0, 1) := by decide +kernel
theorem dX7_reached_14 : decode cX7_reached 14 = .ok (.getfield 35, 3) := by decide +kernel
theorem dX7_reached_17 : decode cX7_reached 17 = .ok (.iconst 0, 1) := by decide +kernel
theorem dX7_reached_18 : decode cX7_reached 18 = .ok (.iaload, 1) := by decide +kernel
theorem dX7_reached_19 : decode cX7_reached 19 = .ok (.ifCond .ne 6, 3) := by decide +kernel
theorem dX7_reached_22 : decode cX7_reached 22 = .ok (.bipush (-4), 2) := by decide +kernel
theorem dX7_reached_24 : decode cX7_reached 24 = .ok (.ireturn, 1) := by decide +kernel
theorem dX7_reached_25 : decode cX7_reached 25 = .ok (.iconst 0, 1) := by decide +kernel
theorem dX7_reached_26 : decode cX7_reached 26 = .ok (.istore_n 2, 1) := by decide +kernel
theorem dX7_reached_27 : decode cX7_reached 27 = .ok (.iconst 0, 1) := by decide +kernel
theorem dX7_reached_28 : decode cX7_reached 28 = .ok (.istore_n 3, 1) := by decide +kernel
theorem dX7_reached_29 : decode cX7_reached 29 = .ok (.iload_n 3, 1) := by decide +kernel
theorem dX7_reached_30 : decode cX7_reached 30 = .ok (.aload_n 0, 1) := by decide +kernel
theorem dX7_reached_31 : decode cX7_reached 31 = .ok (.getfield 101, 3) := by decide +kernel
theorem dX7_reached_34 : decode cX7_reached 34 = .ok (.if_icmp .ge 22, 3) := by decide +kernel
theorem dX7_reached_37 : decode cX7_reached 37 = .ok (.iload_n 2, 1) := by decide +kernel
theorem dX7_reached_38 : decode cX7_reached 38 = .ok (.aload_n 0, 1) := by decide +kernel
theorem dX7_reached_39 : decode cX7_reached 39 = .ok (.getfield 59, 3) := by decide +kernel
theorem dX7_reached_42 : decode cX7_reached 42 = .ok (.iload_n 3, 1) := by decide +kernel
theorem dX7_reached_43 : decode cX7_reached 43 = .ok (.iaload, 1) := by decide +kernel
theorem dX7_reached_44 : decode cX7_reached 44 = .ok (.iload_n 1, 1) := by decide +kernel
theorem dX7_reached_45 : decode cX7_reached 45 = .ok (.ishr, 1) := by decide +kernel
theorem dX7_reached_46 : decode cX7_reached 46 = .ok (.iconst 1, 1) := by decide +kernel
theorem dX7_reached_47 : decode cX7_reached 47 = .ok (.iand, 1) := by decide +kernel
theorem dX7_reached_48 : decode cX7_reached 48 = .ok (.iadd, 1) := by decide +kernel
theorem dX7_reached_49 : decode cX7_reached 49 = .ok (.istore_n 2, 1) := by decide +kernel
theorem dX7_reached_50 : decode cX7_reached 50 = .ok (.iinc 3 1, 3) := by decide +kernel
theorem dX7_reached_53 : decode cX7_reached 53 = .ok (.goto (-24), 3) := by decide +kernel
theorem dX7_reached_56 : decode cX7_reached 56 = .ok (.iload_n 2, 1) := by decide +kernel
theorem dX7_reached_57 : decode cX7_reached 57 = .ok (.ireturn, 1) := by decide +kernel
set_option maxRecDepth 20000 in
theorem ggX7_bytes_X7_isNode : GoodIn wsX7_bytes wsX7_isNode := goodIn_r _ [9, 10, 11, 12, 8, 13, 17, 18, 19, 20, 21, 22, 23, 24, 25, 26, 27, 28, 29, 30, 31, 32, 33, 34, 35, 36, 37, 38, 39, 40, 41, 42, 43, 44, 45, 46, 47, 48, 49, 50] (by decide +kernel) (by decide +kernel)
set_option maxRecDepth 20000 in
theorem gX7_bytes_X7_isNode : GoodIn wsX7_bytes (wsV RX7 109 RX7 yX7_isNode wsX7_isNode) := goodIn_app (goodIn_of _ (by decide +kernel)) ggX7_bytes_X7_isNode
set_option maxRecDepth 20000 in
theorem ggX7_bytes_X7_bits : GoodIn wsX7_bytes wsX7_bits := goodIn_r _ [16] (by decide +kernel) (by decide +kernel)
set_option maxRecDepth 20000 in
theorem gX7_bytes_X7_bits : GoodIn wsX7_bytes (va_wsS RX7 113 yX7_bits wsX7_bits) := goodIn_app (goodIn_of _ (by decide +kernel)) ggX7_bytes_X7_bits
theorem dX7_bytes_0 : decode cX7_bytes 0 = .ok (.aload_n 0, 1) := by decide +kernel
theorem dX7_bytes_1 : decode cX7_bytes 1 = .ok (.iload_n 1, 1) := by decide +kernel
theorem dX7_bytes_2 : decode cX7_bytes 2 = .ok (.invokevirtual 109, 3) := by decide +kernel
theorem dX7_bytes_5 : decode cX7_bytes 5 = .ok (.ifCond .ne 6, 3) := by decide +kernel
theorem dX7_bytes_8 : decode cX7_bytes 8 = .ok (.bipush (-2), 2) := by decide +kernel
theorem dX7_bytes_10 : decode cX7_bytes 10 = .ok (.ireturn, 1) := by decide +kernel
theorem dX7_bytes_11 : decode cX7_bytes 11 = .ok (.aload_n 0, 1) := by decide +kernel
theorem dX7_bytes_12 : decode cX7_bytes 12 = .ok (.getfield 35, 3) := by decide +kernel
theorem dX7_bytes_15 : decode cX7_bytes 15 = .ok (.iconst 0, 1) := by decide +kernel
theorem dX7_bytes_16 : decode cX7_bytes 16 = .ok (.iaload, 1) := by decide +kernel
theorem dX7_bytes_17 : decode cX7_bytes 17 = .ok (.ifCond .ne 6, 3) := by decide +kernel
theorem dX7_bytes_20 : decode cX7_bytes 20 = .ok (.bipush (-4), 2) := by decide +kernel
theorem dX7_bytes_22 : decode cX7_bytes 22 = .ok (.ireturn, 1) := by decide +kernel
theorem dX7_bytes_23 : decode cX7_bytes 23 = .ok (.iconst 0, 1) := by decide +kernel
theorem dX7_bytes_24 : decode cX7_bytes 24 = .ok (.istore_n 2, 1) := by decide +kernel
theorem dX7_bytes_25 : decode cX7_bytes 25 = .ok (.iconst 0, 1) := by decide +kernel
theorem dX7_bytes_26 : decode cX7_bytes 26 = .ok (.istore_n 3, 1) := by decide +kernel
theorem dX7_bytes_27 : decode cX7_bytes 27 = .ok (.iload_n 3, 1) := by decide +kernel
theorem dX7_bytes_28 : decode cX7_bytes 28 = .ok (.aload_n 0, 1) := by decide +kernel
theorem dX7_bytes_29 : decode cX7_bytes 29 = .ok (.getfield 38, 3) := by decide +kernel
theorem dX7_bytes_32 : decode cX7_bytes 32 = .ok (.iconst 0, 1) := by decide +kernel
theorem dX7_bytes_33 : decode cX7_bytes 33 = .ok (.iaload, 1) := by decide +kernel
theorem dX7_bytes_34 : decode cX7_bytes 34 = .ok (.if_icmp .ge 37, 3) := by decide +kernel
theorem dX7_bytes_37 : decode cX7_bytes 37 = .ok (.iload_n 2, 1) := by decide +kernel
theorem dX7_bytes_38 : decode cX7_bytes 38 = .ok (.aload_n 0, 1) := by decide +kernel
theorem dX7_bytes_39 : decode cX7_bytes 39 = .ok (.getfield 62, 3) := by decide +kernel
theorem dX7_bytes_42 : decode cX7_bytes 42 = .ok (.iload_n 3, 1) := by decide +kernel
theorem dX7_bytes_43 : decode cX7_bytes 43 = .ok (.iaload, 1) := by decide +kernel
theorem dX7_bytes_44 : decode cX7_bytes 44 = .ok (.iload_n 1, 1) := by decide +kernel
theorem dX7_bytes_45 : decode cX7_bytes 45 = .ok (.if_icmp .ne 17, 3) := by decide +kernel
theorem dX7_bytes_48 : decode cX7_bytes 48 = .ok (.iconst 4, 1) := by decide +kernel
theorem dX7_bytes_49 : decode cX7_bytes 49 = .ok (.aload_n 0, 1) := by decide +kernel
theorem dX7_bytes_50 : decode cX7_bytes 50 = .ok (.getfield 74, 3) := by decide +kernel
theorem dX7_bytes_53 : decode cX7_bytes 53 = .ok (.iload_n 3, 1) := by decide +kernel
theorem dX7_bytes_54 : decode cX7_bytes 54 = .ok (.iaload, 1) := by decide +kernel
theorem dX7_bytes_55 : decode cX7_bytes 55 = .ok (.invokestatic 113, 3) := by decide +kernel
theorem dX7_bytes_58 : decode cX7_bytes 58 = .ok (.iadd, 1) := by decide +kernel
theorem dX7_bytes_59 : decode cX7_bytes 59 = .ok (.goto 4, 3) := by decide +kernel
theorem dX7_bytes_62 : decode cX7_bytes 62 = .ok (.iconst 0, 1) := by decide +kernel
theorem dX7_bytes_63 : decode cX7_bytes 63 = .ok (.iadd, 1) := by decide +kernel
theorem dX7_bytes_64 : decode cX7_bytes 64 = .ok (.istore_n 2, 1) := by decide +kernel
theorem dX7_bytes_65 : decode cX7_bytes 65 = .ok (.iinc 3 1, 3) := by decide +kernel
theorem dX7_bytes_68 : decode cX7_bytes 68 = .ok (.goto (-41), 3) := by decide +kernel
theorem dX7_bytes_71 : decode cX7_bytes 71 = .ok (.iload_n 2, 1) := by decide +kernel
theorem dX7_bytes_72 : decode cX7_bytes 72 = .ok (.ireturn, 1) := by decide +kernel
set_option maxRecDepth 20000 in
theorem ggX7_shrink_X7_isFailing : GoodIn wsX7_shrink wsX7_isFailing := goodIn_r _ [8, 1, 9, 10, 11, 12, 7, 13, 14, 15, 16, 17, 18, 19, 20, 21, 22, 23, 24, 25, 26, 27, 28, 29, 30, 31, 32, 33, 2, 3, 34, 35, 36, 37, 38, 39, 40, 41, 42, 43, 44, 45, 46, 47, 48, 49, 50, 51, 52, 53, 54, 55, 56, 57, 58, 59, 60, 61, 62, 63, 64, 65, 66, 67, 68, 69, 70, 71, 72, 73, 74, 79, 80, 81, 82, 83, 84, 85, 86, 87, 88, 89, 90, 91, 92, 93, 94, 95, 96, 97, 98, 99, 100, 101, 102, 103, 104, 105, 106, 107, 108, 109, 110, 111, 112] (by decide +kernel) (by decide +kernel)
set_option maxRecDepth 20000 in
theorem gX7_shrink_X7_isFailing : GoodIn wsX7_shrink (wsV RX7 162 RX7 yX7_isFailing wsX7_isFailing) := goodIn_app (goodIn_of _ (by decide +kernel)) ggX7_shrink_X7_isFailing
set_option maxRecDepth 20000 in
theorem ggX7_shrink_X7_remove : GoodIn wsX7_shrink wsX7_remove := goodIn_r _ [78, 2, 34, 35, 36, 70, 79, 80, 81, 82, 83, 84, 85, 86, 87, 88, 89, 90, 91, 92, 93, 94, 95, 96, 97, 98, 99, 100, 101, 102, 103, 104, 105, 106, 107, 108, 109, 110, 111, 112] (by decide +kernel) (by decide +kernel)
set_option maxRecDepth 20000 in
theorem gX7_shrink_X7_remove : GoodIn wsX7_shrink (wsV RX7 120 RX7 yX7_remove wsX7_remove) := goodIn_app (goodIn_of _ (by decide +kernel)) ggX7_shrink_X7_remove
set_option maxRecDepth 20000 in
theorem ggX7_shrink_X7_run : GoodIn wsX7_shrink wsX7_run := goodIn_r _ [13, 1, 14, 15, 16, 17, 9, 18, 19, 20, 21, 22, 23, 24, 25, 26, 27, 28, 29, 30, 31, 32, 7, 33, 2, 3, 34, 35, 36, 37, 38, 39, 40, 41, 42, 43, 44, 45, 46, 47, 48, 49, 50, 51, 52, 53, 54, 55, 56, 57, 58, 59, 60, 61, 62, 63, 64, 65, 66, 67, 68, 69, 70, 71, 72, 73, 74, 79, 80, 81, 82, 83, 84, 85, 86, 87, 88, 89, 90, 91, 92, 93, 94, 95, 96, 97, 98, 99, 100, 101, 102, 103, 104, 105, 106, 107, 108, 109, 110, 111, 112] (by decide +kernel) (by decide +kernel)
set_option maxRecDepth 20000 in
theorem gX7_shrink_X7_run : GoodIn wsX7_shrink (wsV RX7 156 RX7 yX7_run wsX7_run) := goodIn_app (goodIn_of _ (by decide +kernel)) ggX7_shrink_X7_run
theorem dX7_shrink_0 : decode cX7_shrink 0 = .ok (.aload_n 0, 1) := by decide +kernel
theorem dX7_shrink_1 : decode cX7_shrink 1 = .ok (.getfield 35, 3) := by decide +kernel
theorem dX7_shrink_4 : decode cX7_shrink 4 = .ok (.iconst 0, 1) := by decide +kernel
theorem dX7_shrink_5 : decode cX7_shrink 5 = .ok (.iaload, 1) := by decide +kernel
theorem dX7_shrink_6 : decode cX7_shrink 6 = .ok (.ifCond .eq 10, 3) := by decide +kernel
theorem dX7_shrink_9 : decode cX7_shrink 9 = .ok (.aload_n 0, 1) := by decide +kernel
theorem dX7_shrink_10 : decode cX7_shrink 10 = .ok (.invokevirtual 162, 3) := by decide +kernel
theorem dX7_shrink_13 : decode cX7_shrink 13 = .ok (.ifCond .ne 6, 3) := by decide +kernel
theorem dX7_shrink_16 : decode cX7_shrink 16 = .ok (.bipush (-4), 2) := by decide +kernel
theorem dX7_shrink_18 : decode cX7_shrink 18 = .ok (.ireturn, 1) := by decide +kernel
theorem dX7_shrink_19 : decode cX7_shrink 19 = .ok (.aload_n 0, 1) := by decide +kernel
theorem dX7_shrink_20 : decode cX7_shrink 20 = .ok (.getfield 117, 3) := by decide +kernel
theorem dX7_shrink_23 : decode cX7_shrink 23 = .ok (.iconst 1, 1) := by decide +kernel
theorem dX7_shrink_24 : decode cX7_shrink 24 = .ok (.isub, 1) := by decide +kernel
theorem dX7_shrink_25 : decode cX7_shrink 25 = .ok (.istore_n 1, 1) := by decide +kernel
theorem dX7_shrink_26 : decode cX7_shrink 26 = .ok (.iload_n 1, 1) := by decide +kernel
theorem dX7_shrink_27 : decode cX7_shrink 27 = .ok (.ifCond .lt 37, 3) := by decide +kernel
theorem dX7_shrink_30 : decode cX7_shrink 30 = .ok (.aload_n 0, 1) := by decide +kernel
theorem dX7_shrink_31 : decode cX7_shrink 31 = .ok (.getfield 31, 3) := by decide +kernel
theorem dX7_shrink_34 : decode cX7_shrink 34 = .ok (.iload_n 1, 1) := by decide +kernel
theorem dX7_shrink_35 : decode cX7_shrink 35 = .ok (.iconst 1, 1) := by decide +kernel
theorem dX7_shrink_36 : decode cX7_shrink 36 = .ok (.bastore, 1) := by decide +kernel
theorem dX7_shrink_37 : decode cX7_shrink 37 = .ok (.aload_n 0, 1) := by decide +kernel
theorem dX7_shrink_38 : decode cX7_shrink 38 = .ok (.invokevirtual 162, 3) := by decide +kernel
theorem dX7_shrink_41 : decode cX7_shrink 41 = .ok (.istore_n 2, 1) := by decide +kernel
theorem dX7_shrink_42 : decode cX7_shrink 42 = .ok (.aload_n 0, 1) := by decide +kernel
theorem dX7_shrink_43 : decode cX7_shrink 43 = .ok (.getfield 31, 3) := by decide +kernel
theorem dX7_shrink_46 : decode cX7_shrink 46 = .ok (.iload_n 1, 1) := by decide +kernel
theorem dX7_shrink_47 : decode cX7_shrink 47 = .ok (.iconst 0, 1) := by decide +kernel
theorem dX7_shrink_48 : decode cX7_shrink 48 = .ok (.bastore, 1) := by decide +kernel
theorem dX7_shrink_49 : decode cX7_shrink 49 = .ok (.iload_n 2, 1) := by decide +kernel
theorem dX7_shrink_50 : decode cX7_shrink 50 = .ok (.ifCond .eq 8, 3) := by decide +kernel
theorem dX7_shrink_53 : decode cX7_shrink 53 = .ok (.aload_n 0, 1) := by decide +kernel
theorem dX7_shrink_54 : decode cX7_shrink 54 = .ok (.iload_n 1, 1) := by decide +kernel
theorem dX7_shrink_55 : decode cX7_shrink 55 = .ok (.invokevirtual 120, 3) := by decide +kernel
theorem dX7_shrink_58 : decode cX7_shrink 58 = .ok (.iinc 1 (-1), 3) := by decide +kernel
theorem dX7_shrink_61 : decode cX7_shrink 61 = .ok (.goto (-35), 3) := by decide +kernel
theorem dX7_shrink_64 : decode cX7_shrink 64 = .ok (.aload_n 0, 1) := by decide +kernel
theorem dX7_shrink_65 : decode cX7_shrink 65 = .ok (.iconst 0, 1) := by decide +kernel
theorem dX7_shrink_66 : decode cX7_shrink 66 = .ok (.aload_n 0, 1) := by decide +kernel
theorem dX7_shrink_67 : decode cX7_shrink 67 = .ok (.getfield 35, 3) := by decide +kernel
theorem dX7_shrink_70 : decode cX7_shrink 70 = .ok (.iconst 0, 1) := by decide +kernel
theorem dX7_shrink_71 : decode cX7_shrink 71 = .ok (.iaload, 1) := by decide +kernel
theorem dX7_shrink_72 : decode cX7_shrink 72 = .ok (.invokevirtual 156, 3) := by decide +kernel
theorem dX7_shrink_75 : decode cX7_shrink 75 = .ok (.aload_n 0, 1) := by decide +kernel
theorem dX7_shrink_76 : decode cX7_shrink 76 = .ok (.getfield 117, 3) := by decide +kernel
theorem dX7_shrink_79 : decode cX7_shrink 79 = .ok (.ireturn, 1) := by decide +kernel
set_option maxRecDepth 20000 in
theorem ggX7_minimal_X7_isFailing : GoodIn wsX7_minimal wsX7_isFailing := goodIn_r _ [8, 1, 9, 10, 11, 12, 7, 13, 14, 15, 16, 17, 18, 19, 20, 21, 22, 23, 24, 25, 26, 27, 28, 29, 30, 31, 32, 33, 2, 3, 34, 35, 36, 37, 38, 39, 40, 41, 42, 43, 44, 45, 46, 47, 48, 49, 50, 51, 52, 53, 54, 55, 56, 57, 58, 59, 60, 61, 62, 63, 64, 65, 66, 67, 68, 69, 70, 71, 72, 73, 74, 75, 76, 77, 78, 79, 80, 81, 82, 83, 84, 85, 86, 87, 88, 89, 90, 91, 92, 93, 94, 95, 96, 97, 98, 99, 100, 101, 102, 103, 104, 105, 106, 107, 108] (by decide +kernel) (by decide +kernel)
set_option maxRecDepth 20000 in
theorem gX7_minimal_X7_isFailing : GoodIn wsX7_minimal (wsV RX7 162 RX7 yX7_isFailing wsX7_isFailing) := goodIn_app (goodIn_of _ (by decide +kernel)) ggX7_minimal_X7_isFailing
theorem dX7_minimal_0 : decode cX7_minimal 0 = .ok (.aload_n 0, 1) := by decide +kernel
theorem dX7_minimal_1 : decode cX7_minimal 1 = .ok (.getfield 35, 3) := by decide +kernel
theorem dX7_minimal_4 : decode cX7_minimal 4 = .ok (.iconst 0, 1) := by decide +kernel
theorem dX7_minimal_5 : decode cX7_minimal 5 = .ok (.iaload, 1) := by decide +kernel
theorem dX7_minimal_6 : decode cX7_minimal 6 = .ok (.ifCond .ne 6, 3) := by decide +kernel
theorem dX7_minimal_9 : decode cX7_minimal 9 = .ok (.bipush (-4), 2) := by decide +kernel
theorem dX7_minimal_11 : decode cX7_minimal 11 = .ok (.ireturn, 1) := by decide +kernel
theorem dX7_minimal_12 : decode cX7_minimal 12 = .ok (.aload_n 0, 1) := by decide +kernel
theorem dX7_minimal_13 : decode cX7_minimal 13 = .ok (.invokevirtual 162, 3) := by decide +kernel
theorem dX7_minimal_16 : decode cX7_minimal 16 = .ok (.istore_n 1, 1) := by decide +kernel
theorem dX7_minimal_17 : decode cX7_minimal 17 = .ok (.iconst 0, 1) := by decide +kernel
theorem dX7_minimal_18 : decode cX7_minimal 18 = .ok (.istore_n 2, 1) := by decide +kernel
theorem dX7_minimal_19 : decode cX7_minimal 19 = .ok (.iload_n 2, 1) := by decide +kernel
theorem dX7_minimal_20 : decode cX7_minimal 20 = .ok (.aload_n 0, 1) := by decide +kernel
theorem dX7_minimal_21 : decode cX7_minimal 21 = .ok (.getfield 117, 3) := by decide +kernel
theorem dX7_minimal_24 : decode cX7_minimal 24 = .ok (.if_icmp .ge 40, 3) := by decide +kernel
theorem dX7_minimal_27 : decode cX7_minimal 27 = .ok (.iload_n 1, 1) := by decide +kernel
theorem dX7_minimal_28 : decode cX7_minimal 28 = .ok (.ifCond .eq 36, 3) := by decide +kernel
theorem dX7_minimal_31 : decode cX7_minimal 31 = .ok (.aload_n 0, 1) := by decide +kernel
theorem dX7_minimal_32 : decode cX7_minimal 32 = .ok (.getfield 31, 3) := by decide +kernel
theorem dX7_minimal_35 : decode cX7_minimal 35 = .ok (.iload_n 2, 1) := by decide +kernel
theorem dX7_minimal_36 : decode cX7_minimal 36 = .ok (.iconst 1, 1) := by decide +kernel
theorem dX7_minimal_37 : decode cX7_minimal 37 = .ok (.bastore, 1) := by decide +kernel
theorem dX7_minimal_38 : decode cX7_minimal 38 = .ok (.aload_n 0, 1) := by decide +kernel
theorem dX7_minimal_39 : decode cX7_minimal 39 = .ok (.invokevirtual 162, 3) := by decide +kernel
theorem dX7_minimal_42 : decode cX7_minimal 42 = .ok (.ifCond .ne 7, 3) := by decide +kernel
theorem dX7_minimal_45 : decode cX7_minimal 45 = .ok (.iconst 1, 1) := by decide +kernel
theorem dX7_minimal_46 : decode cX7_minimal 46 = .ok (.goto 4, 3) := by decide +kernel
theorem dX7_minimal_49 : decode cX7_minimal 49 = .ok (.iconst 0, 1) := by decide +kernel
theorem dX7_minimal_50 : decode cX7_minimal 50 = .ok (.istore_n 1, 1) := by decide +kernel
theorem dX7_minimal_51 : decode cX7_minimal 51 = .ok (.aload_n 0, 1) := by decide +kernel
theorem dX7_minimal_52 : decode cX7_minimal 52 = .ok (.getfield 31, 3) := by decide +kernel
theorem dX7_minimal_55 : decode cX7_minimal 55 = .ok (.iload_n 2, 1) := by decide +kernel
theorem dX7_minimal_56 : decode cX7_minimal 56 = .ok (.iconst 0, 1) := by decide +kernel
theorem dX7_minimal_57 : decode cX7_minimal 57 = .ok (.bastore, 1) := by decide +kernel
theorem dX7_minimal_58 : decode cX7_minimal 58 = .ok (.iinc 2 1, 3) := by decide +kernel
theorem dX7_minimal_61 : decode cX7_minimal 61 = .ok (.goto (-42), 3) := by decide +kernel
theorem dX7_minimal_64 : decode cX7_minimal 64 = .ok (.iload_n 1, 1) := by decide +kernel
theorem dX7_minimal_65 : decode cX7_minimal 65 = .ok (.ifCond .eq 7, 3) := by decide +kernel
theorem dX7_minimal_68 : decode cX7_minimal 68 = .ok (.iconst 1, 1) := by decide +kernel
theorem dX7_minimal_69 : decode cX7_minimal 69 = .ok (.goto 4, 3) := by decide +kernel
theorem dX7_minimal_72 : decode cX7_minimal 72 = .ok (.iconst 0, 1) := by decide +kernel
theorem dX7_minimal_73 : decode cX7_minimal 73 = .ok (.ireturn, 1) := by decide +kernel
set_option maxRecDepth 20000 in
theorem ggX7_sets_X7_in : GoodIn wsX7_sets wsX7_in := goodIn_r _ [6] (by decide +kernel) (by decide +kernel)
set_option maxRecDepth 20000 in
theorem gX7_sets_X7_in : GoodIn wsX7_sets (va_wsS RX7 105 yX7_in wsX7_in) := goodIn_app (goodIn_of _ (by decide +kernel)) ggX7_sets_X7_in
set_option maxRecDepth 20000 in
theorem ggX7_sets_X7_isFailing : GoodIn wsX7_sets wsX7_isFailing := goodIn_r _ [10, 1, 11, 12, 13, 14, 5, 15, 16, 17, 18, 19, 20, 21, 22, 23, 24, 25, 26, 27, 28, 29, 30, 31, 32, 33, 34, 35, 36, 37, 38, 39, 40, 41, 42, 43, 44, 45, 46, 3, 4, 6, 47, 48, 49, 50, 51, 52, 53, 54, 55, 56, 57, 58, 59, 60, 61, 62, 63, 64, 65, 66, 67, 68, 69, 2, 70, 71, 72, 73, 74, 75, 76, 77, 78, 79, 80, 81, 82, 83, 84, 85, 86, 87, 88, 89, 90, 91, 92, 93, 94, 95, 96, 97, 98, 99, 100, 101, 102, 103, 104, 105, 106, 107, 108] (by decide +kernel) (by decide +kernel)
set_option maxRecDepth 20000 in
theorem gX7_sets_X7_isFailing : GoodIn wsX7_sets (wsV RX7 162 RX7 yX7_isFailing wsX7_isFailing) := goodIn_app (goodIn_of _ (by decide +kernel)) ggX7_sets_X7_isFailing
theorem dX7_sets_0 : decode cX7_sets 0 = .ok (.iload_n 1, 1) := by decide +kernel
theorem dX7_sets_1 : decode cX7_sets 1 = .ok (.iconst 0, 1) := by decide +kernel
theorem dX7_sets_2 : decode cX7_sets 2 = .ok (.iconst 5, 1) := by decide +kernel
theorem dX7_sets_3 : decode cX7_sets 3 = .ok (.invokestatic 105, 3) := by decide +kernel
theorem dX7_sets_6 : decode cX7_sets 6 = .ok (.ifCond .ne 6, 3) := by decide +kernel
theorem dX7_sets_9 : decode cX7_sets 9 = .ok (.bipush (-3), 2) := by decide +kernel
theorem dX7_sets_11 : decode cX7_sets 11 = .ok (.ireturn, 1) := by decide +kernel
theorem dX7_sets_12 : decode cX7_sets 12 = .ok (.aload_n 0, 1) := by decide +kernel
theorem dX7_sets_13 : decode cX7_sets 13 = .ok (.getfield 35, 3) := by decide +kernel
theorem dX7_sets_16 : decode cX7_sets 16 = .ok (.iconst 0, 1) := by decide +kernel
theorem dX7_sets_17 : decode cX7_sets 17 = .ok (.iaload, 1) := by decide +kernel
theorem dX7_sets_18 : decode cX7_sets 18 = .ok (.ifCond .ne 6, 3) := by decide +kernel
theorem dX7_sets_21 : decode cX7_sets 21 = .ok (.bipush (-4), 2) := by decide +kernel
theorem dX7_sets_23 : decode cX7_sets 23 = .ok (.ireturn, 1) := by decide +kernel
theorem dX7_sets_24 : decode cX7_sets 24 = .ok (.iconst 0, 1) := by decide +kernel
theorem dX7_sets_25 : decode cX7_sets 25 = .ok (.istore_n 2, 1) := by decide +kernel
theorem dX7_sets_26 : decode cX7_sets 26 = .ok (.iconst 0, 1) := by decide +kernel
theorem dX7_sets_27 : decode cX7_sets 27 = .ok (.istore_n 3, 1) := by decide +kernel
theorem dX7_sets_28 : decode cX7_sets 28 = .ok (.iload_n 3, 1) := by decide +kernel
theorem dX7_sets_29 : decode cX7_sets 29 = .ok (.iconst 1, 1) := by decide +kernel
theorem dX7_sets_30 : decode cX7_sets 30 = .ok (.iload_n 1, 1) := by decide +kernel
theorem dX7_sets_31 : decode cX7_sets 31 = .ok (.ishl, 1) := by decide +kernel
theorem dX7_sets_32 : decode cX7_sets 32 = .ok (.if_icmp .ge 29, 3) := by decide +kernel
theorem dX7_sets_35 : decode cX7_sets 35 = .ok (.aload_n 0, 1) := by decide +kernel
theorem dX7_sets_36 : decode cX7_sets 36 = .ok (.iload_n 3, 1) := by decide +kernel
theorem dX7_sets_37 : decode cX7_sets 37 = .ok (.putfield 135, 3) := by decide +kernel
theorem dX7_sets_40 : decode cX7_sets 40 = .ok (.iload_n 2, 1) := by decide +kernel
theorem dX7_sets_41 : decode cX7_sets 41 = .ok (.aload_n 0, 1) := by decide +kernel
theorem dX7_sets_42 : decode cX7_sets 42 = .ok (.invokevirtual 162, 3) := by decide +kernel
theorem dX7_sets_45 : decode cX7_sets 45 = .ok (.ifCond .eq 7, 3) := by decide +kernel
theorem dX7_sets_48 : decode cX7_sets 48 = .ok (.iconst 1, 1) := by decide +kernel
theorem dX7_sets_49 : decode cX7_sets 49 = .ok (.goto 4, 3) := by decide +kernel
theorem dX7_sets_52 : decode cX7_sets 52 = .ok (.iconst 0, 1) := by decide +kernel
theorem dX7_sets_53 : decode cX7_sets 53 = .ok (.iadd, 1) := by decide +kernel
theorem dX7_sets_54 : decode cX7_sets 54 = .ok (.istore_n 2, 1) := by decide +kernel
theorem dX7_sets_55 : decode cX7_sets 55 = .ok (.iinc 3 1, 3) := by decide +kernel
theorem dX7_sets_58 : decode cX7_sets 58 = .ok (.goto (-30), 3) := by decide +kernel
theorem dX7_sets_61 : decode cX7_sets 61 = .ok (.aload_n 0, 1) := by decide +kernel
theorem dX7_sets_62 : decode cX7_sets 62 = .ok (.iconst 0, 1) := by decide +kernel
theorem dX7_sets_63 : decode cX7_sets 63 = .ok (.putfield 135, 3) := by decide +kernel
theorem dX7_sets_66 : decode cX7_sets 66 = .ok (.iload_n 2, 1) := by decide +kernel
theorem dX7_sets_67 : decode cX7_sets 67 = .ok (.ireturn, 1) := by decide +kernel
theorem dX7_count_0 : decode cX7_count 0 = .ok (.iload_n 1, 1) := by decide +kernel
theorem dX7_count_1 : decode cX7_count 1 = .ok (.ifCond .ne 10, 3) := by decide +kernel
theorem dX7_count_4 : decode cX7_count 4 = .ok (.aload_n 0, 1) := by decide +kernel
theorem dX7_count_5 : decode cX7_count 5 = .ok (.getfield 101, 3) := by decide +kernel
theorem dX7_count_8 : decode cX7_count 8 = .ok (.goto 88, 3) := by decide +kernel
theorem dX7_count_11 : decode cX7_count 11 = .ok (.iload_n 1, 1) := by decide +kernel
theorem dX7_count_12 : decode cX7_count 12 = .ok (.iconst 1, 1) := by decide +kernel
theorem dX7_count_13 : decode cX7_count 13 = .ok (.if_icmp .ne 10, 3) := by decide +kernel
theorem dX7_count_16 : decode cX7_count 16 = .ok (.aload_n 0, 1) := by decide +kernel
theorem dX7_count_17 : decode cX7_count 17 = .ok (.getfield 117, 3) := by decide +kernel
theorem dX7_count_20 : decode cX7_count 20 = .ok (.goto 76, 3) := by decide +kernel
theorem dX7_count_23 : decode cX7_count 23 = .ok (.iload_n 1, 1) := by decide +kernel
theorem dX7_count_24 : decode cX7_count 24 = .ok (.iconst 2, 1) := by decide +kernel
theorem dX7_count_25 : decode cX7_count 25 = .ok (.if_icmp .ne 12, 3) := by decide +kernel
theorem dX7_count_28 : decode cX7_count 28 = .ok (.aload_n 0, 1) := by decide +kernel
theorem dX7_count_29 : decode cX7_count 29 = .ok (.getfield 35, 3) := by decide +kernel
theorem dX7_count_32 : decode cX7_count 32 = .ok (.iconst 0, 1) := by decide +kernel
theorem dX7_count_33 : decode cX7_count 33 = .ok (.iaload, 1) := by decide +kernel
theorem dX7_count_34 : decode cX7_count 34 = .ok (.goto 62, 3) := by decide +kernel
theorem dX7_count_37 : decode cX7_count 37 = .ok (.iload_n 1, 1) := by decide +kernel
theorem dX7_count_38 : decode cX7_count 38 = .ok (.iconst 3, 1) := by decide +kernel
theorem dX7_count_39 : decode cX7_count 39 = .ok (.if_icmp .ne 12, 3) := by decide +kernel
theorem dX7_count_42 : decode cX7_count 42 = .ok (.aload_n 0, 1) := by decide +kernel
theorem dX7_count_43 : decode cX7_count 43 = .ok (.getfield 38, 3) := by decide +kernel
theorem dX7_count_46 : decode cX7_count 46 = .ok (.iconst 0, 1) := by decide +kernel
theorem dX7_count_47 : decode cX7_count 47 = .ok (.iaload, 1) := by decide +kernel
theorem dX7_count_48 : decode cX7_count 48 = .ok (.goto 48, 3) := by decide +kernel
theorem dX7_count_51 : decode cX7_count 51 = .ok (.iload_n 1, 1) := by decide +kernel
theorem dX7_count_52 : decode cX7_count 52 = .ok (.iconst 4, 1) := by decide +kernel
theorem dX7_count_53 : decode cX7_count 53 = .ok (.if_icmp .ne 12, 3) := by decide +kernel
theorem dX7_count_56 : decode cX7_count 56 = .ok (.aload_n 0, 1) := by decide +kernel
theorem dX7_count_57 : decode cX7_count 57 = .ok (.getfield 41, 3) := by decide +kernel
theorem dX7_count_60 : decode cX7_count 60 = .ok (.iconst 0, 1) := by decide +kernel
theorem dX7_count_61 : decode cX7_count 61 = .ok (.iaload, 1) := by decide +kernel
theorem dX7_count_62 : decode cX7_count 62 = .ok (.goto 34, 3) := by decide +kernel
theorem dX7_count_65 : decode cX7_count 65 = .ok (.iload_n 1, 1) := by decide +kernel
theorem dX7_count_66 : decode cX7_count 66 = .ok (.iconst 5, 1) := by decide +kernel
theorem dX7_count_67 : decode cX7_count 67 = .ok (.if_icmp .ne 12, 3) := by decide +kernel
theorem dX7_count_70 : decode cX7_count 70 = .ok (.aload_n 0, 1) := by decide +kernel
theorem dX7_count_71 : decode cX7_count 71 = .ok (.getfield 44, 3) := by decide +kernel
theorem dX7_count_74 : decode cX7_count 74 = .ok (.iconst 0, 1) := by decide +kernel
theorem dX7_count_75 : decode cX7_count 75 = .ok (.iaload, 1) := by decide +kernel
theorem dX7_count_76 : decode cX7_count 76 = .ok (.goto 20, 3) := by decide +kernel
theorem dX7_count_79 : decode cX7_count 79 = .ok (.iload_n 1, 1) := by decide +kernel
theorem dX7_count_80 : decode cX7_count 80 = .ok (.bipush 6, 2) := by decide +kernel
theorem dX7_count_82 : decode cX7_count 82 = .ok (.if_icmp .ne 12, 3) := by decide +kernel
theorem dX7_count_85 : decode cX7_count 85 = .ok (.aload_n 0, 1) := by decide +kernel
theorem dX7_count_86 : decode cX7_count 86 = .ok (.getfield 47, 3) := by decide +kernel
theorem dX7_count_89 : decode cX7_count 89 = .ok (.iconst 0, 1) := by decide +kernel
theorem dX7_count_90 : decode cX7_count 90 = .ok (.iaload, 1) := by decide +kernel
theorem dX7_count_91 : decode cX7_count 91 = .ok (.goto 5, 3) := by decide +kernel
theorem dX7_count_94 : decode cX7_count 94 = .ok (.bipush (-2), 2) := by decide +kernel
theorem dX7_count_96 : decode cX7_count 96 = .ok (.ireturn, 1) := by decide +kernel
theorem dJ6_bitCount_0f7a4_0 : decode cJ6_bitCount_0f7a4 0 = .ok (.iload_n 0, 1) := by decide +kernel
theorem dJ6_bitCount_0f7a4_1 : decode cJ6_bitCount_0f7a4 1 = .ok (.iload_n 0, 1) := by decide +kernel
theorem dJ6_bitCount_0f7a4_2 : decode cJ6_bitCount_0f7a4 2 = .ok (.iconst 1, 1) := by decide +kernel
theorem dJ6_bitCount_0f7a4_3 : decode cJ6_bitCount_0f7a4 3 = .ok (.iushr, 1) := by decide +kernel
theorem dJ6_bitCount_0f7a4_4 : decode cJ6_bitCount_0f7a4 4 = .ok (.ldc_w 265, 3) := by decide +kernel
theorem dJ6_bitCount_0f7a4_7 : decode cJ6_bitCount_0f7a4 7 = .ok (.iand, 1) := by decide +kernel
theorem dJ6_bitCount_0f7a4_8 : decode cJ6_bitCount_0f7a4 8 = .ok (.isub, 1) := by decide +kernel
theorem dJ6_bitCount_0f7a4_9 : decode cJ6_bitCount_0f7a4 9 = .ok (.istore_n 0, 1) := by decide +kernel
theorem dJ6_bitCount_0f7a4_10 : decode cJ6_bitCount_0f7a4 10 = .ok (.iload_n 0, 1) := by decide +kernel
theorem dJ6_bitCount_0f7a4_11 : decode cJ6_bitCount_0f7a4 11 = .ok (.ldc_w 266, 3) := by decide +kernel
theorem dJ6_bitCount_0f7a4_14 : decode cJ6_bitCount_0f7a4 14 = .ok (.iand, 1) := by decide +kernel
theorem dJ6_bitCount_0f7a4_15 : decode cJ6_bitCount_0f7a4 15 = .ok (.iload_n 0, 1) := by decide +kernel
theorem dJ6_bitCount_0f7a4_16 : decode cJ6_bitCount_0f7a4 16 = .ok (.iconst 2, 1) := by decide +kernel
theorem dJ6_bitCount_0f7a4_17 : decode cJ6_bitCount_0f7a4 17 = .ok (.iushr, 1) := by decide +kernel
theorem dJ6_bitCount_0f7a4_18 : decode cJ6_bitCount_0f7a4 18 = .ok (.ldc_w 266, 3) := by decide +kernel
theorem dJ6_bitCount_0f7a4_21 : decode cJ6_bitCount_0f7a4 21 = .ok (.iand, 1) := by decide +kernel
theorem dJ6_bitCount_0f7a4_22 : decode cJ6_bitCount_0f7a4 22 = .ok (.iadd, 1) := by decide +kernel
theorem dJ6_bitCount_0f7a4_23 : decode cJ6_bitCount_0f7a4 23 = .ok (.istore_n 0, 1) := by decide +kernel
theorem dJ6_bitCount_0f7a4_24 : decode cJ6_bitCount_0f7a4 24 = .ok (.iload_n 0, 1) := by decide +kernel
theorem dJ6_bitCount_0f7a4_25 : decode cJ6_bitCount_0f7a4 25 = .ok (.iload_n 0, 1) := by decide +kernel
theorem dJ6_bitCount_0f7a4_26 : decode cJ6_bitCount_0f7a4 26 = .ok (.iconst 4, 1) := by decide +kernel
theorem dJ6_bitCount_0f7a4_27 : decode cJ6_bitCount_0f7a4 27 = .ok (.iushr, 1) := by decide +kernel
theorem dJ6_bitCount_0f7a4_28 : decode cJ6_bitCount_0f7a4 28 = .ok (.iadd, 1) := by decide +kernel
theorem dJ6_bitCount_0f7a4_29 : decode cJ6_bitCount_0f7a4 29 = .ok (.ldc_w 267, 3) := by decide +kernel
theorem dJ6_bitCount_0f7a4_32 : decode cJ6_bitCount_0f7a4 32 = .ok (.iand, 1) := by decide +kernel
theorem dJ6_bitCount_0f7a4_33 : decode cJ6_bitCount_0f7a4 33 = .ok (.istore_n 0, 1) := by decide +kernel
theorem dJ6_bitCount_0f7a4_34 : decode cJ6_bitCount_0f7a4 34 = .ok (.iload_n 0, 1) := by decide +kernel
theorem dJ6_bitCount_0f7a4_35 : decode cJ6_bitCount_0f7a4 35 = .ok (.iload_n 0, 1) := by decide +kernel
theorem dJ6_bitCount_0f7a4_36 : decode cJ6_bitCount_0f7a4 36 = .ok (.bipush 8, 2) := by decide +kernel
theorem dJ6_bitCount_0f7a4_38 : decode cJ6_bitCount_0f7a4 38 = .ok (.iushr, 1) := by decide +kernel
theorem dJ6_bitCount_0f7a4_39 : decode cJ6_bitCount_0f7a4 39 = .ok (.iadd, 1) := by decide +kernel
theorem dJ6_bitCount_0f7a4_40 : decode cJ6_bitCount_0f7a4 40 = .ok (.istore_n 0, 1) := by decide +kernel
theorem dJ6_bitCount_0f7a4_41 : decode cJ6_bitCount_0f7a4 41 = .ok (.iload_n 0, 1) := by decide +kernel
theorem dJ6_bitCount_0f7a4_42 : decode cJ6_bitCount_0f7a4 42 = .ok (.iload_n 0, 1) := by decide +kernel
theorem dJ6_bitCount_0f7a4_43 : decode cJ6_bitCount_0f7a4 43 = .ok (.bipush 16, 2) := by decide +kernel
theorem dJ6_bitCount_0f7a4_45 : decode cJ6_bitCount_0f7a4 45 = .ok (.iushr, 1) := by decide +kernel
theorem dJ6_bitCount_0f7a4_46 : decode cJ6_bitCount_0f7a4 46 = .ok (.iadd, 1) := by decide +kernel
theorem dJ6_bitCount_0f7a4_47 : decode cJ6_bitCount_0f7a4 47 = .ok (.istore_n 0, 1) := by decide +kernel
theorem dJ6_bitCount_0f7a4_48 : decode cJ6_bitCount_0f7a4 48 = .ok (.iload_n 0, 1) := by decide +kernel
theorem dJ6_bitCount_0f7a4_49 : decode cJ6_bitCount_0f7a4 49 = .ok (.bipush 63, 2) := by decide +kernel
theorem dJ6_bitCount_0f7a4_51 : decode cJ6_bitCount_0f7a4 51 = .ok (.iand, 1) := by decide +kernel
theorem dJ6_bitCount_0f7a4_52 : decode cJ6_bitCount_0f7a4 52 = .ok (.ireturn, 1) := by decide +kernel
theorem dJ9_max_7cf53_0 : decode cJ9_max_7cf53 0 = .ok (.iload_n 0, 1) := by decide +kernel
theorem dJ9_max_7cf53_1 : decode cJ9_max_7cf53 1 = .ok (.iload_n 1, 1) := by decide +kernel
theorem dJ9_max_7cf53_2 : decode cJ9_max_7cf53 2 = .ok (.if_icmp .lt 7, 3) := by decide +kernel
theorem dJ9_max_7cf53_5 : decode cJ9_max_7cf53 5 = .ok (.iload_n 0, 1) := by decide +kernel
theorem dJ9_max_7cf53_6 : decode cJ9_max_7cf53 6 = .ok (.goto 4, 3) := by decide +kernel
theorem dJ9_max_7cf53_9 : decode cJ9_max_7cf53 9 = .ok (.iload_n 1, 1) := by decide +kernel
theorem dJ9_max_7cf53_10 : decode cJ9_max_7cf53 10 = .ok (.ireturn, 1) := by decide +kernel
theorem dJ9_min_7cf53_0 : decode cJ9_min_7cf53 0 = .ok (.iload_n 0, 1) := by decide +kernel
theorem dJ9_min_7cf53_1 : decode cJ9_min_7cf53 1 = .ok (.iload_n 1, 1) := by decide +kernel
theorem dJ9_min_7cf53_2 : decode cJ9_min_7cf53 2 = .ok (.if_icmp .gt 7, 3) := by decide +kernel
theorem dJ9_min_7cf53_5 : decode cJ9_min_7cf53 5 = .ok (.iload_n 0, 1) := by decide +kernel
theorem dJ9_min_7cf53_6 : decode cJ9_min_7cf53 6 = .ok (.goto 4, 3) := by decide +kernel
theorem dJ9_min_7cf53_9 : decode cJ9_min_7cf53 9 = .ok (.iload_n 1, 1) := by decide +kernel
theorem dJ9_min_7cf53_10 : decode cJ9_min_7cf53 10 = .ok (.ireturn, 1) := by decide +kernel
theorem dJ7_fill_53178_0 : decode cJ7_fill_53178 0 = .ok (.iconst 0, 1) := by decide +kernel
theorem dJ7_fill_53178_1 : decode cJ7_fill_53178 1 = .ok (.istore_n 2, 1) := by decide +kernel
theorem dJ7_fill_53178_2 : decode cJ7_fill_53178 2 = .ok (.aload_n 0, 1) := by decide +kernel
theorem dJ7_fill_53178_3 : decode cJ7_fill_53178 3 = .ok (.arraylength, 1) := by decide +kernel
theorem dJ7_fill_53178_4 : decode cJ7_fill_53178 4 = .ok (.istore_n 3, 1) := by decide +kernel
theorem dJ7_fill_53178_5 : decode cJ7_fill_53178 5 = .ok (.iload_n 2, 1) := by decide +kernel
theorem dJ7_fill_53178_6 : decode cJ7_fill_53178 6 = .ok (.iload_n 3, 1) := by decide +kernel
theorem dJ7_fill_53178_7 : decode cJ7_fill_53178 7 = .ok (.if_icmp .ge 13, 3) := by decide +kernel
theorem dJ7_fill_53178_10 : decode cJ7_fill_53178 10 = .ok (.aload_n 0, 1) := by decide +kernel
theorem dJ7_fill_53178_11 : decode cJ7_fill_53178 11 = .ok (.iload_n 2, 1) := by decide +kernel
theorem dJ7_fill_53178_12 : decode cJ7_fill_53178 12 = .ok (.iload_n 1, 1) := by decide +kernel
theorem dJ7_fill_53178_13 : decode cJ7_fill_53178 13 = .ok (.iastore, 1) := by decide +kernel
theorem dJ7_fill_53178_14 : decode cJ7_fill_53178 14 = .ok (.iinc 2 1, 3) := by decide +kernel
theorem dJ7_fill_53178_17 : decode cJ7_fill_53178 17 = .ok (.goto (-12), 3) := by decide +kernel
theorem dJ7_fill_53178_20 : decode cJ7_fill_53178 20 = .ok (.return_, 1) := by decide +kernel
end
