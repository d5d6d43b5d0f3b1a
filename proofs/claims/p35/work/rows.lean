section
-- ===== PART A: goes FIRST, ahead of the names: the tables' words, and 'selects' of the private methods out of them =====
/-- a private method of a class that the tables say can be made, by its rows of tables_1 -/
def lw_okq (q : MethodName × Nat) : Prop := (q.1.cls ≠ "java/lang/invoke/MethodHandle" ∧ q.1.cls ≠ "java/lang/invoke/VarHandle") ∧ Cond.instantiable q.1.cls q.2 ∈ tables_1 ∧ Cond.privateMethod q.1 ∈ tables_1 ∧ Cond.instanceMethod q.1 ∈ tables_1
theorem lw_p0 : lw_okq (⟨"GranaryLadder", "storeSacks", "(III)I"⟩, 10) := ⟨⟨by decide +kernel, by decide +kernel⟩, List.mem_of_getElem? (i := 13) (by decide +kernel), List.mem_of_getElem? (i := 146) (by decide +kernel), List.mem_of_getElem? (i := 147) (by decide +kernel)⟩
theorem lw_p1 : lw_okq (⟨"GranaryLadder", "hasRoom", "(III)Z"⟩, 10) := ⟨⟨by decide +kernel, by decide +kernel⟩, List.mem_of_getElem? (i := 13) (by decide +kernel), List.mem_of_getElem? (i := 159) (by decide +kernel), List.mem_of_getElem? (i := 160) (by decide +kernel)⟩
theorem lw_p2 : lw_okq (⟨"GranaryLadder", "refuseRoom", "(III)I"⟩, 10) := ⟨⟨by decide +kernel, by decide +kernel⟩, List.mem_of_getElem? (i := 13) (by decide +kernel), List.mem_of_getElem? (i := 178) (by decide +kernel), List.mem_of_getElem? (i := 179) (by decide +kernel)⟩
theorem lw_p3 : lw_okq (⟨"GranaryLadder", "refuse", "(II)I"⟩, 10) := ⟨⟨by decide +kernel, by decide +kernel⟩, List.mem_of_getElem? (i := 13) (by decide +kernel), List.mem_of_getElem? (i := 182) (by decide +kernel), List.mem_of_getElem? (i := 183) (by decide +kernel)⟩
theorem lw_p4 : lw_okq (⟨"GranaryLadder$Wall", "changeSacks", "(II)V"⟩, 6) := ⟨⟨by decide +kernel, by decide +kernel⟩, List.mem_of_getElem? (i := 21) (by decide +kernel), List.mem_of_getElem? (i := 201) (by decide +kernel), List.mem_of_getElem? (i := 202) (by decide +kernel)⟩
theorem lw_p5 : lw_okq (⟨"GranaryLadder$Wall", "crackOver", "(I)I"⟩, 6) := ⟨⟨by decide +kernel, by decide +kernel⟩, List.mem_of_getElem? (i := 21) (by decide +kernel), List.mem_of_getElem? (i := 208) (by decide +kernel), List.mem_of_getElem? (i := 209) (by decide +kernel)⟩
theorem lw_p6 : lw_okq (⟨"GranaryLadder", "remember", "(I)I"⟩, 10) := ⟨⟨by decide +kernel, by decide +kernel⟩, List.mem_of_getElem? (i := 13) (by decide +kernel), List.mem_of_getElem? (i := 225) (by decide +kernel), List.mem_of_getElem? (i := 226) (by decide +kernel)⟩
theorem lw_p7 : lw_okq (⟨"GranaryLadder", "moveSacks", "(III)I"⟩, 10) := ⟨⟨by decide +kernel, by decide +kernel⟩, List.mem_of_getElem? (i := 13) (by decide +kernel), List.mem_of_getElem? (i := 241) (by decide +kernel), List.mem_of_getElem? (i := 242) (by decide +kernel)⟩
theorem lw_p8 : lw_okq (⟨"GranaryLadder", "hasSacks", "(II)Z"⟩, 10) := ⟨⟨by decide +kernel, by decide +kernel⟩, List.mem_of_getElem? (i := 13) (by decide +kernel), List.mem_of_getElem? (i := 245) (by decide +kernel), List.mem_of_getElem? (i := 246) (by decide +kernel)⟩
theorem lw_p9 : lw_okq (⟨"GranaryLadder", "refuseSacks", "(I)I"⟩, 10) := ⟨⟨by decide +kernel, by decide +kernel⟩, List.mem_of_getElem? (i := 13) (by decide +kernel), List.mem_of_getElem? (i := 249) (by decide +kernel), List.mem_of_getElem? (i := 250) (by decide +kernel)⟩
theorem lw_p10 : lw_okq (⟨"GranaryLadder", "mend", "(I)I"⟩, 10) := ⟨⟨by decide +kernel, by decide +kernel⟩, List.mem_of_getElem? (i := 13) (by decide +kernel), List.mem_of_getElem? (i := 265) (by decide +kernel), List.mem_of_getElem? (i := 266) (by decide +kernel)⟩
theorem lw_p11 : lw_okq (⟨"GranaryLadder", "letWeeksPass", "(I)I"⟩, 10) := ⟨⟨by decide +kernel, by decide +kernel⟩, List.mem_of_getElem? (i := 13) (by decide +kernel), List.mem_of_getElem? (i := 287) (by decide +kernel), List.mem_of_getElem? (i := 288) (by decide +kernel)⟩
theorem lw_p12 : lw_okq (⟨"GranaryLadder$CommandText", "readCommand", "()Z"⟩, 6) := ⟨⟨by decide +kernel, by decide +kernel⟩, List.mem_of_getElem? (i := 66) (by decide +kernel), List.mem_of_getElem? (i := 313) (by decide +kernel), List.mem_of_getElem? (i := 314) (by decide +kernel)⟩
theorem lw_p13 : lw_okq (⟨"GranaryLadder$CommandText", "nextCode", "()I"⟩, 6) := ⟨⟨by decide +kernel, by decide +kernel⟩, List.mem_of_getElem? (i := 66) (by decide +kernel), List.mem_of_getElem? (i := 331) (by decide +kernel), List.mem_of_getElem? (i := 332) (by decide +kernel)⟩
theorem lw_p14 : lw_okq (⟨"GranaryLadder$CommandText", "addCell", "(I)V"⟩, 6) := ⟨⟨by decide +kernel, by decide +kernel⟩, List.mem_of_getElem? (i := 66) (by decide +kernel), List.mem_of_getElem? (i := 376) (by decide +kernel), List.mem_of_getElem? (i := 377) (by decide +kernel)⟩
theorem lw_p15 : lw_okq (⟨"GranaryLadder$CommandText", "readAlong", "(Ljava/lang/String;)Z"⟩, 6) := ⟨⟨by decide +kernel, by decide +kernel⟩, List.mem_of_getElem? (i := 66) (by decide +kernel), List.mem_of_getElem? (i := 381) (by decide +kernel), List.mem_of_getElem? (i := 382) (by decide +kernel)⟩
def lw_privs_1 : List (MethodName × Nat) := [(⟨"GranaryLadder", "storeSacks", "(III)I"⟩, 10), (⟨"GranaryLadder", "hasRoom", "(III)Z"⟩, 10), (⟨"GranaryLadder", "refuseRoom", "(III)I"⟩, 10), (⟨"GranaryLadder", "refuse", "(II)I"⟩, 10), (⟨"GranaryLadder$Wall", "changeSacks", "(II)V"⟩, 6), (⟨"GranaryLadder$Wall", "crackOver", "(I)I"⟩, 6), (⟨"GranaryLadder", "remember", "(I)I"⟩, 10), (⟨"GranaryLadder", "moveSacks", "(III)I"⟩, 10), (⟨"GranaryLadder", "hasSacks", "(II)Z"⟩, 10), (⟨"GranaryLadder", "refuseSacks", "(I)I"⟩, 10), (⟨"GranaryLadder", "mend", "(I)I"⟩, 10), (⟨"GranaryLadder", "letWeeksPass", "(I)I"⟩, 10), (⟨"GranaryLadder$CommandText", "readCommand", "()Z"⟩, 6), (⟨"GranaryLadder$CommandText", "nextCode", "()I"⟩, 6), (⟨"GranaryLadder$CommandText", "addCell", "(I)V"⟩, 6), (⟨"GranaryLadder$CommandText", "readAlong", "(Ljava/lang/String;)Z"⟩, 6)]
theorem lw_r1 : ∀ q ∈ lw_privs_1, lw_okq q := List.forall_mem_cons.mpr ⟨lw_p0, List.forall_mem_cons.mpr ⟨lw_p1, List.forall_mem_cons.mpr ⟨lw_p2, List.forall_mem_cons.mpr ⟨lw_p3, List.forall_mem_cons.mpr ⟨lw_p4, List.forall_mem_cons.mpr ⟨lw_p5, List.forall_mem_cons.mpr ⟨lw_p6, List.forall_mem_cons.mpr ⟨lw_p7, List.forall_mem_cons.mpr ⟨lw_p8, List.forall_mem_cons.mpr ⟨lw_p9, List.forall_mem_cons.mpr ⟨lw_p10, List.forall_mem_cons.mpr ⟨lw_p11, List.forall_mem_cons.mpr ⟨lw_p12, List.forall_mem_cons.mpr ⟨lw_p13, List.forall_mem_cons.mpr ⟨lw_p14, List.forall_mem_cons.mpr ⟨lw_p15, fun _ h => absurd h List.not_mem_nil⟩⟩⟩⟩⟩⟩⟩⟩⟩⟩⟩⟩⟩⟩⟩⟩
theorem lw_p16 : lw_okq (⟨"GranaryLadder$CommandText", "readNumber", "(I)Z"⟩, 6) := ⟨⟨by decide +kernel, by decide +kernel⟩, List.mem_of_getElem? (i := 66) (by decide +kernel), List.mem_of_getElem? (i := 393) (by decide +kernel), List.mem_of_getElem? (i := 394) (by decide +kernel)⟩
theorem lw_p17 : lw_okq (⟨"GranaryLadder$CommandText", "readKind", "()Z"⟩, 6) := ⟨⟨by decide +kernel, by decide +kernel⟩, List.mem_of_getElem? (i := 66) (by decide +kernel), List.mem_of_getElem? (i := 398) (by decide +kernel), List.mem_of_getElem? (i := 399) (by decide +kernel)⟩
theorem lw_p18 : lw_okq (⟨"GranaryLadder$CommandText", "readCode", "(I)Z"⟩, 6) := ⟨⟨by decide +kernel, by decide +kernel⟩, List.mem_of_getElem? (i := 66) (by decide +kernel), List.mem_of_getElem? (i := 404) (by decide +kernel), List.mem_of_getElem? (i := 405) (by decide +kernel)⟩
theorem lw_p19 : lw_okq (⟨"GranaryLadder", "carryOut", "(I)I"⟩, 10) := ⟨⟨by decide +kernel, by decide +kernel⟩, List.mem_of_getElem? (i := 13) (by decide +kernel), List.mem_of_getElem? (i := 420) (by decide +kernel), List.mem_of_getElem? (i := 421) (by decide +kernel)⟩
theorem lw_p20 : lw_okq (⟨"GranaryLadder", "takeSacks", "(II)I"⟩, 10) := ⟨⟨by decide +kernel, by decide +kernel⟩, List.mem_of_getElem? (i := 13) (by decide +kernel), List.mem_of_getElem? (i := 432) (by decide +kernel), List.mem_of_getElem? (i := 433) (by decide +kernel)⟩
theorem lw_p21 : lw_okq (⟨"GranaryLadder", "fillOrder", "(II)I"⟩, 10) := ⟨⟨by decide +kernel, by decide +kernel⟩, List.mem_of_getElem? (i := 13) (by decide +kernel), List.mem_of_getElem? (i := 436) (by decide +kernel), List.mem_of_getElem? (i := 437) (by decide +kernel)⟩
theorem lw_p22 : lw_okq (⟨"GranaryLadder$Wall", "isAhead", "(II)Z"⟩, 6) := ⟨⟨by decide +kernel, by decide +kernel⟩, List.mem_of_getElem? (i := 21) (by decide +kernel), List.mem_of_getElem? (i := 579) (by decide +kernel), List.mem_of_getElem? (i := 580) (by decide +kernel)⟩
theorem lw_p23 : lw_okq (⟨"GranaryLadder", "stepsByKnown", "(I)I"⟩, 10) := ⟨⟨by decide +kernel, by decide +kernel⟩, List.mem_of_getElem? (i := 13) (by decide +kernel), List.mem_of_getElem? (i := 642) (by decide +kernel), List.mem_of_getElem? (i := 643) (by decide +kernel)⟩
theorem lw_p24 : lw_okq (⟨"GranaryLadder", "knownSteps", "(II)I"⟩, 10) := ⟨⟨by decide +kernel, by decide +kernel⟩, List.mem_of_getElem? (i := 13) (by decide +kernel), List.mem_of_getElem? (i := 646) (by decide +kernel), List.mem_of_getElem? (i := 647) (by decide +kernel)⟩
def lw_privs_2 : List (MethodName × Nat) := [(⟨"GranaryLadder$CommandText", "readNumber", "(I)Z"⟩, 6), (⟨"GranaryLadder$CommandText", "readKind", "()Z"⟩, 6), (⟨"GranaryLadder$CommandText", "readCode", "(I)Z"⟩, 6), (⟨"GranaryLadder", "carryOut", "(I)I"⟩, 10), (⟨"GranaryLadder", "takeSacks", "(II)I"⟩, 10), (⟨"GranaryLadder", "fillOrder", "(II)I"⟩, 10), (⟨"GranaryLadder$Wall", "isAhead", "(II)Z"⟩, 6), (⟨"GranaryLadder", "stepsByKnown", "(I)I"⟩, 10), (⟨"GranaryLadder", "knownSteps", "(II)I"⟩, 10)]
theorem lw_r2 : ∀ q ∈ lw_privs_2, lw_okq q := List.forall_mem_cons.mpr ⟨lw_p16, List.forall_mem_cons.mpr ⟨lw_p17, List.forall_mem_cons.mpr ⟨lw_p18, List.forall_mem_cons.mpr ⟨lw_p19, List.forall_mem_cons.mpr ⟨lw_p20, List.forall_mem_cons.mpr ⟨lw_p21, List.forall_mem_cons.mpr ⟨lw_p22, List.forall_mem_cons.mpr ⟨lw_p23, List.forall_mem_cons.mpr ⟨lw_p24, fun _ h => absurd h List.not_mem_nil⟩⟩⟩⟩⟩⟩⟩⟩⟩
def lw_privs : List (MethodName × Nat) := lw_privs_1 ++ (lw_privs_2)
def lw_tbl : List Cond := k2_sels lw_privs ++ tables_1
theorem lw_privs_ok : ∀ q ∈ lw_privs, lw_okq q := by
  show ∀ q ∈ lw_privs_1 ++ (lw_privs_2), lw_okq q
  exact List.forall_mem_append.mpr ⟨lw_r1, lw_r2⟩
/-- the streams that the claim lets the run draw from -/
abbrev lw_cs : List Choice := [Jvm.Choice.named "NaN.bits"]
theorem lw_bits : nanBits ∈ lw_cs := by first | decide | exact List.mem_cons_self | simp [lw_cs, nanBits]
/-! ===== BEGIN words of one list among another's, by their places ===== -/
theorem goodIn_r {big : List Cond} (ws : List Cond) (ps : List Nat) (hp : ws = ps.filterMap (fun i => big[i]?)) (h : ws.all goodWord = true) : GoodIn big ws := by
  intro w hw
  have h1 := List.all_eq_true.mp h w hw
  rw [hp] at hw
  obtain ⟨i, -, hi⟩ := List.mem_filterMap.mp hw
  have hm : w ∈ big := by first | exact List.mem_of_getElem? hi | exact List.getElem?_mem hi
  exact ⟨hm, good_of_word h1⟩
theorem goodIn_app {big a b : List Cond} (ha : GoodIn big a) (hb : GoodIn big b) : GoodIn big (a ++ b) := fun w h => (List.mem_append.mp h).elim (ha w) (hb w)
theorem goodIn_ca {big a b : List Cond} {c : Cond} (ha : GoodIn big (c :: a)) (hb : GoodIn big b) : GoodIn big (c :: (a ++ b)) := fun w h => (List.mem_cons.mp h).elim (fun e => ha w (List.mem_cons.mpr (Or.inl e))) (fun h => (List.mem_append.mp h).elim (fun h => ha w (List.mem_cons.mpr (Or.inr h))) (hb w))
theorem goodIn_sub {big ws : List Cond} (hm : ∀ w ∈ ws, w ∈ big) (h : ws.all goodWord = true) : GoodIn big ws := fun w hw => ⟨hm w hw, good_of_word (List.all_eq_true.mp h w hw)⟩
/-! ===== END ===== -/

/-! ===== BEGIN printed: names, fields, word lists, decode rows ===== -/
def RX0 : String := "GranaryLadder$CommandText"
def TX0 : u_T := fun k => match k with
  | 0 => ("GranaryLadder$CommandText", "codes", "[I", true)
  | 1 => ("GranaryLadder$CommandText", "length", "I", false)
  | 2 => ("GranaryLadder$CommandText", "cells", "[I", true)
  | 3 => ("GranaryLadder$CommandText", "commands", "I", false)
  | 4 => ("GranaryLadder$CommandText", "nextCell", "I", false)
  | _ => ("GranaryLadder$CommandText", "place", "I", false)
def tyX0 : Nat → FieldType := fun k => match k with
  | 0 => .array .int
  | 1 => .int
  | 2 => .array .int
  | 3 => .int
  | 4 => .int
  | _ => .int
abbrev wsX00 : List Cond := u_ws RX0 TX0 6
theorem nmX0 : ∀ a, a < 6 → ∀ b, b < 6 → a ≠ b → (TX0 a).2.1 ≠ (TX0 b).2.1 := by decide +kernel
theorem tyX0_ok : ∀ k, k < 6 → parseFieldDescriptor (TX0 k).2.2.1 = some (tyX0 k) := by decide +kernel
abbrev cX0_init : ByteArray := prog_2_method_1_code
def yX0_init : MethodName := ⟨RX0, "<init>", "()V"⟩
abbrev cX0_size : ByteArray := prog_2_method_2_code
def yX0_size : MethodName := ⟨RX0, "size", "()I"⟩
abbrev cX0_addCode : ByteArray := prog_2_method_3_code
def yX0_addCode : MethodName := ⟨RX0, "addCode", "(I)I"⟩
abbrev cX0_becomeEmpty : ByteArray := prog_2_method_4_code
def yX0_becomeEmpty : MethodName := ⟨RX0, "becomeEmpty", "()V"⟩
abbrev cX0_faultPosition : ByteArray := prog_2_method_5_code
def yX0_faultPosition : MethodName := ⟨RX0, "faultPosition", "()I"⟩
abbrev cX0_commandCount : ByteArray := prog_2_method_6_code
def yX0_commandCount : MethodName := ⟨RX0, "commandCount", "()I"⟩
abbrev cX0_verb : ByteArray := prog_2_method_7_code
def yX0_verb : MethodName := ⟨RX0, "verb", "(I)I"⟩
abbrev cX0_argument : ByteArray := prog_2_method_8_code
def yX0_argument : MethodName := ⟨RX0, "argument", "(II)I"⟩
abbrev cX0_readCommands : ByteArray := prog_2_method_9_code
def yX0_readCommands : MethodName := ⟨RX0, "readCommands", "()Z"⟩
abbrev cX0_readCommand : ByteArray := prog_2_method_10_code
def yX0_readCommand : MethodName := ⟨RX0, "readCommand", "()Z"⟩
abbrev cX0_patternOf : ByteArray := prog_2_method_11_code
def yX0_patternOf : MethodName := ⟨RX0, "patternOf", "(I)Ljava/lang/String;"⟩
abbrev cX0_readAlong : ByteArray := prog_2_method_12_code
def yX0_readAlong : MethodName := ⟨RX0, "readAlong", "(Ljava/lang/String;)Z"⟩
abbrev cX0_readNumber : ByteArray := prog_2_method_13_code
def yX0_readNumber : MethodName := ⟨RX0, "readNumber", "(I)Z"⟩
abbrev cX0_readKind : ByteArray := prog_2_method_14_code
def yX0_readKind : MethodName := ⟨RX0, "readKind", "()Z"⟩
abbrev cX0_readCode : ByteArray := prog_2_method_15_code
def yX0_readCode : MethodName := ⟨RX0, "readCode", "(I)Z"⟩
abbrev cX0_nextCode : ByteArray := prog_2_method_16_code
def yX0_nextCode : MethodName := ⟨RX0, "nextCode", "()I"⟩
abbrev cX0_addCell : ByteArray := prog_2_method_17_code
def yX0_addCell : MethodName := ⟨RX0, "addCell", "(I)V"⟩
def RX1 : String := "GranaryLadder$Line"
def TX1 : u_T := fun k => match k with
  | 0 => ("GranaryLadder$Line", "codes", "[I", true)
  | _ => ("GranaryLadder$Line", "length", "I", false)
def tyX1 : Nat → FieldType := fun k => match k with
  | 0 => .array .int
  | _ => .int
abbrev wsX10 : List Cond := u_ws RX1 TX1 2
theorem nmX1 : ∀ a, a < 2 → ∀ b, b < 2 → a ≠ b → (TX1 a).2.1 ≠ (TX1 b).2.1 := by decide +kernel
theorem tyX1_ok : ∀ k, k < 2 → parseFieldDescriptor (TX1 k).2.2.1 = some (tyX1 k) := by decide +kernel
abbrev cX1_init : ByteArray := prog_3_method_1_code
def yX1_init : MethodName := ⟨RX1, "<init>", "()V"⟩
abbrev cX1_size : ByteArray := prog_3_method_2_code
def yX1_size : MethodName := ⟨RX1, "size", "()I"⟩
abbrev cX1_becomeEmpty : ByteArray := prog_3_method_3_code
def yX1_becomeEmpty : MethodName := ⟨RX1, "becomeEmpty", "()V"⟩
abbrev cX1_addCode : ByteArray := prog_3_method_4_code
def yX1_addCode : MethodName := ⟨RX1, "addCode", "(I)V"⟩
abbrev cX1_addNumber : ByteArray := prog_3_method_5_code
def yX1_addNumber : MethodName := ⟨RX1, "addNumber", "(I)V"⟩
abbrev cX1_codeAt : ByteArray := prog_3_method_6_code
def yX1_codeAt : MethodName := ⟨RX1, "codeAt", "(I)I"⟩
def RX2 : String := "GranaryLadder$Past"
def TX2 : u_T := fun k => match k with
  | 0 => ("GranaryLadder$Past", "walls", "[LGranaryLadder$Wall;", true)
  | 1 => ("GranaryLadder$Past", "next", "I", false)
  | _ => ("GranaryLadder$Past", "kept", "I", false)
def tyX2 : Nat → FieldType := fun k => match k with
  | 0 => .array (.object "GranaryLadder$Wall")
  | 1 => .int
  | _ => .int
abbrev wsX20 : List Cond := u_ws RX2 TX2 3
theorem nmX2 : ∀ a, a < 3 → ∀ b, b < 3 → a ≠ b → (TX2 a).2.1 ≠ (TX2 b).2.1 := by decide +kernel
theorem tyX2_ok : ∀ k, k < 3 → parseFieldDescriptor (TX2 k).2.2.1 = some (tyX2 k) := by decide +kernel
abbrev cX2_init : ByteArray := prog_4_method_1_code
def yX2_init : MethodName := ⟨RX2, "<init>", "()V"⟩
abbrev cX2_size : ByteArray := prog_4_method_2_code
def yX2_size : MethodName := ⟨RX2, "size", "()I"⟩
abbrev cX2_keep : ByteArray := prog_4_method_3_code
def yX2_keep : MethodName := ⟨RX2, "keep", "(LGranaryLadder$Wall;)V"⟩
abbrev cX2_giveBack : ByteArray := prog_4_method_4_code
def yX2_giveBack : MethodName := ⟨RX2, "giveBack", "(LGranaryLadder$Wall;)V"⟩
abbrev cX2_forget : ByteArray := prog_4_method_5_code
def yX2_forget : MethodName := ⟨RX2, "forget", "()V"⟩
def RX3 : String := "GranaryLadder$Wall"
def TX3 : u_T := fun k => match k with
  | 0 => ("GranaryLadder$Wall", "kinds", "[I", true)
  | 1 => ("GranaryLadder$Wall", "sacks", "[I", true)
  | 2 => ("GranaryLadder$Wall", "ages", "[I", true)
  | 3 => ("GranaryLadder$Wall", "sums", "[I", true)
  | 4 => ("GranaryLadder$Wall", "cracks", "[I", true)
  | _ => ("GranaryLadder$Wall", "counters", "[I", true)
def tyX3 : Nat → FieldType := fun k => match k with
  | 0 => .array .int
  | 1 => .array .int
  | 2 => .array .int
  | 3 => .array .int
  | 4 => .array .int
  | _ => .array .int
abbrev wsX30 : List Cond := u_ws RX3 TX3 6
theorem nmX3 : ∀ a, a < 6 → ∀ b, b < 6 → a ≠ b → (TX3 a).2.1 ≠ (TX3 b).2.1 := by decide +kernel
theorem tyX3_ok : ∀ k, k < 6 → parseFieldDescriptor (TX3 k).2.2.1 = some (tyX3 k) := by decide +kernel
abbrev cX3_init : ByteArray := prog_5_method_1_code
def yX3_init : MethodName := ⟨RX3, "<init>", "()V"⟩
abbrev cX3_copyFrom : ByteArray := prog_5_method_2_code
def yX3_copyFrom : MethodName := ⟨RX3, "copyFrom", "(LGranaryLadder$Wall;)V"⟩
abbrev cX3_isEmpty : ByteArray := prog_5_method_3_code
def yX3_isEmpty : MethodName := ⟨RX3, "isEmpty", "(I)Z"⟩
abbrev cX3_kindIn : ByteArray := prog_5_method_4_code
def yX3_kindIn : MethodName := ⟨RX3, "kindIn", "(I)I"⟩
abbrev cX3_sacksIn : ByteArray := prog_5_method_5_code
def yX3_sacksIn : MethodName := ⟨RX3, "sacksIn", "(I)I"⟩
abbrev cX3_ageIn : ByteArray := prog_5_method_6_code
def yX3_ageIn : MethodName := ⟨RX3, "ageIn", "(I)I"⟩
abbrev cX3_sumOf : ByteArray := prog_5_method_7_code
def yX3_sumOf : MethodName := ⟨RX3, "sumOf", "(I)I"⟩
abbrev cX3_isCracked : ByteArray := prog_5_method_8_code
def yX3_isCracked : MethodName := ⟨RX3, "isCracked", "(I)Z"⟩
abbrev cX3_makeSound : ByteArray := prog_5_method_9_code
def yX3_makeSound : MethodName := ⟨RX3, "makeSound", "(I)V"⟩
abbrev cX3_counted : ByteArray := prog_5_method_10_code
def yX3_counted : MethodName := ⟨RX3, "counted", "(I)I"⟩
abbrev cX3_count : ByteArray := prog_5_method_11_code
def yX3_count : MethodName := ⟨RX3, "count", "(II)V"⟩
abbrev cX3_bring : ByteArray := prog_5_method_12_code
def yX3_bring : MethodName := ⟨RX3, "bring", "(IIII)I"⟩
abbrev cX3_remove : ByteArray := prog_5_method_13_code
def yX3_remove : MethodName := ⟨RX3, "remove", "(II)V"⟩
abbrev cX3_changeSacks : ByteArray := prog_5_method_14_code
def yX3_changeSacks : MethodName := ⟨RX3, "changeSacks", "(II)V"⟩
abbrev cX3_crackOver : ByteArray := prog_5_method_15_code
def yX3_crackOver : MethodName := ⟨RX3, "crackOver", "(I)I"⟩
abbrev cX3_cracksUnder : ByteArray := prog_5_method_16_code
def yX3_cracksUnder : MethodName := ⟨RX3, "cracksUnder", "(II)Z"⟩
abbrev cX3_rungsOver : ByteArray := prog_5_method_17_code
def yX3_rungsOver : MethodName := ⟨RX3, "rungsOver", "(I)I"⟩
abbrev cX3_crackedOver : ByteArray := prog_5_method_18_code
def yX3_crackedOver : MethodName := ⟨RX3, "crackedOver", "(I)I"⟩
abbrev cX3_sumByClimbing : ByteArray := prog_5_method_19_code
def yX3_sumByClimbing : MethodName := ⟨RX3, "sumByClimbing", "(I)I"⟩
abbrev cX3_sumByBays : ByteArray := prog_5_method_20_code
def yX3_sumByBays : MethodName := ⟨RX3, "sumByBays", "(II)I"⟩
abbrev cX3_allSacks : ByteArray := prog_5_method_21_code
def yX3_allSacks : MethodName := ⟨RX3, "allSacks", "()I"⟩
abbrev cX3_sacksOfKind : ByteArray := prog_5_method_22_code
def yX3_sacksOfKind : MethodName := ⟨RX3, "sacksOfKind", "(I)I"⟩
abbrev cX3_sacksAsOldAs : ByteArray := prog_5_method_23_code
def yX3_sacksAsOldAs : MethodName := ⟨RX3, "sacksAsOldAs", "(I)I"⟩
abbrev cX3_filledBays : ByteArray := prog_5_method_24_code
def yX3_filledBays : MethodName := ⟨RX3, "filledBays", "()I"⟩
abbrev cX3_crackedRungs : ByteArray := prog_5_method_25_code
def yX3_crackedRungs : MethodName := ⟨RX3, "crackedRungs", "()I"⟩
abbrev cX3_placeOf : ByteArray := prog_5_method_26_code
def yX3_placeOf : MethodName := ⟨RX3, "placeOf", "(I)I"⟩
abbrev cX3_isAhead : ByteArray := prog_5_method_27_code
def yX3_isAhead : MethodName := ⟨RX3, "isAhead", "(II)Z"⟩
abbrev cX3_oldestOfKind : ByteArray := prog_5_method_28_code
def yX3_oldestOfKind : MethodName := ⟨RX3, "oldestOfKind", "(I)I"⟩
abbrev cX3_spoilingAt : ByteArray := prog_5_method_29_code
def yX3_spoilingAt : MethodName := ⟨RX3, "spoilingAt", "(II)I"⟩
abbrev cX3_growOlder : ByteArray := prog_5_method_30_code
def yX3_growOlder : MethodName := ⟨RX3, "growOlder", "()I"⟩
def RX4 : String := "GranaryLadder"
def TX4 : u_T := fun k => match k with
  | 0 => ("GranaryLadder", "now", "LGranaryLadder$Wall;", true)
  | 1 => ("GranaryLadder", "before", "LGranaryLadder$Wall;", true)
  | 2 => ("GranaryLadder", "snapshot", "LGranaryLadder$Wall;", true)
  | 3 => ("GranaryLadder", "hasSnapshot", "Z", false)
  | 4 => ("GranaryLadder", "past", "LGranaryLadder$Past;", true)
  | 5 => ("GranaryLadder", "text", "LGranaryLadder$CommandText;", true)
  | 6 => ("GranaryLadder", "line", "LGranaryLadder$Line;", true)
  | 7 => ("GranaryLadder", "latestReason", "I", false)
  | 8 => ("GranaryLadder", "latestDetail", "I", false)
  | _ => ("GranaryLadder", "stepsOfRungs", "[I", true)
def tyX4 : Nat → FieldType := fun k => match k with
  | 0 => .object "GranaryLadder$Wall"
  | 1 => .object "GranaryLadder$Wall"
  | 2 => .object "GranaryLadder$Wall"
  | 3 => .boolean
  | 4 => .object "GranaryLadder$Past"
  | 5 => .object "GranaryLadder$CommandText"
  | 6 => .object "GranaryLadder$Line"
  | 7 => .int
  | 8 => .int
  | _ => .array .int
abbrev wsX40 : List Cond := u_ws RX4 TX4 10
theorem nmX4 : ∀ a, a < 10 → ∀ b, b < 10 → a ≠ b → (TX4 a).2.1 ≠ (TX4 b).2.1 := by decide +kernel
theorem tyX4_ok : ∀ k, k < 10 → parseFieldDescriptor (TX4 k).2.2.1 = some (tyX4 k) := by decide +kernel
abbrev cX4_init : ByteArray := prog_1_method_1_code
def yX4_init : MethodName := ⟨RX4, "<init>", "()V"⟩
abbrev cX4_store : ByteArray := prog_1_method_2_code
def yX4_store : MethodName := ⟨RX4, "store", "(III)I"⟩
abbrev cX4_take : ByteArray := prog_1_method_3_code
def yX4_take : MethodName := ⟨RX4, "take", "(II)I"⟩
abbrev cX4_move : ByteArray := prog_1_method_4_code
def yX4_move : MethodName := ⟨RX4, "move", "(III)I"⟩
abbrev cX4_order : ByteArray := prog_1_method_5_code
def yX4_order : MethodName := ⟨RX4, "order", "(II)I"⟩
abbrev cX4_fix : ByteArray := prog_1_method_6_code
def yX4_fix : MethodName := ⟨RX4, "fix", "(I)I"⟩
abbrev cX4_pass : ByteArray := prog_1_method_7_code
def yX4_pass : MethodName := ⟨RX4, "pass", "(I)I"⟩
abbrev cX4_bayOf : ByteArray := prog_1_method_8_code
def yX4_bayOf : MethodName := ⟨RX4, "bayOf", "(II)I"⟩
abbrev cX4_rungOf : ByteArray := prog_1_method_9_code
def yX4_rungOf : MethodName := ⟨RX4, "rungOf", "(II)I"⟩
abbrev cX4_sum : ByteArray := prog_1_method_10_code
def yX4_sum : MethodName := ⟨RX4, "sum", "(II)I"⟩
abbrev cX4_sumAgain : ByteArray := prog_1_method_11_code
def yX4_sumAgain : MethodName := ⟨RX4, "sumAgain", "(II)I"⟩
abbrev cX4_reach : ByteArray := prog_1_method_12_code
def yX4_reach : MethodName := ⟨RX4, "reach", "(I)I"⟩
abbrev cX4_reachAgain : ByteArray := prog_1_method_13_code
def yX4_reachAgain : MethodName := ⟨RX4, "reachAgain", "(I)I"⟩
abbrev cX4_steps : ByteArray := prog_1_method_14_code
def yX4_steps : MethodName := ⟨RX4, "steps", "(I)I"⟩
abbrev cX4_stepsAgain : ByteArray := prog_1_method_15_code
def yX4_stepsAgain : MethodName := ⟨RX4, "stepsAgain", "(I)I"⟩
abbrev cX4_oldest : ByteArray := prog_1_method_16_code
def yX4_oldest : MethodName := ⟨RX4, "oldest", "(I)I"⟩
abbrev cX4_commonAge : ByteArray := prog_1_method_17_code
def yX4_commonAge : MethodName := ⟨RX4, "commonAge", "()I"⟩
abbrev cX4_tightest : ByteArray := prog_1_method_18_code
def yX4_tightest : MethodName := ⟨RX4, "tightest", "()I"⟩
abbrev cX4_bestBay : ByteArray := prog_1_method_19_code
def yX4_bestBay : MethodName := ⟨RX4, "bestBay", "(II)I"⟩
abbrev cX4_price : ByteArray := prog_1_method_20_code
def yX4_price : MethodName := ⟨RX4, "price", "(II)I"⟩
abbrev cX4_append : ByteArray := prog_1_method_21_code
def yX4_append : MethodName := ⟨RX4, "append", "(I)I"⟩
abbrev cX4_run : ByteArray := prog_1_method_22_code
def yX4_run : MethodName := ⟨RX4, "run", "()I"⟩
abbrev cX4_tellRung : ByteArray := prog_1_method_24_code
def yX4_tellRung : MethodName := ⟨RX4, "tellRung", "(I)I"⟩
abbrev cX4_character : ByteArray := prog_1_method_25_code
def yX4_character : MethodName := ⟨RX4, "character", "(I)I"⟩
abbrev cX4_reason : ByteArray := prog_1_method_26_code
def yX4_reason : MethodName := ⟨RX4, "reason", "(Z)I"⟩
abbrev cX4_account : ByteArray := prog_1_method_27_code
def yX4_account : MethodName := ⟨RX4, "account", "(I)I"⟩
abbrev cX4_isBalanced : ByteArray := prog_1_method_28_code
def yX4_isBalanced : MethodName := ⟨RX4, "isBalanced", "()I"⟩
abbrev cX4_meanSacks : ByteArray := prog_1_method_29_code
def yX4_meanSacks : MethodName := ⟨RX4, "meanSacks", "()D"⟩
abbrev cX4_soundShare : ByteArray := prog_1_method_30_code
def yX4_soundShare : MethodName := ⟨RX4, "soundShare", "()F"⟩
abbrev cX4_undo : ByteArray := prog_1_method_31_code
def yX4_undo : MethodName := ⟨RX4, "undo", "()I"⟩
abbrev cX4_save : ByteArray := prog_1_method_32_code
def yX4_save : MethodName := ⟨RX4, "save", "()I"⟩
abbrev cX4_restore : ByteArray := prog_1_method_33_code
def yX4_restore : MethodName := ⟨RX4, "restore", "()I"⟩
abbrev cX4_storeSacks : ByteArray := prog_1_method_34_code
def yX4_storeSacks : MethodName := ⟨RX4, "storeSacks", "(III)I"⟩
abbrev cX4_takeSacks : ByteArray := prog_1_method_35_code
def yX4_takeSacks : MethodName := ⟨RX4, "takeSacks", "(II)I"⟩
abbrev cX4_moveSacks : ByteArray := prog_1_method_36_code
def yX4_moveSacks : MethodName := ⟨RX4, "moveSacks", "(III)I"⟩
abbrev cX4_fillOrder : ByteArray := prog_1_method_37_code
def yX4_fillOrder : MethodName := ⟨RX4, "fillOrder", "(II)I"⟩
abbrev cX4_mend : ByteArray := prog_1_method_38_code
def yX4_mend : MethodName := ⟨RX4, "mend", "(I)I"⟩
abbrev cX4_letWeeksPass : ByteArray := prog_1_method_39_code
def yX4_letWeeksPass : MethodName := ⟨RX4, "letWeeksPass", "(I)I"⟩
abbrev cX4_carryOut : ByteArray := prog_1_method_40_code
def yX4_carryOut : MethodName := ⟨RX4, "carryOut", "(I)I"⟩
abbrev cX4_remember : ByteArray := prog_1_method_41_code
def yX4_remember : MethodName := ⟨RX4, "remember", "(I)I"⟩
abbrev cX4_refuse : ByteArray := prog_1_method_42_code
def yX4_refuse : MethodName := ⟨RX4, "refuse", "(II)I"⟩
abbrev cX4_hasRoom : ByteArray := prog_1_method_43_code
def yX4_hasRoom : MethodName := ⟨RX4, "hasRoom", "(III)Z"⟩
abbrev cX4_refuseRoom : ByteArray := prog_1_method_44_code
def yX4_refuseRoom : MethodName := ⟨RX4, "refuseRoom", "(III)I"⟩
abbrev cX4_hasSacks : ByteArray := prog_1_method_45_code
def yX4_hasSacks : MethodName := ⟨RX4, "hasSacks", "(II)Z"⟩
abbrev cX4_refuseSacks : ByteArray := prog_1_method_46_code
def yX4_refuseSacks : MethodName := ⟨RX4, "refuseSacks", "(I)I"⟩
abbrev cX4_stepsBelow : ByteArray := prog_1_method_47_code
def yX4_stepsBelow : MethodName := ⟨RX4, "stepsBelow", "(LGranaryLadder$Wall;II)I"⟩
abbrev cX4_stepsByKnown : ByteArray := prog_1_method_48_code
def yX4_stepsByKnown : MethodName := ⟨RX4, "stepsByKnown", "(I)I"⟩
abbrev cX4_knownSteps : ByteArray := prog_1_method_49_code
def yX4_knownSteps : MethodName := ⟨RX4, "knownSteps", "(II)I"⟩
abbrev cX4_isWithin : ByteArray := prog_1_method_50_code
def yX4_isWithin : MethodName := ⟨RX4, "isWithin", "(III)Z"⟩
abbrev cX4_isBay : ByteArray := prog_1_method_51_code
def yX4_isBay : MethodName := ⟨RX4, "isBay", "(I)Z"⟩
abbrev cX4_isRung : ByteArray := prog_1_method_52_code
def yX4_isRung : MethodName := ⟨RX4, "isRung", "(I)Z"⟩
abbrev cX4_isKind : ByteArray := prog_1_method_53_code
def yX4_isKind : MethodName := ⟨RX4, "isKind", "(I)Z"⟩
abbrev cX4_sizeOf : ByteArray := prog_1_method_54_code
def yX4_sizeOf : MethodName := ⟨RX4, "sizeOf", "(I)I"⟩
abbrev cX4_loadOf : ByteArray := prog_1_method_55_code
def yX4_loadOf : MethodName := ⟨RX4, "loadOf", "(I)I"⟩
abbrev cX4_firstBayOf : ByteArray := prog_1_method_56_code
def yX4_firstBayOf : MethodName := ⟨RX4, "firstBayOf", "(I)I"⟩
abbrev cX4_rungsBelow : ByteArray := prog_1_method_57_code
def yX4_rungsBelow : MethodName := ⟨RX4, "rungsBelow", "(I)I"⟩
abbrev cX4_coinsFor : ByteArray := prog_1_method_58_code
def yX4_coinsFor : MethodName := ⟨RX4, "coinsFor", "(II)I"⟩
abbrev cX4_at : ByteArray := prog_1_method_59_code
def yX4_at : MethodName := ⟨RX4, "at", "([II)I"⟩
abbrev cX4_put : ByteArray := prog_1_method_60_code
def yX4_put : MethodName := ⟨RX4, "put", "([III)V"⟩
abbrev cX4_copyRow : ByteArray := prog_1_method_61_code
def yX4_copyRow : MethodName := ⟨RX4, "copyRow", "([I[I)V"⟩
def RX5 : String := "GranaryLadderModel"
def TX5 : u_T := fun k => match k with
  | _ => ("", "", "", false)
def tyX5 : Nat → FieldType := fun k => match k with
  | _ => .int
abbrev wsX50 : List Cond := u_ws RX5 TX5 0
theorem nmX5 : ∀ a, a < 0 → ∀ b, b < 0 → a ≠ b → (TX5 a).2.1 ≠ (TX5 b).2.1 := by decide +kernel
theorem tyX5_ok : ∀ k, k < 0 → parseFieldDescriptor (TX5 k).2.2.1 = some (tyX5 k) := by decide +kernel
def RJ6 : String := "java/lang/Integer"
def TJ6 : u_T := fun k => match k with
  | _ => ("", "", "", false)
def tyJ6 : Nat → FieldType := fun k => match k with
  | _ => .int
abbrev wsJ60 : List Cond := u_ws RJ6 TJ6 0
theorem nmJ6 : ∀ a, a < 0 → ∀ b, b < 0 → a ≠ b → (TJ6 a).2.1 ≠ (TJ6 b).2.1 := by decide +kernel
theorem tyJ6_ok : ∀ k, k < 0 → parseFieldDescriptor (TJ6 k).2.2.1 = some (tyJ6 k) := by decide +kernel
abbrev cJ6_bitCount_0f7a4 : ByteArray := prog_8_method_49_code
def yJ6_bitCount_0f7a4 : MethodName := ⟨RJ6, "bitCount", "(I)I"⟩
def RJ9 : String := "java/lang/Math"
def TJ9 : u_T := fun k => match k with
  | _ => ("", "", "", false)
def tyJ9 : Nat → FieldType := fun k => match k with
  | _ => .int
abbrev wsJ90 : List Cond := u_ws RJ9 TJ9 0
theorem nmJ9 : ∀ a, a < 0 → ∀ b, b < 0 → a ≠ b → (TJ9 a).2.1 ≠ (TJ9 b).2.1 := by decide +kernel
theorem tyJ9_ok : ∀ k, k < 0 → parseFieldDescriptor (TJ9 k).2.2.1 = some (tyJ9 k) := by decide +kernel
abbrev cJ9_max_7cf53 : ByteArray := prog_9_method_65_code
def yJ9_max_7cf53 : MethodName := ⟨RJ9, "max", "(II)I"⟩
abbrev cJ9_min_7cf53 : ByteArray := prog_9_method_69_code
def yJ9_min_7cf53 : MethodName := ⟨RJ9, "min", "(II)I"⟩
def RJ0 : String := "java/lang/String"
def TJ0 : u_T := fun k => match k with
  | _ => ("", "", "", false)
def tyJ0 : Nat → FieldType := fun k => match k with
  | _ => .int
abbrev wsJ00 : List Cond := u_ws RJ0 TJ0 0
theorem nmJ0 : ∀ a, a < 0 → ∀ b, b < 0 → a ≠ b → (TJ0 a).2.1 ≠ (TJ0 b).2.1 := by decide +kernel
theorem tyJ0_ok : ∀ k, k < 0 → parseFieldDescriptor (TJ0 k).2.2.1 = some (tyJ0 k) := by decide +kernel
abbrev cJ0_length_8abf5 : ByteArray := prog_10_method_54_code
def yJ0_length_8abf5 : MethodName := ⟨RJ0, "length", "()I"⟩
abbrev cJ0_isEmpty_aae02 : ByteArray := prog_10_method_55_code
def yJ0_isEmpty_aae02 : MethodName := ⟨RJ0, "isEmpty", "()Z"⟩
abbrev cJ0_charAt_5068e : ByteArray := prog_10_method_56_code
def yJ0_charAt_5068e : MethodName := ⟨RJ0, "charAt", "(I)C"⟩
abbrev cJ0_coder_7d493 : ByteArray := prog_10_method_152_code
def yJ0_coder_7d493 : MethodName := ⟨RJ0, "coder", "()B"⟩
abbrev cJ0_isLatin1_aae02 : ByteArray := prog_10_method_154_code
def yJ0_isLatin1_aae02 : MethodName := ⟨RJ0, "isLatin1", "()Z"⟩
abbrev cJ0_checkIndex_df160 : ByteArray := prog_10_method_155_code
def yJ0_checkIndex_df160 : MethodName := ⟨RJ0, "checkIndex", "(II)V"⟩
def RJ1 : String := "java/lang/StringLatin1"
def TJ1 : u_T := fun k => match k with
  | _ => ("", "", "", false)
def tyJ1 : Nat → FieldType := fun k => match k with
  | _ => .int
abbrev wsJ10 : List Cond := u_ws RJ1 TJ1 0
theorem nmJ1 : ∀ a, a < 0 → ∀ b, b < 0 → a ≠ b → (TJ1 a).2.1 ≠ (TJ1 b).2.1 := by decide +kernel
theorem tyJ1_ok : ∀ k, k < 0 → parseFieldDescriptor (TJ1 k).2.2.1 = some (tyJ1 k) := by decide +kernel
abbrev cJ1_charAt_3b067 : ByteArray := prog_11_method_2_code
def yJ1_charAt_3b067 : MethodName := ⟨RJ1, "charAt", "([BI)C"⟩
def RJ2 : String := "java/lang/StringUTF16"
def TJ2 : u_T := fun k => match k with
  | _ => ("", "", "", false)
def tyJ2 : Nat → FieldType := fun k => match k with
  | _ => .int
abbrev wsJ20 : List Cond := u_ws RJ2 TJ2 0
theorem nmJ2 : ∀ a, a < 0 → ∀ b, b < 0 → a ≠ b → (TJ2 a).2.1 ≠ (TJ2 b).2.1 := by decide +kernel
theorem tyJ2_ok : ∀ k, k < 0 → parseFieldDescriptor (TJ2 k).2.2.1 = some (tyJ2 k) := by decide +kernel
abbrev cJ2_getChar_3b067 : ByteArray := prog_12_method_5_code
def yJ2_getChar_3b067 : MethodName := ⟨RJ2, "getChar", "([BI)C"⟩
abbrev cJ2_length_9d52b : ByteArray := prog_12_method_6_code
def yJ2_length_9d52b : MethodName := ⟨RJ2, "length", "([B)I"⟩
abbrev cJ2_charAt_3b067 : ByteArray := prog_12_method_83_code
def yJ2_charAt_3b067 : MethodName := ⟨RJ2, "charAt", "([BI)C"⟩
abbrev cJ2_checkIndex_2214a : ByteArray := prog_12_method_91_code
def yJ2_checkIndex_2214a : MethodName := ⟨RJ2, "checkIndex", "(I[B)V"⟩
def RJ3 : String := "jdk/internal/util/Preconditions"
def TJ3 : u_T := fun k => match k with
  | _ => ("", "", "", false)
def tyJ3 : Nat → FieldType := fun k => match k with
  | _ => .int
abbrev wsJ30 : List Cond := u_ws RJ3 TJ3 0
theorem nmJ3 : ∀ a, a < 0 → ∀ b, b < 0 → a ≠ b → (TJ3 a).2.1 ≠ (TJ3 b).2.1 := by decide +kernel
theorem tyJ3_ok : ∀ k, k < 0 → parseFieldDescriptor (TJ3 k).2.2.1 = some (tyJ3 k) := by decide +kernel
abbrev cJ3_checkIndex_8e157 : ByteArray := prog_13_method_11_code
def yJ3_checkIndex_8e157 : MethodName := ⟨RJ3, "checkIndex", "(IILjava/util/function/BiFunction;)I"⟩
def RL : String := "GranaryLadderLaw"
abbrev cL_cell : ByteArray := method_2_code
def yL_cell : MethodName := ⟨RL, "cell", "([II)I"⟩
abbrev cL_write : ByteArray := method_3_code
def yL_write : MethodName := ⟨RL, "write", "(LGranaryLadder;Ljava/lang/String;)LGranaryLadder;"⟩
abbrev cL_act : ByteArray := method_4_code
def yL_act : MethodName := ⟨RL, "act", "(LGranaryLadder;I)I"⟩
abbrev cL_digest : ByteArray := method_5_code
def yL_digest : MethodName := ⟨RL, "digest", "(LGranaryLadder;)J"⟩
abbrev cL_keeps : ByteArray := method_6_code
def yL_keeps : MethodName := ⟨RL, "keeps", "(I)I"⟩
abbrev cL_isBay : ByteArray := method_7_code
def yL_isBay : MethodName := ⟨RL, "isBay", "(LGranaryLadder;I)Z"⟩
abbrev cL_isRung : ByteArray := method_8_code
def yL_isRung : MethodName := ⟨RL, "isRung", "(LGranaryLadder;I)Z"⟩
abbrev cL_areRanks : ByteArray := method_9_code
def yL_areRanks : MethodName := ⟨RL, "areRanks", "(LGranaryLadder;)Z"⟩
abbrev cL_areReached : ByteArray := method_10_code
def yL_areReached : MethodName := ⟨RL, "areReached", "(LGranaryLadder;)Z"⟩
abbrev cL_isFit : ByteArray := method_11_code
def yL_isFit : MethodName := ⟨RL, "isFit", "(LGranaryLadder;)Z"⟩
abbrev cL_isBest : ByteArray := method_12_code
def yL_isBest : MethodName := ⟨RL, "isBest", "(LGranaryLadder;II)Z"⟩
abbrev cL_isSold : ByteArray := method_13_code
def yL_isSold : MethodName := ⟨RL, "isSold", "(LGranaryLadder;II)Z"⟩
abbrev cL_isPassed : ByteArray := method_14_code
def yL_isPassed : MethodName := ⟨RL, "isPassed", "(LGranaryLadder;)Z"⟩
abbrev cL_law : ByteArray := code
def yL_law : MethodName := ⟨RL, "law", "([I)Z"⟩
def wsL_law_r1 : List Cond := [Cond.classLink RL 19 RX4, Cond.instantiable RX4 10, Cond.initialized RX4, Cond.fieldLink RL 44 "GranaryLadderLaw" "TEXTS" "[Ljava/lang/String;", Cond.methodLink RL 168 yX4_init, Cond.instanceMethod yX4_init, Cond.code yX4_init cX4_init 1 none, Cond.methodLink RX4 1 objectInit, Cond.instanceMethod objectInit, Cond.code objectInit ⟨#[0xb1]⟩ 1 none, Cond.classLink RX4 7 RX3, Cond.instantiable RX3 6, Cond.initialized RX3, Cond.fieldLink RX4 10 "GranaryLadder" "now" "LGranaryLadder$Wall;", Cond.fieldLink RX4 16 "GranaryLadder" "before" "LGranaryLadder$Wall;", Cond.fieldLink RX4 19 "GranaryLadder" "snapshot" "LGranaryLadder$Wall;", Cond.fieldLink RX4 22 "GranaryLadder" "hasSnapshot" "Z", Cond.classLink RX4 26 RX2, Cond.instantiable RX2 3, Cond.initialized RX2, Cond.fieldLink RX4 29 "GranaryLadder" "past" "LGranaryLadder$Past;", Cond.classLink RX4 33 RX0, Cond.instantiable RX0 6, Cond.initialized RX0]
def wsL_law_r2 : List Cond := [Cond.fieldLink RX4 36 "GranaryLadder" "text" "LGranaryLadder$CommandText;", Cond.classLink RX4 40 RX1, Cond.instantiable RX1 2, Cond.initialized RX1, Cond.fieldLink RX4 43 "GranaryLadder" "line" "LGranaryLadder$Line;", Cond.fieldLink RX4 47 "GranaryLadder" "latestReason" "I", Cond.fieldLink RX4 51 "GranaryLadder" "latestDetail" "I", Cond.arrayClass .int, Cond.fieldLink RX4 54 "GranaryLadder" "stepsOfRungs" "[I", Cond.methodLink RX4 9 yX3_init, Cond.instanceMethod yX3_init, Cond.code yX3_init cX3_init 1 none, Cond.methodLink RX3 3 objectInit, Cond.fieldLink RX3 9 "GranaryLadder$Wall" "kinds" "[I", Cond.fieldLink RX3 15 "GranaryLadder$Wall" "sacks" "[I", Cond.fieldLink RX3 18 "GranaryLadder$Wall" "ages" "[I", Cond.fieldLink RX3 21 "GranaryLadder$Wall" "sums" "[I", Cond.fieldLink RX3 24 "GranaryLadder$Wall" "cracks" "[I", Cond.fieldLink RX3 27 "GranaryLadder$Wall" "counters" "[I", Cond.methodLink RX4 28 yX2_init, Cond.instanceMethod yX2_init, Cond.code yX2_init cX2_init 2 none, Cond.methodLink RX2 3 objectInit, Cond.classLink RX2 9 RX3]
def wsL_law_r3 : List Cond := [Cond.fieldLink RX2 11 "GranaryLadder$Past" "walls" "[LGranaryLadder$Wall;", Cond.fieldLink RX2 17 "GranaryLadder$Past" "next" "I", Cond.fieldLink RX2 21 "GranaryLadder$Past" "kept" "I", Cond.methodLink RX2 24 yX3_init, Cond.instanceMethod yX0_init, Cond.code yX0_init cX0_init 1 none, Cond.methodLink RX0 3 objectInit, Cond.fieldLink RX0 9 "GranaryLadder$CommandText" "codes" "[I", Cond.fieldLink RX0 15 "GranaryLadder$CommandText" "length" "I", Cond.fieldLink RX0 19 "GranaryLadder$CommandText" "cells" "[I", Cond.fieldLink RX0 22 "GranaryLadder$CommandText" "commands" "I", Cond.fieldLink RX0 25 "GranaryLadder$CommandText" "nextCell" "I", Cond.fieldLink RX0 28 "GranaryLadder$CommandText" "place" "I", Cond.instanceMethod yX1_init, Cond.code yX1_init cX1_init 1 none, Cond.methodLink RX1 3 objectInit, Cond.fieldLink RX1 9 "GranaryLadder$Line" "codes" "[I", Cond.fieldLink RX1 15 "GranaryLadder$Line" "length" "I", Cond.methodLink RL 24 yX4_store, Cond.instanceMethod yX4_store, Cond.selects RX4 yX4_store yX4_store, Cond.code yX4_store cX4_store 4 (some .int), Cond.methodLink RX4 58 yX3_copyFrom, Cond.instanceMethod yX3_copyFrom]
def wsL_law_r4 : List Cond := [Cond.selects RX3 yX3_copyFrom yX3_copyFrom, Cond.code yX3_copyFrom cX3_copyFrom 2 none, Cond.static yX4_copyRow, Cond.code yX4_copyRow cX4_copyRow 3 none, Cond.methodLink RX4 62 yX4_storeSacks, Cond.instanceMethod yX4_storeSacks, Cond.selects RX4 yX4_storeSacks yX4_storeSacks, Cond.code yX4_storeSacks cX4_storeSacks 4 (some .int), Cond.methodLink RX4 86 yX4_isBay, Cond.static yX4_isBay, Cond.code yX4_isBay cX4_isBay 1 (some .boolean), Cond.methodLink RX4 138 yX4_isWithin, Cond.static yX4_isWithin, Cond.code yX4_isWithin cX4_isWithin 3 (some .boolean), Cond.methodLink RX4 162 yX4_isKind, Cond.static yX4_isKind, Cond.code yX4_isKind cX4_isKind 1 (some .boolean), Cond.methodLink RX4 165 yX4_hasRoom, Cond.instanceMethod yX4_hasRoom, Cond.selects RX4 yX4_hasRoom yX4_hasRoom, Cond.code yX4_hasRoom cX4_hasRoom 4 (some .boolean), Cond.methodLink RX4 90 yX3_isEmpty, Cond.instanceMethod yX3_isEmpty, Cond.selects RX3 yX3_isEmpty yX3_isEmpty]
def wsL_law_r5 : List Cond := [Cond.code yX3_isEmpty cX3_isEmpty 2 (some .boolean), Cond.static yX4_at, Cond.code yX4_at cX4_at 2 (some .int), Cond.methodLink RX4 93 yX3_kindIn, Cond.instanceMethod yX3_kindIn, Cond.selects RX3 yX3_kindIn yX3_kindIn, Cond.code yX3_kindIn cX3_kindIn 2 (some .int), Cond.methodLink RX4 96 yX3_sacksIn, Cond.instanceMethod yX3_sacksIn, Cond.selects RX3 yX3_sacksIn yX3_sacksIn, Cond.code yX3_sacksIn cX3_sacksIn 2 (some .int), Cond.methodLink RX4 242 yX4_refuseRoom, Cond.instanceMethod yX4_refuseRoom, Cond.selects RX4 yX4_refuseRoom yX4_refuseRoom, Cond.code yX4_refuseRoom cX4_refuseRoom 4 (some .int), Cond.methodLink RX4 195 yX4_refuse, Cond.instanceMethod yX4_refuse, Cond.selects RX4 yX4_refuse yX4_refuse, Cond.code yX4_refuse cX4_refuse 3 (some .int), Cond.methodLink RX4 245 yX3_count, Cond.instanceMethod yX3_count, Cond.selects RX3 yX3_count yX3_count, Cond.code yX3_count cX3_count 3 none, Cond.static yX4_put]
def wsL_law_r6 : List Cond := [Cond.code yX4_put cX4_put 3 none, Cond.methodLink RX4 99 yX3_ageIn, Cond.instanceMethod yX3_ageIn, Cond.selects RX3 yX3_ageIn yX3_ageIn, Cond.code yX3_ageIn cX3_ageIn 2 (some .int), Cond.methodLink RX4 249 yX3_bring, Cond.instanceMethod yX3_bring, Cond.selects RX3 yX3_bring yX3_bring, Cond.code yX3_bring cX3_bring 5 (some .int), Cond.methodLink RX3 42 yX3_changeSacks, Cond.instanceMethod yX3_changeSacks, Cond.selects RX3 yX3_changeSacks yX3_changeSacks, Cond.code yX3_changeSacks cX3_changeSacks 5 none, Cond.static yX4_sizeOf, Cond.code yX4_sizeOf cX4_sizeOf 1 (some .int), Cond.methodLink RX3 46 yX3_crackOver, Cond.instanceMethod yX3_crackOver, Cond.selects RX3 yX3_crackOver yX3_crackOver, Cond.code yX3_crackOver cX3_crackOver 5 (some .int), Cond.methodLink RX3 57 yX3_isCracked, Cond.instanceMethod yX3_isCracked, Cond.selects RX3 yX3_isCracked yX3_isCracked, Cond.code yX3_isCracked cX3_isCracked 2 (some .boolean), Cond.methodLink RX3 60 yX3_sumOf]
def wsL_law_r7 : List Cond := [Cond.instanceMethod yX3_sumOf, Cond.selects RX3 yX3_sumOf yX3_sumOf, Cond.code yX3_sumOf cX3_sumOf 2 (some .int), Cond.static yX4_loadOf, Cond.code yX4_loadOf cX4_loadOf 1 (some .int), Cond.methodLink RX4 114 yX4_sizeOf, Cond.methodLink RX3 66 yX3_count, Cond.methodLink RX4 66 yX4_remember, Cond.instanceMethod yX4_remember, Cond.selects RX4 yX4_remember yX4_remember, Cond.code yX4_remember cX4_remember 2 (some .int), Cond.methodLink RX4 285 yX2_keep, Cond.instanceMethod yX2_keep, Cond.selects RX2 yX2_keep yX2_keep, Cond.code yX2_keep cX2_keep 2 none, Cond.methodLink RX2 29 Lib.Math.min.name, Cond.static Lib.Math.min.name, Cond.initialized "java/lang/Math", Cond.code Lib.Math.min.name Lib.Math.min.code 2 (some .int), Cond.methodLink RX2 25 yX3_copyFrom, Cond.methodLink RL 151 yL_digest, Cond.static yL_digest, Cond.initialized RL, Cond.code yL_digest cL_digest 4 (some .long)]
def wsL_law_r8 : List Cond := [Cond.constantLong RL 71 (7), Cond.constantLong RL 73 (31), Cond.methodLink RL 75 yX4_account, Cond.instanceMethod yX4_account, Cond.selects RX4 yX4_account yX4_account, Cond.code yX4_account cX4_account 2 (some .int), Cond.methodLink RX4 218 yX3_filledBays, Cond.instanceMethod yX3_filledBays, Cond.selects RX3 yX3_filledBays yX3_filledBays, Cond.code yX3_filledBays cX3_filledBays 3 (some .int), Cond.methodLink RX3 50 yX3_isEmpty, Cond.methodLink RX4 221 yX3_allSacks, Cond.instanceMethod yX3_allSacks, Cond.selects RX3 yX3_allSacks yX3_allSacks, Cond.code yX3_allSacks cX3_allSacks 1 (some .int), Cond.methodLink RX3 72 yX3_sumByBays, Cond.instanceMethod yX3_sumByBays, Cond.selects RX3 yX3_sumByBays yX3_sumByBays, Cond.code yX3_sumByBays cX3_sumByBays 5 (some .int), Cond.methodLink RX3 69 yX3_sacksIn, Cond.methodLink RX4 224 yX3_sacksOfKind, Cond.instanceMethod yX3_sacksOfKind, Cond.selects RX3 yX3_sacksOfKind yX3_sacksOfKind, Cond.code yX3_sacksOfKind cX3_sacksOfKind 4 (some .int)]
def wsL_law_r9 : List Cond := [Cond.methodLink RX3 76 yX3_kindIn, Cond.methodLink RX4 227 yX3_crackedRungs, Cond.instanceMethod yX3_crackedRungs, Cond.selects RX3 yX3_crackedRungs yX3_crackedRungs, Cond.code yX3_crackedRungs cX3_crackedRungs 3 (some .int), Cond.methodLink RX4 230 yX0_size, Cond.instanceMethod yX0_size, Cond.selects RX0 yX0_size yX0_size, Cond.code yX0_size cX0_size 1 (some .int), Cond.methodLink RX4 231 yX2_size, Cond.instanceMethod yX2_size, Cond.selects RX2 yX2_size yX2_size, Cond.code yX2_size cX2_size 1 (some .int), Cond.methodLink RX4 232 yX3_counted, Cond.instanceMethod yX3_counted, Cond.selects RX3 yX3_counted yX3_counted, Cond.code yX3_counted cX3_counted 2 (some .int), Cond.methodLink RL 78 yX4_bayOf, Cond.instanceMethod yX4_bayOf, Cond.selects RX4 yX4_bayOf yX4_bayOf, Cond.code yX4_bayOf cX4_bayOf 3 (some .int), Cond.methodLink RX4 102 yX3_spoilingAt, Cond.instanceMethod yX3_spoilingAt, Cond.selects RX3 yX3_spoilingAt yX3_spoilingAt]
def wsL_law_r10 : List Cond := [Cond.code yX3_spoilingAt cX3_spoilingAt 3 (some .int), Cond.methodLink RX4 105 yX3_rungsOver, Cond.instanceMethod yX3_rungsOver, Cond.selects RX3 yX3_rungsOver yX3_rungsOver, Cond.code yX3_rungsOver cX3_rungsOver 5 (some .int), Cond.methodLink RX4 108 yX3_crackedOver, Cond.instanceMethod yX3_crackedOver, Cond.selects RX3 yX3_crackedOver yX3_crackedOver, Cond.code yX3_crackedOver cX3_crackedOver 5 (some .int), Cond.methodLink RL 81 yX4_rungOf, Cond.instanceMethod yX4_rungOf, Cond.selects RX4 yX4_rungOf yX4_rungOf, Cond.code yX4_rungOf cX4_rungOf 3 (some .int), Cond.methodLink RX4 111 yX4_isRung, Cond.static yX4_isRung, Cond.code yX4_isRung cX4_isRung 1 (some .boolean), Cond.methodLink RX4 117 yX3_sumOf, Cond.methodLink RX4 120 yX4_loadOf, Cond.methodLink RX4 123 yX3_isCracked, Cond.methodLink RX4 126 yX4_firstBayOf, Cond.static yX4_firstBayOf, Cond.code yX4_firstBayOf cX4_firstBayOf 1 (some .int), Cond.methodLink RX4 129 yX4_rungsBelow, Cond.static yX4_rungsBelow]
def wsL_law_r11 : List Cond := [Cond.code yX4_rungsBelow cX4_rungsBelow 4 (some .int), Cond.methodLink RL 169 yL_cell, Cond.static yL_cell, Cond.code yL_cell cL_cell 2 (some .int), Cond.constant RL 7 (65535), Cond.methodLink RL 173 yL_act, Cond.static yL_act, Cond.code yL_act cL_act 4 (some .int), Cond.methodLink RL 57 Lib.Math.max.name, Cond.static Lib.Math.max.name, Cond.code Lib.Math.max.name Lib.Math.max.code 2 (some .int), Cond.methodLink RL 28 yX4_take, Cond.instanceMethod yX4_take, Cond.selects RX4 yX4_take yX4_take, Cond.code yX4_take cX4_take 3 (some .int), Cond.methodLink RX4 70 yX4_takeSacks, Cond.instanceMethod yX4_takeSacks, Cond.selects RX4 yX4_takeSacks yX4_takeSacks, Cond.code yX4_takeSacks cX4_takeSacks 3 (some .int), Cond.methodLink RX4 253 yX4_hasSacks, Cond.instanceMethod yX4_hasSacks, Cond.selects RX4 yX4_hasSacks yX4_hasSacks, Cond.code yX4_hasSacks cX4_hasSacks 3 (some .boolean), Cond.methodLink RX4 256 yX4_refuseSacks]
def wsL_law_r12 : List Cond := [Cond.instanceMethod yX4_refuseSacks, Cond.selects RX4 yX4_refuseSacks yX4_refuseSacks, Cond.code yX4_refuseSacks cX4_refuseSacks 2 (some .int), Cond.methodLink RX4 259 yX3_remove, Cond.instanceMethod yX3_remove, Cond.selects RX3 yX3_remove yX3_remove, Cond.code yX3_remove cX3_remove 3 none, Cond.methodLink RL 32 yX4_move, Cond.instanceMethod yX4_move, Cond.selects RX4 yX4_move yX4_move, Cond.code yX4_move cX4_move 4 (some .int), Cond.methodLink RX4 74 yX4_moveSacks, Cond.instanceMethod yX4_moveSacks, Cond.selects RX4 yX4_moveSacks yX4_moveSacks, Cond.code yX4_moveSacks cX4_moveSacks 6 (some .int), Cond.methodLink RX4 262 Lib.Math.max.name, Cond.methodLink RL 35 yX4_order, Cond.instanceMethod yX4_order, Cond.selects RX4 yX4_order yX4_order, Cond.code yX4_order cX4_order 3 (some .int), Cond.methodLink RX4 77 yX4_fillOrder, Cond.instanceMethod yX4_fillOrder, Cond.selects RX4 yX4_fillOrder yX4_fillOrder, Cond.code yX4_fillOrder cX4_fillOrder 8 (some .int)]
def wsL_law_r13 : List Cond := [Cond.methodLink RX4 270 Lib.Math.min.name, Cond.methodLink RX4 267 yX3_oldestOfKind, Cond.instanceMethod yX3_oldestOfKind, Cond.selects RX3 yX3_oldestOfKind yX3_oldestOfKind, Cond.code yX3_oldestOfKind cX3_oldestOfKind 4 (some .int), Cond.methodLink RX3 79 yX3_ageIn, Cond.methodLink RX4 172 yX4_coinsFor, Cond.static yX4_coinsFor, Cond.code yX4_coinsFor cX4_coinsFor 2 (some .int), Cond.methodLink RL 38 yX4_fix, Cond.instanceMethod yX4_fix, Cond.selects RX4 yX4_fix yX4_fix, Cond.code yX4_fix cX4_fix 2 (some .int), Cond.methodLink RX4 80 yX4_mend, Cond.instanceMethod yX4_mend, Cond.selects RX4 yX4_mend yX4_mend, Cond.code yX4_mend cX4_mend 3 (some .int), Cond.methodLink RX4 273 yX3_makeSound, Cond.instanceMethod yX3_makeSound, Cond.selects RX3 yX3_makeSound yX3_makeSound, Cond.code yX3_makeSound cX3_makeSound 2 none, Cond.methodLink RL 41 yX4_pass, Cond.instanceMethod yX4_pass, Cond.selects RX4 yX4_pass yX4_pass]
def wsL_law_r14 : List Cond := [Cond.code yX4_pass cX4_pass 2 (some .int), Cond.methodLink RX4 83 yX4_letWeeksPass, Cond.instanceMethod yX4_letWeeksPass, Cond.selects RX4 yX4_letWeeksPass yX4_letWeeksPass, Cond.code yX4_letWeeksPass cX4_letWeeksPass 4 (some .int), Cond.methodLink RX4 276 yX3_growOlder, Cond.instanceMethod yX3_growOlder, Cond.selects RX3 yX3_growOlder yX3_growOlder, Cond.code yX3_growOlder cX3_growOlder 4 (some .int), Cond.methodLink RX3 89 yX3_spoilingAt, Cond.methodLink RX3 92 yX3_remove, Cond.methodLink RL 50 yL_write, Cond.static yL_write, Cond.code yL_write cL_write 3 (some (.object "GranaryLadder")), Cond.methodLink RL 8 yJ0_length_8abf5, Cond.instanceMethod yJ0_length_8abf5, Cond.selects RJ0 yJ0_length_8abf5 yJ0_length_8abf5, Cond.initialized RJ0, Cond.code yJ0_length_8abf5 cJ0_length_8abf5 1 (some .int), Cond.fieldLink RJ0 9 "java/lang/String" "value" "[B", Cond.methodLink RJ0 335 yJ0_coder_7d493, Cond.instanceMethod yJ0_coder_7d493, Cond.selects RJ0 yJ0_coder_7d493 yJ0_coder_7d493, Cond.code yJ0_coder_7d493 cJ0_coder_7d493 1 (some .byte)]
def wsL_law_r15 : List Cond := [Cond.fieldLink RJ0 38 "java/lang/String" "COMPACT_STRINGS" "Z", Cond.fieldLink RJ0 15 "java/lang/String" "coder" "B", Cond.methodLink RL 14 yJ0_charAt_5068e, Cond.instanceMethod yJ0_charAt_5068e, Cond.selects RJ0 yJ0_charAt_5068e yJ0_charAt_5068e, Cond.code yJ0_charAt_5068e cJ0_charAt_5068e 2 (some .char), Cond.methodLink RJ0 492 yJ0_isLatin1_aae02, Cond.instanceMethod yJ0_isLatin1_aae02, Cond.selects RJ0 yJ0_isLatin1_aae02 yJ0_isLatin1_aae02, Cond.code yJ0_isLatin1_aae02 cJ0_isLatin1_aae02 1 (some .boolean), Cond.methodLink RJ0 495 yJ1_charAt_3b067, Cond.static yJ1_charAt_3b067, Cond.initialized RJ1, Cond.code yJ1_charAt_3b067 cJ1_charAt_3b067 2 (some .char), Cond.methodLink RJ1 9 yJ0_checkIndex_df160, Cond.static yJ0_checkIndex_df160, Cond.code yJ0_checkIndex_df160 cJ0_checkIndex_df160 2 none, Cond.fieldLink RJ0 1053 "jdk/internal/util/Preconditions" "SIOOBE_FORMATTER" "Ljava/util/function/BiFunction;", Cond.methodLink RJ0 1059 yJ3_checkIndex_8e157, Cond.static yJ3_checkIndex_8e157, Cond.initialized RJ3, Cond.code yJ3_checkIndex_8e157 cJ3_checkIndex_8e157 3 (some .int), Cond.methodLink RJ0 498 yJ2_charAt_3b067, Cond.static yJ2_charAt_3b067]
def wsL_law_r16 : List Cond := [Cond.initialized RJ2, Cond.code yJ2_charAt_3b067 cJ2_charAt_3b067 2 (some .char), Cond.methodLink RJ2 67 yJ2_checkIndex_2214a, Cond.static yJ2_checkIndex_2214a, Cond.code yJ2_checkIndex_2214a cJ2_checkIndex_2214a 2 none, Cond.methodLink RJ2 48 yJ2_length_9d52b, Cond.static yJ2_length_9d52b, Cond.code yJ2_length_9d52b cJ2_length_9d52b 1 (some .int), Cond.methodLink RJ2 414 yJ0_checkIndex_df160, Cond.methodLink RJ2 71 yJ2_getChar_3b067, Cond.static yJ2_getChar_3b067, Cond.code yJ2_getChar_3b067 cJ2_getChar_3b067 2 (some .char), Cond.fieldLink RJ2 44 "java/lang/StringUTF16" "$assertionsDisabled" "Z", Cond.fieldLink RJ2 59 "java/lang/StringUTF16" "HI_BYTE_SHIFT" "I", Cond.fieldLink RJ2 63 "java/lang/StringUTF16" "LO_BYTE_SHIFT" "I", Cond.methodLink RL 18 yX4_append, Cond.instanceMethod yX4_append, Cond.selects RX4 yX4_append yX4_append, Cond.code yX4_append cX4_append 2 (some .int), Cond.methodLink RX4 175 yX0_addCode, Cond.instanceMethod yX0_addCode, Cond.selects RX0 yX0_addCode yX0_addCode, Cond.code yX0_addCode cX0_addCode 2 (some .int), Cond.methodLink RL 54 yX4_run]
def wsL_law_r17 : List Cond := [Cond.instanceMethod yX4_run, Cond.selects RX4 yX4_run yX4_run, Cond.code yX4_run cX4_run 4 (some .int), Cond.methodLink RX4 178 yX0_readCommands, Cond.instanceMethod yX0_readCommands, Cond.selects RX0 yX0_readCommands yX0_readCommands, Cond.code yX0_readCommands cX0_readCommands 2 (some .boolean), Cond.methodLink RX0 39 yX0_readCommand, Cond.instanceMethod yX0_readCommand, Cond.selects RX0 yX0_readCommand yX0_readCommand, Cond.code yX0_readCommand cX0_readCommand 3 (some .boolean), Cond.methodLink RX0 47 yX0_patternOf, Cond.static yX0_patternOf, Cond.code yX0_patternOf cX0_patternOf 1 (some (.object "java/lang/String")), Cond.methodLink RX0 51 yJ0_isEmpty_aae02, Cond.instanceMethod yJ0_isEmpty_aae02, Cond.selects RJ0 yJ0_isEmpty_aae02 yJ0_isEmpty_aae02, Cond.code yJ0_isEmpty_aae02 cJ0_isEmpty_aae02 1 (some .boolean), Cond.methodLink RX0 56 yX0_nextCode, Cond.instanceMethod yX0_nextCode, Cond.selects RX0 yX0_nextCode yX0_nextCode, Cond.code yX0_nextCode cX0_nextCode 1 (some .int), Cond.methodLink RX0 60 yJ0_charAt_5068e, Cond.methodLink RX0 64 yX0_addCell]
def wsL_law_r18 : List Cond := [Cond.instanceMethod yX0_addCell, Cond.selects RX0 yX0_addCell yX0_addCell, Cond.code yX0_addCell cX0_addCell 2 none, Cond.methodLink RX0 68 yX0_readAlong, Cond.instanceMethod yX0_readAlong, Cond.selects RX0 yX0_readAlong yX0_readAlong, Cond.code yX0_readAlong cX0_readAlong 5 (some .boolean), Cond.methodLink RX0 86 yJ0_length_8abf5, Cond.methodLink RX0 88 yX0_readNumber, Cond.instanceMethod yX0_readNumber, Cond.selects RX0 yX0_readNumber yX0_readNumber, Cond.code yX0_readNumber cX0_readNumber 4 (some .boolean), Cond.methodLink RX0 91 yX0_readKind, Cond.instanceMethod yX0_readKind, Cond.selects RX0 yX0_readKind yX0_readKind, Cond.code yX0_readKind cX0_readKind 2 (some .boolean), Cond.methodLink RX0 43 yX0_readCode, Cond.instanceMethod yX0_readCode, Cond.selects RX0 yX0_readCode yX0_readCode, Cond.code yX0_readCode cX0_readCode 2 (some .boolean), Cond.methodLink RX4 182 yX0_becomeEmpty, Cond.instanceMethod yX0_becomeEmpty, Cond.selects RX0 yX0_becomeEmpty yX0_becomeEmpty, Cond.code yX0_becomeEmpty cX0_becomeEmpty 1 none]
def wsL_law_r19 : List Cond := [Cond.methodLink RX4 185 yX0_faultPosition, Cond.instanceMethod yX0_faultPosition, Cond.selects RX0 yX0_faultPosition yX0_faultPosition, Cond.code yX0_faultPosition cX0_faultPosition 1 (some .int), Cond.methodLink RX4 189 yX0_commandCount, Cond.instanceMethod yX0_commandCount, Cond.selects RX0 yX0_commandCount yX0_commandCount, Cond.code yX0_commandCount cX0_commandCount 1 (some .int), Cond.methodLink RX4 192 yX4_carryOut, Cond.instanceMethod yX4_carryOut, Cond.selects RX4 yX4_carryOut yX4_carryOut, Cond.code yX4_carryOut cX4_carryOut 5 (some .int), Cond.methodLink RX4 279 yX0_argument, Cond.instanceMethod yX0_argument, Cond.selects RX0 yX0_argument yX0_argument, Cond.code yX0_argument cX0_argument 3 (some .int), Cond.methodLink RX4 282 yX0_verb, Cond.instanceMethod yX0_verb, Cond.selects RX0 yX0_verb yX0_verb, Cond.code yX0_verb cX0_verb 2 (some .int), Cond.methodLink RL 62 yX4_save, Cond.instanceMethod yX4_save, Cond.selects RX4 yX4_save yX4_save, Cond.code yX4_save cX4_save 1 (some .int)]
def wsL_law_r20 : List Cond := [Cond.methodLink RL 65 yX4_restore, Cond.instanceMethod yX4_restore, Cond.selects RX4 yX4_restore yX4_restore, Cond.code yX4_restore cX4_restore 1 (some .int), Cond.methodLink RX4 239 yX2_forget, Cond.instanceMethod yX2_forget, Cond.selects RX2 yX2_forget yX2_forget, Cond.code yX2_forget cX2_forget 1 none, Cond.methodLink RL 68 yX4_undo, Cond.instanceMethod yX4_undo, Cond.selects RX4 yX4_undo yX4_undo, Cond.code yX4_undo cX4_undo 1 (some .int), Cond.methodLink RX4 236 yX2_giveBack, Cond.instanceMethod yX2_giveBack, Cond.selects RX2 yX2_giveBack yX2_giveBack, Cond.code yX2_giveBack cX2_giveBack 2 none, Cond.methodLink RX2 35 Lib.Math.max.name, Cond.methodLink RL 158 yL_isFit, Cond.static yL_isFit, Cond.code yL_isFit cL_isFit 7 (some .boolean), Cond.methodLink RL 130 yL_areRanks, Cond.static yL_areRanks, Cond.code yL_areRanks cL_areRanks 8 (some .boolean), Cond.constantFloat RL 123 (1107296256)]
def wsL_law_r21 : List Cond := [Cond.methodLink RL 110 yX4_oldest, Cond.instanceMethod yX4_oldest, Cond.selects RX4 yX4_oldest yX4_oldest, Cond.code yX4_oldest cX4_oldest 3 (some .int), Cond.methodLink RX4 156 yX3_placeOf, Cond.instanceMethod yX3_placeOf, Cond.selects RX3 yX3_placeOf yX3_placeOf, Cond.code yX3_placeOf cX3_placeOf 4 (some .int), Cond.methodLink RX3 82 yX3_isAhead, Cond.instanceMethod yX3_isAhead, Cond.selects RX3 yX3_isAhead yX3_isAhead, Cond.code yX3_isAhead cX3_isAhead 3 (some .boolean), Cond.methodLink RL 113 yX4_tightest, Cond.instanceMethod yX4_tightest, Cond.selects RX4 yX4_tightest yX4_tightest, Cond.code yX4_tightest cX4_tightest 5 (some .int), Cond.methodLink RL 116 yX4_commonAge, Cond.instanceMethod yX4_commonAge, Cond.selects RX4 yX4_commonAge yX4_commonAge, Cond.code yX4_commonAge cX4_commonAge 6 (some .int), Cond.methodLink RX4 159 yX3_sacksAsOldAs, Cond.instanceMethod yX3_sacksAsOldAs, Cond.selects RX3 yX3_sacksAsOldAs yX3_sacksAsOldAs, Cond.code yX3_sacksAsOldAs cX3_sacksAsOldAs 4 (some .int)]
def wsL_law_r22 : List Cond := [Cond.methodLink RL 119 yX4_soundShare, Cond.instanceMethod yX4_soundShare, Cond.selects RX4 yX4_soundShare yX4_soundShare, Cond.code yX4_soundShare cX4_soundShare 1 (some .float), Cond.constantFloat RX4 235 (1107296256), Cond.methodLink RL 134 yL_areReached, Cond.static yL_areReached, Cond.code yL_areReached cL_areReached 6 (some .boolean), Cond.methodLink RL 124 yX4_reach, Cond.instanceMethod yX4_reach, Cond.selects RX4 yX4_reach yX4_reach, Cond.code yX4_reach cX4_reach 6 (some .int), Cond.methodLink RL 127 yX4_reachAgain, Cond.instanceMethod yX4_reachAgain, Cond.selects RX4 yX4_reachAgain yX4_reachAgain, Cond.code yX4_reachAgain cX4_reachAgain 4 (some .int), Cond.methodLink RL 98 yX4_sum, Cond.instanceMethod yX4_sum, Cond.selects RX4 yX4_sum yX4_sum, Cond.code yX4_sum cX4_sum 3 (some .int), Cond.methodLink RX4 132 yX3_sumByClimbing, Cond.instanceMethod yX3_sumByClimbing, Cond.selects RX3 yX3_sumByClimbing yX3_sumByClimbing, Cond.code yX3_sumByClimbing cX3_sumByClimbing 5 (some .int)]
def wsL_law_r23 : List Cond := [Cond.methodLink RL 137 yX4_isBalanced, Cond.instanceMethod yX4_isBalanced, Cond.selects RX4 yX4_isBalanced yX4_isBalanced, Cond.code yX4_isBalanced cX4_isBalanced 2 (some .int), Cond.methodLink RX4 135 yX3_sumByBays, Cond.methodLink RL 140 yL_isBay, Cond.static yL_isBay, Cond.code yL_isBay cL_isBay 11 (some .boolean), Cond.methodLink RL 84 yL_keeps, Cond.static yL_keeps, Cond.code yL_keeps cL_keeps 1 (some .int), Cond.methodLink RL 87 yX4_steps, Cond.instanceMethod yX4_steps, Cond.selects RX4 yX4_steps yX4_steps, Cond.code yX4_steps cX4_steps 5 (some .int), Cond.methodLink RX4 142 yX4_stepsBelow, Cond.static yX4_stepsBelow, Cond.code yX4_stepsBelow cX4_stepsBelow 6 (some .int), Cond.methodLink RL 90 yX4_stepsAgain, Cond.instanceMethod yX4_stepsAgain, Cond.selects RX4 yX4_stepsAgain yX4_stepsAgain, Cond.code yX4_stepsAgain cX4_stepsAgain 3 (some .int), Cond.methodLink RX4 146 yX4_stepsByKnown, Cond.instanceMethod yX4_stepsByKnown]
def wsL_law_r24 : List Cond := [Cond.selects RX4 yX4_stepsByKnown yX4_stepsByKnown, Cond.code yX4_stepsByKnown cX4_stepsByKnown 2 (some .int), Cond.methodLink RX4 153 yX4_knownSteps, Cond.instanceMethod yX4_knownSteps, Cond.selects RX4 yX4_knownSteps yX4_knownSteps, Cond.code yX4_knownSteps cX4_knownSteps 6 (some .int), Cond.methodLink RX4 205 yX4_at, Cond.methodLink RX4 149 yX4_put, Cond.methodLink RL 93 yJ6_bitCount_0f7a4, Cond.static yJ6_bitCount_0f7a4, Cond.initialized RJ6, Cond.code yJ6_bitCount_0f7a4 cJ6_bitCount_0f7a4 1 (some .int), Cond.constant RJ6 265 (1431655765), Cond.constant RJ6 266 (858993459), Cond.constant RJ6 267 (252645135), Cond.methodLink RL 101 yX4_sumAgain, Cond.instanceMethod yX4_sumAgain, Cond.selects RX4 yX4_sumAgain yX4_sumAgain, Cond.code yX4_sumAgain cX4_sumAgain 3 (some .int), Cond.methodLink RL 144 yL_isRung, Cond.static yL_isRung, Cond.code yL_isRung cL_isRung 6 (some .boolean), Cond.methodLink RL 104 yX4_tellRung, Cond.instanceMethod yX4_tellRung]
def wsL_law_r25 : List Cond := [Cond.selects RX4 yX4_tellRung yX4_tellRung, Cond.code yX4_tellRung cX4_tellRung 2 (some .int), Cond.methodLink RX4 198 yX1_becomeEmpty, Cond.instanceMethod yX1_becomeEmpty, Cond.selects RX1 yX1_becomeEmpty yX1_becomeEmpty, Cond.code yX1_becomeEmpty cX1_becomeEmpty 1 none, Cond.methodLink RX4 209 yX1_addNumber, Cond.instanceMethod yX1_addNumber, Cond.selects RX1 yX1_addNumber yX1_addNumber, Cond.code yX1_addNumber cX1_addNumber 3 none, Cond.methodLink RX1 23 yX1_addCode, Cond.instanceMethod yX1_addCode, Cond.selects RX1 yX1_addCode yX1_addCode, Cond.code yX1_addCode cX1_addCode 2 none, Cond.methodLink RX4 199 yX1_addCode, Cond.methodLink RX4 212 yX1_size, Cond.instanceMethod yX1_size, Cond.selects RX1 yX1_size yX1_size, Cond.code yX1_size cX1_size 1 (some .int), Cond.methodLink RL 107 yX4_character, Cond.instanceMethod yX4_character, Cond.selects RX4 yX4_character yX4_character, Cond.code yX4_character cX4_character 2 (some .int), Cond.methodLink RX4 215 yX1_codeAt]
def wsL_law_r26 : List Cond := [Cond.instanceMethod yX1_codeAt, Cond.selects RX1 yX1_codeAt yX1_codeAt, Cond.code yX1_codeAt cX1_codeAt 2 (some .int), Cond.methodLink RL 147 yX4_meanSacks, Cond.instanceMethod yX4_meanSacks, Cond.selects RX4 yX4_meanSacks yX4_meanSacks, Cond.code yX4_meanSacks cX4_meanSacks 2 (some .double), Cond.methodLink RL 177 yL_isBest, Cond.static yL_isBest, Cond.code yL_isBest cL_isBest 8 (some .boolean), Cond.methodLink RL 155 yX4_bestBay, Cond.instanceMethod yX4_bestBay, Cond.selects RX4 yX4_bestBay yX4_bestBay, Cond.code yX4_bestBay cX4_bestBay 6 (some .int), Cond.methodLink RX4 168 yX3_cracksUnder, Cond.instanceMethod yX3_cracksUnder, Cond.selects RX3 yX3_cracksUnder yX3_cracksUnder, Cond.code yX3_cracksUnder cX3_cracksUnder 5 (some .boolean), Cond.methodLink RL 181 yL_isSold, Cond.static yL_isSold, Cond.code yL_isSold cL_isSold 9 (some .boolean), Cond.methodLink RL 161 yX4_reason, Cond.instanceMethod yX4_reason, Cond.selects RX4 yX4_reason yX4_reason]
def wsL_law_r27 : List Cond := [Cond.code yX4_reason cX4_reason 2 (some .int), Cond.methodLink RL 165 yX4_price, Cond.instanceMethod yX4_price, Cond.selects RX4 yX4_price yX4_price, Cond.code yX4_price cX4_price 3 (some .int), Cond.methodLink RL 184 yL_isPassed, Cond.static yL_isPassed, Cond.code yL_isPassed cL_isPassed 5 (some .boolean)]
def wsL_law : List Cond := (wsL_law_r1 ++ (wsL_law_r2 ++ (wsL_law_r3 ++ (wsL_law_r4 ++ (wsL_law_r5 ++ (wsL_law_r6 ++ (wsL_law_r7 ++ (wsL_law_r8 ++ (wsL_law_r9 ++ (wsL_law_r10 ++ (wsL_law_r11 ++ (wsL_law_r12 ++ (wsL_law_r13 ++ (wsL_law_r14 ++ (wsL_law_r15 ++ (wsL_law_r16 ++ (wsL_law_r17 ++ (wsL_law_r18 ++ (wsL_law_r19 ++ (wsL_law_r20 ++ (wsL_law_r21 ++ (wsL_law_r22 ++ (wsL_law_r23 ++ (wsL_law_r24 ++ (wsL_law_r25 ++ (wsL_law_r26 ++ wsL_law_r27)))))))))))))))))))))))))) ++ wsX40 ++ wsX30 ++ wsX20 ++ wsX00 ++ wsX10 ++ ([] : List Cond)
/-! the law's words stand in the tables -/
theorem inK_1 : ∀ w ∈ tables_1_1, w ∈ lw_tbl := fun _ h => List.mem_append_right _ (List.mem_append_left _ h)
theorem inK_2 : ∀ w ∈ tables_1_2, w ∈ lw_tbl := fun _ h => List.mem_append_right _ (List.mem_append_right _ (List.mem_append_left _ h))
theorem inK_3 : ∀ w ∈ tables_1_3, w ∈ lw_tbl := fun _ h => List.mem_append_right _ (List.mem_append_right _ (List.mem_append_right _ (List.mem_append_left _ h)))
theorem inK_4 : ∀ w ∈ tables_1_4, w ∈ lw_tbl := fun _ h => List.mem_append_right _ (List.mem_append_right _ (List.mem_append_right _ (List.mem_append_right _ (h))))
theorem inT_1 : ∀ w ∈ wsL_law_r1, w ∈ lw_tbl := List.forall_mem_cons.mpr ⟨(inK_1 _ (List.mem_of_getElem? (i := 12) rfl)), List.forall_mem_cons.mpr ⟨(inK_1 _ (List.mem_of_getElem? (i := 13) rfl)), List.forall_mem_cons.mpr ⟨(inK_1 _ (List.mem_of_getElem? (i := 1) rfl)), List.forall_mem_cons.mpr ⟨(inK_3 _ (List.mem_of_getElem? (i := 37) rfl)), List.forall_mem_cons.mpr ⟨(inK_1 _ (List.mem_of_getElem? (i := 14) rfl)), List.forall_mem_cons.mpr ⟨(inK_1 _ (List.mem_of_getElem? (i := 15) rfl)), List.forall_mem_cons.mpr ⟨(inK_1 _ (List.mem_of_getElem? (i := 16) rfl)), List.forall_mem_cons.mpr ⟨(inK_1 _ (List.mem_of_getElem? (i := 17) rfl)), List.forall_mem_cons.mpr ⟨(inK_1 _ (List.mem_of_getElem? (i := 18) rfl)), List.forall_mem_cons.mpr ⟨(inK_1 _ (List.mem_of_getElem? (i := 19) rfl)), List.forall_mem_cons.mpr ⟨(inK_1 _ (List.mem_of_getElem? (i := 20) rfl)), List.forall_mem_cons.mpr ⟨(inK_1 _ (List.mem_of_getElem? (i := 21) rfl)), List.forall_mem_cons.mpr ⟨(inK_1 _ (List.mem_of_getElem? (i := 2) rfl)), List.forall_mem_cons.mpr ⟨(inK_1 _ (List.mem_of_getElem? (i := 103) rfl)), List.forall_mem_cons.mpr ⟨(inK_1 _ (List.mem_of_getElem? (i := 104) rfl)), List.forall_mem_cons.mpr ⟨(inK_1 _ (List.mem_of_getElem? (i := 105) rfl)), List.forall_mem_cons.mpr ⟨(inK_1 _ (List.mem_of_getElem? (i := 106) rfl)), List.forall_mem_cons.mpr ⟨(inK_1 _ (List.mem_of_getElem? (i := 46) rfl)), List.forall_mem_cons.mpr ⟨(inK_1 _ (List.mem_of_getElem? (i := 47) rfl)), List.forall_mem_cons.mpr ⟨(inK_1 _ (List.mem_of_getElem? (i := 3) rfl)), List.forall_mem_cons.mpr ⟨(inK_1 _ (List.mem_of_getElem? (i := 107) rfl)), List.forall_mem_cons.mpr ⟨(inK_1 _ (List.mem_of_getElem? (i := 65) rfl)), List.forall_mem_cons.mpr ⟨(inK_1 _ (List.mem_of_getElem? (i := 66) rfl)), List.forall_mem_cons.mpr ⟨(inK_1 _ (List.mem_of_getElem? (i := 4) rfl)), fun _ h => absurd h List.not_mem_nil⟩⟩⟩⟩⟩⟩⟩⟩⟩⟩⟩⟩⟩⟩⟩⟩⟩⟩⟩⟩⟩⟩⟩⟩
theorem inT_2 : ∀ w ∈ wsL_law_r2, w ∈ lw_tbl := List.forall_mem_cons.mpr ⟨(inK_1 _ (List.mem_of_getElem? (i := 108) rfl)), List.forall_mem_cons.mpr ⟨(inK_1 _ (List.mem_of_getElem? (i := 90) rfl)), List.forall_mem_cons.mpr ⟨(inK_1 _ (List.mem_of_getElem? (i := 91) rfl)), List.forall_mem_cons.mpr ⟨(inK_1 _ (List.mem_of_getElem? (i := 5) rfl)), List.forall_mem_cons.mpr ⟨(inK_1 _ (List.mem_of_getElem? (i := 109) rfl)), List.forall_mem_cons.mpr ⟨(inK_1 _ (List.mem_of_getElem? (i := 110) rfl)), List.forall_mem_cons.mpr ⟨(inK_1 _ (List.mem_of_getElem? (i := 111) rfl)), List.forall_mem_cons.mpr ⟨(inK_1 _ (List.mem_of_getElem? (i := 45) rfl)), List.forall_mem_cons.mpr ⟨(inK_1 _ (List.mem_of_getElem? (i := 112) rfl)), List.forall_mem_cons.mpr ⟨(inK_1 _ (List.mem_of_getElem? (i := 22) rfl)), List.forall_mem_cons.mpr ⟨(inK_1 _ (List.mem_of_getElem? (i := 23) rfl)), List.forall_mem_cons.mpr ⟨(inK_1 _ (List.mem_of_getElem? (i := 24) rfl)), List.forall_mem_cons.mpr ⟨(inK_1 _ (List.mem_of_getElem? (i := 25) rfl)), List.forall_mem_cons.mpr ⟨(inK_1 _ (List.mem_of_getElem? (i := 26) rfl)), List.forall_mem_cons.mpr ⟨(inK_1 _ (List.mem_of_getElem? (i := 27) rfl)), List.forall_mem_cons.mpr ⟨(inK_1 _ (List.mem_of_getElem? (i := 28) rfl)), List.forall_mem_cons.mpr ⟨(inK_1 _ (List.mem_of_getElem? (i := 29) rfl)), List.forall_mem_cons.mpr ⟨(inK_1 _ (List.mem_of_getElem? (i := 30) rfl)), List.forall_mem_cons.mpr ⟨(inK_1 _ (List.mem_of_getElem? (i := 31) rfl)), List.forall_mem_cons.mpr ⟨(inK_1 _ (List.mem_of_getElem? (i := 48) rfl)), List.forall_mem_cons.mpr ⟨(inK_1 _ (List.mem_of_getElem? (i := 49) rfl)), List.forall_mem_cons.mpr ⟨(inK_1 _ (List.mem_of_getElem? (i := 50) rfl)), List.forall_mem_cons.mpr ⟨(inK_1 _ (List.mem_of_getElem? (i := 51) rfl)), List.forall_mem_cons.mpr ⟨(inK_1 _ (List.mem_of_getElem? (i := 52) rfl)), fun _ h => absurd h List.not_mem_nil⟩⟩⟩⟩⟩⟩⟩⟩⟩⟩⟩⟩⟩⟩⟩⟩⟩⟩⟩⟩⟩⟩⟩⟩
theorem inT_3 : ∀ w ∈ wsL_law_r3, w ∈ lw_tbl := List.forall_mem_cons.mpr ⟨(inK_1 _ (List.mem_of_getElem? (i := 55) rfl)), List.forall_mem_cons.mpr ⟨(inK_1 _ (List.mem_of_getElem? (i := 56) rfl)), List.forall_mem_cons.mpr ⟨(inK_1 _ (List.mem_of_getElem? (i := 57) rfl)), List.forall_mem_cons.mpr ⟨(inK_1 _ (List.mem_of_getElem? (i := 54) rfl)), List.forall_mem_cons.mpr ⟨(inK_1 _ (List.mem_of_getElem? (i := 68) rfl)), List.forall_mem_cons.mpr ⟨(inK_1 _ (List.mem_of_getElem? (i := 69) rfl)), List.forall_mem_cons.mpr ⟨(inK_1 _ (List.mem_of_getElem? (i := 70) rfl)), List.forall_mem_cons.mpr ⟨(inK_1 _ (List.mem_of_getElem? (i := 71) rfl)), List.forall_mem_cons.mpr ⟨(inK_1 _ (List.mem_of_getElem? (i := 72) rfl)), List.forall_mem_cons.mpr ⟨(inK_1 _ (List.mem_of_getElem? (i := 73) rfl)), List.forall_mem_cons.mpr ⟨(inK_1 _ (List.mem_of_getElem? (i := 74) rfl)), List.forall_mem_cons.mpr ⟨(inK_1 _ (List.mem_of_getElem? (i := 75) rfl)), List.forall_mem_cons.mpr ⟨(inK_1 _ (List.mem_of_getElem? (i := 76) rfl)), List.forall_mem_cons.mpr ⟨(inK_1 _ (List.mem_of_getElem? (i := 93) rfl)), List.forall_mem_cons.mpr ⟨(inK_1 _ (List.mem_of_getElem? (i := 94) rfl)), List.forall_mem_cons.mpr ⟨(inK_1 _ (List.mem_of_getElem? (i := 95) rfl)), List.forall_mem_cons.mpr ⟨(inK_1 _ (List.mem_of_getElem? (i := 96) rfl)), List.forall_mem_cons.mpr ⟨(inK_1 _ (List.mem_of_getElem? (i := 97) rfl)), List.forall_mem_cons.mpr ⟨(inK_1 _ (List.mem_of_getElem? (i := 134) rfl)), List.forall_mem_cons.mpr ⟨(inK_1 _ (List.mem_of_getElem? (i := 135) rfl)), List.forall_mem_cons.mpr ⟨(inK_1 _ (List.mem_of_getElem? (i := 136) rfl)), List.forall_mem_cons.mpr ⟨(inK_1 _ (List.mem_of_getElem? (i := 137) rfl)), List.forall_mem_cons.mpr ⟨(inK_1 _ (List.mem_of_getElem? (i := 138) rfl)), List.forall_mem_cons.mpr ⟨(inK_1 _ (List.mem_of_getElem? (i := 139) rfl)), fun _ h => absurd h List.not_mem_nil⟩⟩⟩⟩⟩⟩⟩⟩⟩⟩⟩⟩⟩⟩⟩⟩⟩⟩⟩⟩⟩⟩⟩⟩
theorem inT_4 : ∀ w ∈ wsL_law_r4, w ∈ lw_tbl := List.forall_mem_cons.mpr ⟨(inK_1 _ (List.mem_of_getElem? (i := 140) rfl)), List.forall_mem_cons.mpr ⟨(inK_1 _ (List.mem_of_getElem? (i := 141) rfl)), List.forall_mem_cons.mpr ⟨(inK_1 _ (List.mem_of_getElem? (i := 143) rfl)), List.forall_mem_cons.mpr ⟨(inK_1 _ (List.mem_of_getElem? (i := 144) rfl)), List.forall_mem_cons.mpr ⟨(inK_1 _ (List.mem_of_getElem? (i := 145) rfl)), List.forall_mem_cons.mpr ⟨(inK_1 _ (List.mem_of_getElem? (i := 147) rfl)), List.forall_mem_cons.mpr ⟨(List.mem_append_left _ (List.mem_of_getElem? (i := 0) rfl)), List.forall_mem_cons.mpr ⟨(inK_1 _ (List.mem_of_getElem? (i := 148) rfl)), List.forall_mem_cons.mpr ⟨(inK_1 _ (List.mem_of_getElem? (i := 149) rfl)), List.forall_mem_cons.mpr ⟨(inK_1 _ (List.mem_of_getElem? (i := 150) rfl)), List.forall_mem_cons.mpr ⟨(inK_1 _ (List.mem_of_getElem? (i := 151) rfl)), List.forall_mem_cons.mpr ⟨(inK_1 _ (List.mem_of_getElem? (i := 152) rfl)), List.forall_mem_cons.mpr ⟨(inK_1 _ (List.mem_of_getElem? (i := 153) rfl)), List.forall_mem_cons.mpr ⟨(inK_1 _ (List.mem_of_getElem? (i := 154) rfl)), List.forall_mem_cons.mpr ⟨(inK_1 _ (List.mem_of_getElem? (i := 155) rfl)), List.forall_mem_cons.mpr ⟨(inK_1 _ (List.mem_of_getElem? (i := 156) rfl)), List.forall_mem_cons.mpr ⟨(inK_1 _ (List.mem_of_getElem? (i := 157) rfl)), List.forall_mem_cons.mpr ⟨(inK_1 _ (List.mem_of_getElem? (i := 158) rfl)), List.forall_mem_cons.mpr ⟨(inK_1 _ (List.mem_of_getElem? (i := 160) rfl)), List.forall_mem_cons.mpr ⟨(List.mem_append_left _ (List.mem_of_getElem? (i := 1) rfl)), List.forall_mem_cons.mpr ⟨(inK_1 _ (List.mem_of_getElem? (i := 161) rfl)), List.forall_mem_cons.mpr ⟨(inK_1 _ (List.mem_of_getElem? (i := 162) rfl)), List.forall_mem_cons.mpr ⟨(inK_1 _ (List.mem_of_getElem? (i := 163) rfl)), List.forall_mem_cons.mpr ⟨(inK_1 _ (List.mem_of_getElem? (i := 164) rfl)), fun _ h => absurd h List.not_mem_nil⟩⟩⟩⟩⟩⟩⟩⟩⟩⟩⟩⟩⟩⟩⟩⟩⟩⟩⟩⟩⟩⟩⟩⟩
theorem inT_5 : ∀ w ∈ wsL_law_r5, w ∈ lw_tbl := List.forall_mem_cons.mpr ⟨(inK_1 _ (List.mem_of_getElem? (i := 165) rfl)), List.forall_mem_cons.mpr ⟨(inK_1 _ (List.mem_of_getElem? (i := 167) rfl)), List.forall_mem_cons.mpr ⟨(inK_1 _ (List.mem_of_getElem? (i := 168) rfl)), List.forall_mem_cons.mpr ⟨(inK_1 _ (List.mem_of_getElem? (i := 169) rfl)), List.forall_mem_cons.mpr ⟨(inK_1 _ (List.mem_of_getElem? (i := 170) rfl)), List.forall_mem_cons.mpr ⟨(inK_1 _ (List.mem_of_getElem? (i := 171) rfl)), List.forall_mem_cons.mpr ⟨(inK_1 _ (List.mem_of_getElem? (i := 172) rfl)), List.forall_mem_cons.mpr ⟨(inK_1 _ (List.mem_of_getElem? (i := 173) rfl)), List.forall_mem_cons.mpr ⟨(inK_1 _ (List.mem_of_getElem? (i := 174) rfl)), List.forall_mem_cons.mpr ⟨(inK_1 _ (List.mem_of_getElem? (i := 175) rfl)), List.forall_mem_cons.mpr ⟨(inK_1 _ (List.mem_of_getElem? (i := 176) rfl)), List.forall_mem_cons.mpr ⟨(inK_1 _ (List.mem_of_getElem? (i := 177) rfl)), List.forall_mem_cons.mpr ⟨(inK_1 _ (List.mem_of_getElem? (i := 179) rfl)), List.forall_mem_cons.mpr ⟨(List.mem_append_left _ (List.mem_of_getElem? (i := 2) rfl)), List.forall_mem_cons.mpr ⟨(inK_1 _ (List.mem_of_getElem? (i := 180) rfl)), List.forall_mem_cons.mpr ⟨(inK_1 _ (List.mem_of_getElem? (i := 181) rfl)), List.forall_mem_cons.mpr ⟨(inK_1 _ (List.mem_of_getElem? (i := 183) rfl)), List.forall_mem_cons.mpr ⟨(List.mem_append_left _ (List.mem_of_getElem? (i := 3) rfl)), List.forall_mem_cons.mpr ⟨(inK_1 _ (List.mem_of_getElem? (i := 184) rfl)), List.forall_mem_cons.mpr ⟨(inK_1 _ (List.mem_of_getElem? (i := 185) rfl)), List.forall_mem_cons.mpr ⟨(inK_1 _ (List.mem_of_getElem? (i := 186) rfl)), List.forall_mem_cons.mpr ⟨(inK_1 _ (List.mem_of_getElem? (i := 187) rfl)), List.forall_mem_cons.mpr ⟨(inK_1 _ (List.mem_of_getElem? (i := 188) rfl)), List.forall_mem_cons.mpr ⟨(inK_1 _ (List.mem_of_getElem? (i := 190) rfl)), fun _ h => absurd h List.not_mem_nil⟩⟩⟩⟩⟩⟩⟩⟩⟩⟩⟩⟩⟩⟩⟩⟩⟩⟩⟩⟩⟩⟩⟩⟩
theorem inT_6 : ∀ w ∈ wsL_law_r6, w ∈ lw_tbl := List.forall_mem_cons.mpr ⟨(inK_1 _ (List.mem_of_getElem? (i := 191) rfl)), List.forall_mem_cons.mpr ⟨(inK_1 _ (List.mem_of_getElem? (i := 192) rfl)), List.forall_mem_cons.mpr ⟨(inK_1 _ (List.mem_of_getElem? (i := 193) rfl)), List.forall_mem_cons.mpr ⟨(inK_1 _ (List.mem_of_getElem? (i := 194) rfl)), List.forall_mem_cons.mpr ⟨(inK_1 _ (List.mem_of_getElem? (i := 195) rfl)), List.forall_mem_cons.mpr ⟨(inK_1 _ (List.mem_of_getElem? (i := 196) rfl)), List.forall_mem_cons.mpr ⟨(inK_1 _ (List.mem_of_getElem? (i := 197) rfl)), List.forall_mem_cons.mpr ⟨(inK_1 _ (List.mem_of_getElem? (i := 198) rfl)), List.forall_mem_cons.mpr ⟨(inK_1 _ (List.mem_of_getElem? (i := 199) rfl)), List.forall_mem_cons.mpr ⟨(inK_1 _ (List.mem_of_getElem? (i := 200) rfl)), List.forall_mem_cons.mpr ⟨(inK_1 _ (List.mem_of_getElem? (i := 202) rfl)), List.forall_mem_cons.mpr ⟨(List.mem_append_left _ (List.mem_of_getElem? (i := 4) rfl)), List.forall_mem_cons.mpr ⟨(inK_1 _ (List.mem_of_getElem? (i := 203) rfl)), List.forall_mem_cons.mpr ⟨(inK_1 _ (List.mem_of_getElem? (i := 205) rfl)), List.forall_mem_cons.mpr ⟨(inK_1 _ (List.mem_of_getElem? (i := 206) rfl)), List.forall_mem_cons.mpr ⟨(inK_1 _ (List.mem_of_getElem? (i := 207) rfl)), List.forall_mem_cons.mpr ⟨(inK_1 _ (List.mem_of_getElem? (i := 209) rfl)), List.forall_mem_cons.mpr ⟨(List.mem_append_left _ (List.mem_of_getElem? (i := 5) rfl)), List.forall_mem_cons.mpr ⟨(inK_1 _ (List.mem_of_getElem? (i := 210) rfl)), List.forall_mem_cons.mpr ⟨(inK_1 _ (List.mem_of_getElem? (i := 211) rfl)), List.forall_mem_cons.mpr ⟨(inK_1 _ (List.mem_of_getElem? (i := 212) rfl)), List.forall_mem_cons.mpr ⟨(inK_1 _ (List.mem_of_getElem? (i := 213) rfl)), List.forall_mem_cons.mpr ⟨(inK_1 _ (List.mem_of_getElem? (i := 214) rfl)), List.forall_mem_cons.mpr ⟨(inK_1 _ (List.mem_of_getElem? (i := 215) rfl)), fun _ h => absurd h List.not_mem_nil⟩⟩⟩⟩⟩⟩⟩⟩⟩⟩⟩⟩⟩⟩⟩⟩⟩⟩⟩⟩⟩⟩⟩⟩
theorem inT_7 : ∀ w ∈ wsL_law_r7, w ∈ lw_tbl := List.forall_mem_cons.mpr ⟨(inK_1 _ (List.mem_of_getElem? (i := 216) rfl)), List.forall_mem_cons.mpr ⟨(inK_1 _ (List.mem_of_getElem? (i := 217) rfl)), List.forall_mem_cons.mpr ⟨(inK_1 _ (List.mem_of_getElem? (i := 218) rfl)), List.forall_mem_cons.mpr ⟨(inK_1 _ (List.mem_of_getElem? (i := 220) rfl)), List.forall_mem_cons.mpr ⟨(inK_1 _ (List.mem_of_getElem? (i := 221) rfl)), List.forall_mem_cons.mpr ⟨(inK_1 _ (List.mem_of_getElem? (i := 222) rfl)), List.forall_mem_cons.mpr ⟨(inK_1 _ (List.mem_of_getElem? (i := 223) rfl)), List.forall_mem_cons.mpr ⟨(inK_1 _ (List.mem_of_getElem? (i := 224) rfl)), List.forall_mem_cons.mpr ⟨(inK_1 _ (List.mem_of_getElem? (i := 226) rfl)), List.forall_mem_cons.mpr ⟨(List.mem_append_left _ (List.mem_of_getElem? (i := 6) rfl)), List.forall_mem_cons.mpr ⟨(inK_1 _ (List.mem_of_getElem? (i := 227) rfl)), List.forall_mem_cons.mpr ⟨(inK_1 _ (List.mem_of_getElem? (i := 228) rfl)), List.forall_mem_cons.mpr ⟨(inK_1 _ (List.mem_of_getElem? (i := 229) rfl)), List.forall_mem_cons.mpr ⟨(inK_1 _ (List.mem_of_getElem? (i := 230) rfl)), List.forall_mem_cons.mpr ⟨(inK_1 _ (List.mem_of_getElem? (i := 231) rfl)), List.forall_mem_cons.mpr ⟨(inK_1 _ (List.mem_of_getElem? (i := 233) rfl)), List.forall_mem_cons.mpr ⟨(inK_1 _ (List.mem_of_getElem? (i := 234) rfl)), List.forall_mem_cons.mpr ⟨(inK_1 _ (List.mem_of_getElem? (i := 6) rfl)), List.forall_mem_cons.mpr ⟨(inK_1 _ (List.mem_of_getElem? (i := 235) rfl)), List.forall_mem_cons.mpr ⟨(inK_1 _ (List.mem_of_getElem? (i := 232) rfl)), List.forall_mem_cons.mpr ⟨(inK_3 _ (List.mem_of_getElem? (i := 40) rfl)), List.forall_mem_cons.mpr ⟨(inK_3 _ (List.mem_of_getElem? (i := 41) rfl)), List.forall_mem_cons.mpr ⟨(inK_1 _ (List.mem_of_getElem? (i := 0) rfl)), List.forall_mem_cons.mpr ⟨(inK_3 _ (List.mem_of_getElem? (i := 42) rfl)), fun _ h => absurd h List.not_mem_nil⟩⟩⟩⟩⟩⟩⟩⟩⟩⟩⟩⟩⟩⟩⟩⟩⟩⟩⟩⟩⟩⟩⟩⟩
theorem inT_8 : ∀ w ∈ wsL_law_r8, w ∈ lw_tbl := List.forall_mem_cons.mpr ⟨(inK_3 _ (List.mem_of_getElem? (i := 43) rfl)), List.forall_mem_cons.mpr ⟨(inK_3 _ (List.mem_of_getElem? (i := 44) rfl)), List.forall_mem_cons.mpr ⟨(inK_3 _ (List.mem_of_getElem? (i := 45) rfl)), List.forall_mem_cons.mpr ⟨(inK_3 _ (List.mem_of_getElem? (i := 46) rfl)), List.forall_mem_cons.mpr ⟨(inK_3 _ (List.mem_of_getElem? (i := 47) rfl)), List.forall_mem_cons.mpr ⟨(inK_3 _ (List.mem_of_getElem? (i := 48) rfl)), List.forall_mem_cons.mpr ⟨(inK_3 _ (List.mem_of_getElem? (i := 49) rfl)), List.forall_mem_cons.mpr ⟨(inK_3 _ (List.mem_of_getElem? (i := 50) rfl)), List.forall_mem_cons.mpr ⟨(inK_3 _ (List.mem_of_getElem? (i := 51) rfl)), List.forall_mem_cons.mpr ⟨(inK_3 _ (List.mem_of_getElem? (i := 52) rfl)), List.forall_mem_cons.mpr ⟨(inK_2 _ (List.mem_of_getElem? (i := 19) rfl)), List.forall_mem_cons.mpr ⟨(inK_2 _ (List.mem_of_getElem? (i := 233) rfl)), List.forall_mem_cons.mpr ⟨(inK_2 _ (List.mem_of_getElem? (i := 234) rfl)), List.forall_mem_cons.mpr ⟨(inK_2 _ (List.mem_of_getElem? (i := 235) rfl)), List.forall_mem_cons.mpr ⟨(inK_2 _ (List.mem_of_getElem? (i := 236) rfl)), List.forall_mem_cons.mpr ⟨(inK_2 _ (List.mem_of_getElem? (i := 237) rfl)), List.forall_mem_cons.mpr ⟨(inK_2 _ (List.mem_of_getElem? (i := 238) rfl)), List.forall_mem_cons.mpr ⟨(inK_2 _ (List.mem_of_getElem? (i := 239) rfl)), List.forall_mem_cons.mpr ⟨(inK_3 _ (List.mem_of_getElem? (i := 0) rfl)), List.forall_mem_cons.mpr ⟨(inK_2 _ (List.mem_of_getElem? (i := 62) rfl)), List.forall_mem_cons.mpr ⟨(inK_2 _ (List.mem_of_getElem? (i := 199) rfl)), List.forall_mem_cons.mpr ⟨(inK_2 _ (List.mem_of_getElem? (i := 200) rfl)), List.forall_mem_cons.mpr ⟨(inK_2 _ (List.mem_of_getElem? (i := 201) rfl)), List.forall_mem_cons.mpr ⟨(inK_2 _ (List.mem_of_getElem? (i := 202) rfl)), fun _ h => absurd h List.not_mem_nil⟩⟩⟩⟩⟩⟩⟩⟩⟩⟩⟩⟩⟩⟩⟩⟩⟩⟩⟩⟩⟩⟩⟩⟩
theorem inT_9 : ∀ w ∈ wsL_law_r9, w ∈ lw_tbl := List.forall_mem_cons.mpr ⟨(inK_2 _ (List.mem_of_getElem? (i := 61) rfl)), List.forall_mem_cons.mpr ⟨(inK_3 _ (List.mem_of_getElem? (i := 53) rfl)), List.forall_mem_cons.mpr ⟨(inK_3 _ (List.mem_of_getElem? (i := 54) rfl)), List.forall_mem_cons.mpr ⟨(inK_3 _ (List.mem_of_getElem? (i := 55) rfl)), List.forall_mem_cons.mpr ⟨(inK_3 _ (List.mem_of_getElem? (i := 56) rfl)), List.forall_mem_cons.mpr ⟨(inK_3 _ (List.mem_of_getElem? (i := 57) rfl)), List.forall_mem_cons.mpr ⟨(inK_3 _ (List.mem_of_getElem? (i := 58) rfl)), List.forall_mem_cons.mpr ⟨(inK_3 _ (List.mem_of_getElem? (i := 59) rfl)), List.forall_mem_cons.mpr ⟨(inK_3 _ (List.mem_of_getElem? (i := 60) rfl)), List.forall_mem_cons.mpr ⟨(inK_2 _ (List.mem_of_getElem? (i := 220) rfl)), List.forall_mem_cons.mpr ⟨(inK_2 _ (List.mem_of_getElem? (i := 221) rfl)), List.forall_mem_cons.mpr ⟨(inK_2 _ (List.mem_of_getElem? (i := 222) rfl)), List.forall_mem_cons.mpr ⟨(inK_2 _ (List.mem_of_getElem? (i := 223) rfl)), List.forall_mem_cons.mpr ⟨(inK_2 _ (List.mem_of_getElem? (i := 34) rfl)), List.forall_mem_cons.mpr ⟨(inK_2 _ (List.mem_of_getElem? (i := 35) rfl)), List.forall_mem_cons.mpr ⟨(inK_2 _ (List.mem_of_getElem? (i := 36) rfl)), List.forall_mem_cons.mpr ⟨(inK_2 _ (List.mem_of_getElem? (i := 37) rfl)), List.forall_mem_cons.mpr ⟨(inK_3 _ (List.mem_of_getElem? (i := 61) rfl)), List.forall_mem_cons.mpr ⟨(inK_3 _ (List.mem_of_getElem? (i := 62) rfl)), List.forall_mem_cons.mpr ⟨(inK_3 _ (List.mem_of_getElem? (i := 63) rfl)), List.forall_mem_cons.mpr ⟨(inK_3 _ (List.mem_of_getElem? (i := 64) rfl)), List.forall_mem_cons.mpr ⟨(inK_3 _ (List.mem_of_getElem? (i := 65) rfl)), List.forall_mem_cons.mpr ⟨(inK_2 _ (List.mem_of_getElem? (i := 56) rfl)), List.forall_mem_cons.mpr ⟨(inK_2 _ (List.mem_of_getElem? (i := 57) rfl)), fun _ h => absurd h List.not_mem_nil⟩⟩⟩⟩⟩⟩⟩⟩⟩⟩⟩⟩⟩⟩⟩⟩⟩⟩⟩⟩⟩⟩⟩⟩
theorem inT_10 : ∀ w ∈ wsL_law_r10, w ∈ lw_tbl := List.forall_mem_cons.mpr ⟨(inK_2 _ (List.mem_of_getElem? (i := 58) rfl)), List.forall_mem_cons.mpr ⟨(inK_3 _ (List.mem_of_getElem? (i := 66) rfl)), List.forall_mem_cons.mpr ⟨(inK_3 _ (List.mem_of_getElem? (i := 67) rfl)), List.forall_mem_cons.mpr ⟨(inK_3 _ (List.mem_of_getElem? (i := 68) rfl)), List.forall_mem_cons.mpr ⟨(inK_3 _ (List.mem_of_getElem? (i := 69) rfl)), List.forall_mem_cons.mpr ⟨(inK_3 _ (List.mem_of_getElem? (i := 70) rfl)), List.forall_mem_cons.mpr ⟨(inK_3 _ (List.mem_of_getElem? (i := 71) rfl)), List.forall_mem_cons.mpr ⟨(inK_3 _ (List.mem_of_getElem? (i := 72) rfl)), List.forall_mem_cons.mpr ⟨(inK_3 _ (List.mem_of_getElem? (i := 73) rfl)), List.forall_mem_cons.mpr ⟨(inK_3 _ (List.mem_of_getElem? (i := 74) rfl)), List.forall_mem_cons.mpr ⟨(inK_3 _ (List.mem_of_getElem? (i := 75) rfl)), List.forall_mem_cons.mpr ⟨(inK_3 _ (List.mem_of_getElem? (i := 76) rfl)), List.forall_mem_cons.mpr ⟨(inK_3 _ (List.mem_of_getElem? (i := 77) rfl)), List.forall_mem_cons.mpr ⟨(inK_2 _ (List.mem_of_getElem? (i := 28) rfl)), List.forall_mem_cons.mpr ⟨(inK_2 _ (List.mem_of_getElem? (i := 29) rfl)), List.forall_mem_cons.mpr ⟨(inK_2 _ (List.mem_of_getElem? (i := 30) rfl)), List.forall_mem_cons.mpr ⟨(inK_2 _ (List.mem_of_getElem? (i := 32) rfl)), List.forall_mem_cons.mpr ⟨(inK_2 _ (List.mem_of_getElem? (i := 33) rfl)), List.forall_mem_cons.mpr ⟨(inK_2 _ (List.mem_of_getElem? (i := 31) rfl)), List.forall_mem_cons.mpr ⟨(inK_3 _ (List.mem_of_getElem? (i := 78) rfl)), List.forall_mem_cons.mpr ⟨(inK_3 _ (List.mem_of_getElem? (i := 79) rfl)), List.forall_mem_cons.mpr ⟨(inK_3 _ (List.mem_of_getElem? (i := 80) rfl)), List.forall_mem_cons.mpr ⟨(inK_3 _ (List.mem_of_getElem? (i := 81) rfl)), List.forall_mem_cons.mpr ⟨(inK_3 _ (List.mem_of_getElem? (i := 82) rfl)), fun _ h => absurd h List.not_mem_nil⟩⟩⟩⟩⟩⟩⟩⟩⟩⟩⟩⟩⟩⟩⟩⟩⟩⟩⟩⟩⟩⟩⟩⟩
theorem inT_11 : ∀ w ∈ wsL_law_r11, w ∈ lw_tbl := List.forall_mem_cons.mpr ⟨(inK_3 _ (List.mem_of_getElem? (i := 83) rfl)), List.forall_mem_cons.mpr ⟨(inK_3 _ (List.mem_of_getElem? (i := 9) rfl)), List.forall_mem_cons.mpr ⟨(inK_3 _ (List.mem_of_getElem? (i := 10) rfl)), List.forall_mem_cons.mpr ⟨(inK_3 _ (List.mem_of_getElem? (i := 11) rfl)), List.forall_mem_cons.mpr ⟨(inK_3 _ (List.mem_of_getElem? (i := 12) rfl)), List.forall_mem_cons.mpr ⟨(inK_3 _ (List.mem_of_getElem? (i := 26) rfl)), List.forall_mem_cons.mpr ⟨(inK_3 _ (List.mem_of_getElem? (i := 27) rfl)), List.forall_mem_cons.mpr ⟨(inK_3 _ (List.mem_of_getElem? (i := 28) rfl)), List.forall_mem_cons.mpr ⟨(inK_3 _ (List.mem_of_getElem? (i := 39) rfl)), List.forall_mem_cons.mpr ⟨(inK_2 _ (List.mem_of_getElem? (i := 13) rfl)), List.forall_mem_cons.mpr ⟨(inK_2 _ (List.mem_of_getElem? (i := 14) rfl)), List.forall_mem_cons.mpr ⟨(inK_3 _ (List.mem_of_getElem? (i := 29) rfl)), List.forall_mem_cons.mpr ⟨(inK_3 _ (List.mem_of_getElem? (i := 30) rfl)), List.forall_mem_cons.mpr ⟨(inK_3 _ (List.mem_of_getElem? (i := 31) rfl)), List.forall_mem_cons.mpr ⟨(inK_3 _ (List.mem_of_getElem? (i := 32) rfl)), List.forall_mem_cons.mpr ⟨(inK_2 _ (List.mem_of_getElem? (i := 191) rfl)), List.forall_mem_cons.mpr ⟨(inK_2 _ (List.mem_of_getElem? (i := 193) rfl)), List.forall_mem_cons.mpr ⟨(List.mem_append_left _ (List.mem_of_getElem? (i := 20) rfl)), List.forall_mem_cons.mpr ⟨(inK_2 _ (List.mem_of_getElem? (i := 194) rfl)), List.forall_mem_cons.mpr ⟨(inK_2 _ (List.mem_of_getElem? (i := 4) rfl)), List.forall_mem_cons.mpr ⟨(inK_2 _ (List.mem_of_getElem? (i := 6) rfl)), List.forall_mem_cons.mpr ⟨(List.mem_append_left _ (List.mem_of_getElem? (i := 8) rfl)), List.forall_mem_cons.mpr ⟨(inK_2 _ (List.mem_of_getElem? (i := 7) rfl)), List.forall_mem_cons.mpr ⟨(inK_2 _ (List.mem_of_getElem? (i := 8) rfl)), fun _ h => absurd h List.not_mem_nil⟩⟩⟩⟩⟩⟩⟩⟩⟩⟩⟩⟩⟩⟩⟩⟩⟩⟩⟩⟩⟩⟩⟩⟩
theorem inT_12 : ∀ w ∈ wsL_law_r12, w ∈ lw_tbl := List.forall_mem_cons.mpr ⟨(inK_2 _ (List.mem_of_getElem? (i := 10) rfl)), List.forall_mem_cons.mpr ⟨(List.mem_append_left _ (List.mem_of_getElem? (i := 9) rfl)), List.forall_mem_cons.mpr ⟨(inK_2 _ (List.mem_of_getElem? (i := 11) rfl)), List.forall_mem_cons.mpr ⟨(inK_2 _ (List.mem_of_getElem? (i := 15) rfl)), List.forall_mem_cons.mpr ⟨(inK_2 _ (List.mem_of_getElem? (i := 16) rfl)), List.forall_mem_cons.mpr ⟨(inK_2 _ (List.mem_of_getElem? (i := 17) rfl)), List.forall_mem_cons.mpr ⟨(inK_2 _ (List.mem_of_getElem? (i := 18) rfl)), List.forall_mem_cons.mpr ⟨(inK_1 _ (List.mem_of_getElem? (i := 236) rfl)), List.forall_mem_cons.mpr ⟨(inK_1 _ (List.mem_of_getElem? (i := 237) rfl)), List.forall_mem_cons.mpr ⟨(inK_1 _ (List.mem_of_getElem? (i := 238) rfl)), List.forall_mem_cons.mpr ⟨(inK_1 _ (List.mem_of_getElem? (i := 239) rfl)), List.forall_mem_cons.mpr ⟨(inK_2 _ (List.mem_of_getElem? (i := 0) rfl)), List.forall_mem_cons.mpr ⟨(inK_2 _ (List.mem_of_getElem? (i := 2) rfl)), List.forall_mem_cons.mpr ⟨(List.mem_append_left _ (List.mem_of_getElem? (i := 7) rfl)), List.forall_mem_cons.mpr ⟨(inK_2 _ (List.mem_of_getElem? (i := 3) rfl)), List.forall_mem_cons.mpr ⟨(inK_2 _ (List.mem_of_getElem? (i := 12) rfl)), List.forall_mem_cons.mpr ⟨(inK_3 _ (List.mem_of_getElem? (i := 33) rfl)), List.forall_mem_cons.mpr ⟨(inK_3 _ (List.mem_of_getElem? (i := 34) rfl)), List.forall_mem_cons.mpr ⟨(inK_3 _ (List.mem_of_getElem? (i := 35) rfl)), List.forall_mem_cons.mpr ⟨(inK_3 _ (List.mem_of_getElem? (i := 36) rfl)), List.forall_mem_cons.mpr ⟨(inK_2 _ (List.mem_of_getElem? (i := 195) rfl)), List.forall_mem_cons.mpr ⟨(inK_2 _ (List.mem_of_getElem? (i := 197) rfl)), List.forall_mem_cons.mpr ⟨(List.mem_append_left _ (List.mem_of_getElem? (i := 21) rfl)), List.forall_mem_cons.mpr ⟨(inK_2 _ (List.mem_of_getElem? (i := 198) rfl)), fun _ h => absurd h List.not_mem_nil⟩⟩⟩⟩⟩⟩⟩⟩⟩⟩⟩⟩⟩⟩⟩⟩⟩⟩⟩⟩⟩⟩⟩⟩
theorem inT_13 : ∀ w ∈ wsL_law_r13, w ∈ lw_tbl := List.forall_mem_cons.mpr ⟨(inK_2 _ (List.mem_of_getElem? (i := 207) rfl)), List.forall_mem_cons.mpr ⟨(inK_2 _ (List.mem_of_getElem? (i := 203) rfl)), List.forall_mem_cons.mpr ⟨(inK_2 _ (List.mem_of_getElem? (i := 204) rfl)), List.forall_mem_cons.mpr ⟨(inK_2 _ (List.mem_of_getElem? (i := 205) rfl)), List.forall_mem_cons.mpr ⟨(inK_2 _ (List.mem_of_getElem? (i := 206) rfl)), List.forall_mem_cons.mpr ⟨(inK_2 _ (List.mem_of_getElem? (i := 54) rfl)), List.forall_mem_cons.mpr ⟨(inK_2 _ (List.mem_of_getElem? (i := 208) rfl)), List.forall_mem_cons.mpr ⟨(inK_2 _ (List.mem_of_getElem? (i := 209) rfl)), List.forall_mem_cons.mpr ⟨(inK_2 _ (List.mem_of_getElem? (i := 210) rfl)), List.forall_mem_cons.mpr ⟨(inK_2 _ (List.mem_of_getElem? (i := 20) rfl)), List.forall_mem_cons.mpr ⟨(inK_2 _ (List.mem_of_getElem? (i := 21) rfl)), List.forall_mem_cons.mpr ⟨(inK_2 _ (List.mem_of_getElem? (i := 22) rfl)), List.forall_mem_cons.mpr ⟨(inK_2 _ (List.mem_of_getElem? (i := 23) rfl)), List.forall_mem_cons.mpr ⟨(inK_2 _ (List.mem_of_getElem? (i := 24) rfl)), List.forall_mem_cons.mpr ⟨(inK_2 _ (List.mem_of_getElem? (i := 26) rfl)), List.forall_mem_cons.mpr ⟨(List.mem_append_left _ (List.mem_of_getElem? (i := 10) rfl)), List.forall_mem_cons.mpr ⟨(inK_2 _ (List.mem_of_getElem? (i := 27) rfl)), List.forall_mem_cons.mpr ⟨(inK_2 _ (List.mem_of_getElem? (i := 38) rfl)), List.forall_mem_cons.mpr ⟨(inK_2 _ (List.mem_of_getElem? (i := 39) rfl)), List.forall_mem_cons.mpr ⟨(inK_2 _ (List.mem_of_getElem? (i := 40) rfl)), List.forall_mem_cons.mpr ⟨(inK_2 _ (List.mem_of_getElem? (i := 41) rfl)), List.forall_mem_cons.mpr ⟨(inK_2 _ (List.mem_of_getElem? (i := 42) rfl)), List.forall_mem_cons.mpr ⟨(inK_2 _ (List.mem_of_getElem? (i := 43) rfl)), List.forall_mem_cons.mpr ⟨(inK_2 _ (List.mem_of_getElem? (i := 44) rfl)), fun _ h => absurd h List.not_mem_nil⟩⟩⟩⟩⟩⟩⟩⟩⟩⟩⟩⟩⟩⟩⟩⟩⟩⟩⟩⟩⟩⟩⟩⟩
theorem inT_14 : ∀ w ∈ wsL_law_r14, w ∈ lw_tbl := List.forall_mem_cons.mpr ⟨(inK_2 _ (List.mem_of_getElem? (i := 45) rfl)), List.forall_mem_cons.mpr ⟨(inK_2 _ (List.mem_of_getElem? (i := 46) rfl)), List.forall_mem_cons.mpr ⟨(inK_2 _ (List.mem_of_getElem? (i := 48) rfl)), List.forall_mem_cons.mpr ⟨(List.mem_append_left _ (List.mem_of_getElem? (i := 11) rfl)), List.forall_mem_cons.mpr ⟨(inK_2 _ (List.mem_of_getElem? (i := 49) rfl)), List.forall_mem_cons.mpr ⟨(inK_2 _ (List.mem_of_getElem? (i := 50) rfl)), List.forall_mem_cons.mpr ⟨(inK_2 _ (List.mem_of_getElem? (i := 51) rfl)), List.forall_mem_cons.mpr ⟨(inK_2 _ (List.mem_of_getElem? (i := 52) rfl)), List.forall_mem_cons.mpr ⟨(inK_2 _ (List.mem_of_getElem? (i := 53) rfl)), List.forall_mem_cons.mpr ⟨(inK_2 _ (List.mem_of_getElem? (i := 55) rfl)), List.forall_mem_cons.mpr ⟨(inK_2 _ (List.mem_of_getElem? (i := 63) rfl)), List.forall_mem_cons.mpr ⟨(inK_3 _ (List.mem_of_getElem? (i := 13) rfl)), List.forall_mem_cons.mpr ⟨(inK_3 _ (List.mem_of_getElem? (i := 14) rfl)), List.forall_mem_cons.mpr ⟨(inK_3 _ (List.mem_of_getElem? (i := 15) rfl)), List.forall_mem_cons.mpr ⟨(inK_3 _ (List.mem_of_getElem? (i := 16) rfl)), List.forall_mem_cons.mpr ⟨(inK_2 _ (List.mem_of_getElem? (i := 145) rfl)), List.forall_mem_cons.mpr ⟨(inK_2 _ (List.mem_of_getElem? (i := 146) rfl)), List.forall_mem_cons.mpr ⟨(inK_1 _ (List.mem_of_getElem? (i := 7) rfl)), List.forall_mem_cons.mpr ⟨(inK_2 _ (List.mem_of_getElem? (i := 147) rfl)), List.forall_mem_cons.mpr ⟨(inK_4 _ (List.mem_of_getElem? (i := 1) rfl)), List.forall_mem_cons.mpr ⟨(inK_2 _ (List.mem_of_getElem? (i := 148) rfl)), List.forall_mem_cons.mpr ⟨(inK_2 _ (List.mem_of_getElem? (i := 149) rfl)), List.forall_mem_cons.mpr ⟨(inK_2 _ (List.mem_of_getElem? (i := 150) rfl)), List.forall_mem_cons.mpr ⟨(inK_2 _ (List.mem_of_getElem? (i := 151) rfl)), fun _ h => absurd h List.not_mem_nil⟩⟩⟩⟩⟩⟩⟩⟩⟩⟩⟩⟩⟩⟩⟩⟩⟩⟩⟩⟩⟩⟩⟩⟩
theorem inT_15 : ∀ w ∈ wsL_law_r15, w ∈ lw_tbl := List.forall_mem_cons.mpr ⟨(inK_2 _ (List.mem_of_getElem? (i := 103) rfl)), List.forall_mem_cons.mpr ⟨(inK_4 _ (List.mem_of_getElem? (i := 2) rfl)), List.forall_mem_cons.mpr ⟨(inK_3 _ (List.mem_of_getElem? (i := 17) rfl)), List.forall_mem_cons.mpr ⟨(inK_2 _ (List.mem_of_getElem? (i := 96) rfl)), List.forall_mem_cons.mpr ⟨(inK_2 _ (List.mem_of_getElem? (i := 97) rfl)), List.forall_mem_cons.mpr ⟨(inK_2 _ (List.mem_of_getElem? (i := 98) rfl)), List.forall_mem_cons.mpr ⟨(inK_2 _ (List.mem_of_getElem? (i := 99) rfl)), List.forall_mem_cons.mpr ⟨(inK_2 _ (List.mem_of_getElem? (i := 100) rfl)), List.forall_mem_cons.mpr ⟨(inK_2 _ (List.mem_of_getElem? (i := 101) rfl)), List.forall_mem_cons.mpr ⟨(inK_2 _ (List.mem_of_getElem? (i := 102) rfl)), List.forall_mem_cons.mpr ⟨(inK_2 _ (List.mem_of_getElem? (i := 105) rfl)), List.forall_mem_cons.mpr ⟨(inK_2 _ (List.mem_of_getElem? (i := 106) rfl)), List.forall_mem_cons.mpr ⟨(inK_1 _ (List.mem_of_getElem? (i := 8) rfl)), List.forall_mem_cons.mpr ⟨(inK_2 _ (List.mem_of_getElem? (i := 107) rfl)), List.forall_mem_cons.mpr ⟨(inK_2 _ (List.mem_of_getElem? (i := 108) rfl)), List.forall_mem_cons.mpr ⟨(inK_2 _ (List.mem_of_getElem? (i := 109) rfl)), List.forall_mem_cons.mpr ⟨(inK_2 _ (List.mem_of_getElem? (i := 110) rfl)), List.forall_mem_cons.mpr ⟨(inK_2 _ (List.mem_of_getElem? (i := 111) rfl)), List.forall_mem_cons.mpr ⟨(inK_2 _ (List.mem_of_getElem? (i := 113) rfl)), List.forall_mem_cons.mpr ⟨(inK_2 _ (List.mem_of_getElem? (i := 114) rfl)), List.forall_mem_cons.mpr ⟨(inK_1 _ (List.mem_of_getElem? (i := 9) rfl)), List.forall_mem_cons.mpr ⟨(inK_2 _ (List.mem_of_getElem? (i := 115) rfl)), List.forall_mem_cons.mpr ⟨(inK_2 _ (List.mem_of_getElem? (i := 116) rfl)), List.forall_mem_cons.mpr ⟨(inK_2 _ (List.mem_of_getElem? (i := 117) rfl)), fun _ h => absurd h List.not_mem_nil⟩⟩⟩⟩⟩⟩⟩⟩⟩⟩⟩⟩⟩⟩⟩⟩⟩⟩⟩⟩⟩⟩⟩⟩
theorem inT_16 : ∀ w ∈ wsL_law_r16, w ∈ lw_tbl := List.forall_mem_cons.mpr ⟨(inK_1 _ (List.mem_of_getElem? (i := 10) rfl)), List.forall_mem_cons.mpr ⟨(inK_2 _ (List.mem_of_getElem? (i := 118) rfl)), List.forall_mem_cons.mpr ⟨(inK_2 _ (List.mem_of_getElem? (i := 119) rfl)), List.forall_mem_cons.mpr ⟨(inK_2 _ (List.mem_of_getElem? (i := 120) rfl)), List.forall_mem_cons.mpr ⟨(inK_2 _ (List.mem_of_getElem? (i := 121) rfl)), List.forall_mem_cons.mpr ⟨(inK_2 _ (List.mem_of_getElem? (i := 122) rfl)), List.forall_mem_cons.mpr ⟨(inK_2 _ (List.mem_of_getElem? (i := 123) rfl)), List.forall_mem_cons.mpr ⟨(inK_2 _ (List.mem_of_getElem? (i := 124) rfl)), List.forall_mem_cons.mpr ⟨(inK_2 _ (List.mem_of_getElem? (i := 125) rfl)), List.forall_mem_cons.mpr ⟨(inK_2 _ (List.mem_of_getElem? (i := 126) rfl)), List.forall_mem_cons.mpr ⟨(inK_2 _ (List.mem_of_getElem? (i := 127) rfl)), List.forall_mem_cons.mpr ⟨(inK_2 _ (List.mem_of_getElem? (i := 128) rfl)), List.forall_mem_cons.mpr ⟨(inK_2 _ (List.mem_of_getElem? (i := 129) rfl)), List.forall_mem_cons.mpr ⟨(inK_2 _ (List.mem_of_getElem? (i := 131) rfl)), List.forall_mem_cons.mpr ⟨(inK_2 _ (List.mem_of_getElem? (i := 133) rfl)), List.forall_mem_cons.mpr ⟨(inK_3 _ (List.mem_of_getElem? (i := 18) rfl)), List.forall_mem_cons.mpr ⟨(inK_3 _ (List.mem_of_getElem? (i := 19) rfl)), List.forall_mem_cons.mpr ⟨(inK_3 _ (List.mem_of_getElem? (i := 20) rfl)), List.forall_mem_cons.mpr ⟨(inK_3 _ (List.mem_of_getElem? (i := 21) rfl)), List.forall_mem_cons.mpr ⟨(inK_3 _ (List.mem_of_getElem? (i := 22) rfl)), List.forall_mem_cons.mpr ⟨(inK_3 _ (List.mem_of_getElem? (i := 23) rfl)), List.forall_mem_cons.mpr ⟨(inK_3 _ (List.mem_of_getElem? (i := 24) rfl)), List.forall_mem_cons.mpr ⟨(inK_3 _ (List.mem_of_getElem? (i := 25) rfl)), List.forall_mem_cons.mpr ⟨(inK_2 _ (List.mem_of_getElem? (i := 64) rfl)), fun _ h => absurd h List.not_mem_nil⟩⟩⟩⟩⟩⟩⟩⟩⟩⟩⟩⟩⟩⟩⟩⟩⟩⟩⟩⟩⟩⟩⟩⟩
theorem inT_17 : ∀ w ∈ wsL_law_r17, w ∈ lw_tbl := List.forall_mem_cons.mpr ⟨(inK_2 _ (List.mem_of_getElem? (i := 65) rfl)), List.forall_mem_cons.mpr ⟨(inK_2 _ (List.mem_of_getElem? (i := 66) rfl)), List.forall_mem_cons.mpr ⟨(inK_2 _ (List.mem_of_getElem? (i := 67) rfl)), List.forall_mem_cons.mpr ⟨(inK_2 _ (List.mem_of_getElem? (i := 68) rfl)), List.forall_mem_cons.mpr ⟨(inK_2 _ (List.mem_of_getElem? (i := 69) rfl)), List.forall_mem_cons.mpr ⟨(inK_2 _ (List.mem_of_getElem? (i := 70) rfl)), List.forall_mem_cons.mpr ⟨(inK_2 _ (List.mem_of_getElem? (i := 71) rfl)), List.forall_mem_cons.mpr ⟨(inK_2 _ (List.mem_of_getElem? (i := 72) rfl)), List.forall_mem_cons.mpr ⟨(inK_2 _ (List.mem_of_getElem? (i := 74) rfl)), List.forall_mem_cons.mpr ⟨(List.mem_append_left _ (List.mem_of_getElem? (i := 12) rfl)), List.forall_mem_cons.mpr ⟨(inK_2 _ (List.mem_of_getElem? (i := 75) rfl)), List.forall_mem_cons.mpr ⟨(inK_2 _ (List.mem_of_getElem? (i := 76) rfl)), List.forall_mem_cons.mpr ⟨(inK_2 _ (List.mem_of_getElem? (i := 77) rfl)), List.forall_mem_cons.mpr ⟨(inK_2 _ (List.mem_of_getElem? (i := 78) rfl)), List.forall_mem_cons.mpr ⟨(inK_2 _ (List.mem_of_getElem? (i := 86) rfl)), List.forall_mem_cons.mpr ⟨(inK_2 _ (List.mem_of_getElem? (i := 87) rfl)), List.forall_mem_cons.mpr ⟨(inK_2 _ (List.mem_of_getElem? (i := 88) rfl)), List.forall_mem_cons.mpr ⟨(inK_2 _ (List.mem_of_getElem? (i := 89) rfl)), List.forall_mem_cons.mpr ⟨(inK_2 _ (List.mem_of_getElem? (i := 90) rfl)), List.forall_mem_cons.mpr ⟨(inK_2 _ (List.mem_of_getElem? (i := 92) rfl)), List.forall_mem_cons.mpr ⟨(List.mem_append_left _ (List.mem_of_getElem? (i := 13) rfl)), List.forall_mem_cons.mpr ⟨(inK_2 _ (List.mem_of_getElem? (i := 93) rfl)), List.forall_mem_cons.mpr ⟨(inK_2 _ (List.mem_of_getElem? (i := 95) rfl)), List.forall_mem_cons.mpr ⟨(inK_2 _ (List.mem_of_getElem? (i := 135) rfl)), fun _ h => absurd h List.not_mem_nil⟩⟩⟩⟩⟩⟩⟩⟩⟩⟩⟩⟩⟩⟩⟩⟩⟩⟩⟩⟩⟩⟩⟩⟩
theorem inT_18 : ∀ w ∈ wsL_law_r18, w ∈ lw_tbl := List.forall_mem_cons.mpr ⟨(inK_2 _ (List.mem_of_getElem? (i := 137) rfl)), List.forall_mem_cons.mpr ⟨(List.mem_append_left _ (List.mem_of_getElem? (i := 14) rfl)), List.forall_mem_cons.mpr ⟨(inK_2 _ (List.mem_of_getElem? (i := 138) rfl)), List.forall_mem_cons.mpr ⟨(inK_2 _ (List.mem_of_getElem? (i := 140) rfl)), List.forall_mem_cons.mpr ⟨(inK_2 _ (List.mem_of_getElem? (i := 142) rfl)), List.forall_mem_cons.mpr ⟨(List.mem_append_left _ (List.mem_of_getElem? (i := 15) rfl)), List.forall_mem_cons.mpr ⟨(inK_2 _ (List.mem_of_getElem? (i := 143) rfl)), List.forall_mem_cons.mpr ⟨(inK_2 _ (List.mem_of_getElem? (i := 144) rfl)), List.forall_mem_cons.mpr ⟨(inK_2 _ (List.mem_of_getElem? (i := 152) rfl)), List.forall_mem_cons.mpr ⟨(inK_2 _ (List.mem_of_getElem? (i := 154) rfl)), List.forall_mem_cons.mpr ⟨(List.mem_append_left _ (List.mem_of_getElem? (i := 16) rfl)), List.forall_mem_cons.mpr ⟨(inK_2 _ (List.mem_of_getElem? (i := 155) rfl)), List.forall_mem_cons.mpr ⟨(inK_2 _ (List.mem_of_getElem? (i := 157) rfl)), List.forall_mem_cons.mpr ⟨(inK_2 _ (List.mem_of_getElem? (i := 159) rfl)), List.forall_mem_cons.mpr ⟨(List.mem_append_left _ (List.mem_of_getElem? (i := 17) rfl)), List.forall_mem_cons.mpr ⟨(inK_2 _ (List.mem_of_getElem? (i := 160) rfl)), List.forall_mem_cons.mpr ⟨(inK_2 _ (List.mem_of_getElem? (i := 163) rfl)), List.forall_mem_cons.mpr ⟨(inK_2 _ (List.mem_of_getElem? (i := 165) rfl)), List.forall_mem_cons.mpr ⟨(List.mem_append_left _ (List.mem_of_getElem? (i := 18) rfl)), List.forall_mem_cons.mpr ⟨(inK_2 _ (List.mem_of_getElem? (i := 166) rfl)), List.forall_mem_cons.mpr ⟨(inK_2 _ (List.mem_of_getElem? (i := 167) rfl)), List.forall_mem_cons.mpr ⟨(inK_2 _ (List.mem_of_getElem? (i := 168) rfl)), List.forall_mem_cons.mpr ⟨(inK_2 _ (List.mem_of_getElem? (i := 169) rfl)), List.forall_mem_cons.mpr ⟨(inK_2 _ (List.mem_of_getElem? (i := 170) rfl)), fun _ h => absurd h List.not_mem_nil⟩⟩⟩⟩⟩⟩⟩⟩⟩⟩⟩⟩⟩⟩⟩⟩⟩⟩⟩⟩⟩⟩⟩⟩
theorem inT_19 : ∀ w ∈ wsL_law_r19, w ∈ lw_tbl := List.forall_mem_cons.mpr ⟨(inK_2 _ (List.mem_of_getElem? (i := 171) rfl)), List.forall_mem_cons.mpr ⟨(inK_2 _ (List.mem_of_getElem? (i := 172) rfl)), List.forall_mem_cons.mpr ⟨(inK_2 _ (List.mem_of_getElem? (i := 173) rfl)), List.forall_mem_cons.mpr ⟨(inK_2 _ (List.mem_of_getElem? (i := 174) rfl)), List.forall_mem_cons.mpr ⟨(inK_2 _ (List.mem_of_getElem? (i := 175) rfl)), List.forall_mem_cons.mpr ⟨(inK_2 _ (List.mem_of_getElem? (i := 176) rfl)), List.forall_mem_cons.mpr ⟨(inK_2 _ (List.mem_of_getElem? (i := 177) rfl)), List.forall_mem_cons.mpr ⟨(inK_2 _ (List.mem_of_getElem? (i := 178) rfl)), List.forall_mem_cons.mpr ⟨(inK_2 _ (List.mem_of_getElem? (i := 179) rfl)), List.forall_mem_cons.mpr ⟨(inK_2 _ (List.mem_of_getElem? (i := 181) rfl)), List.forall_mem_cons.mpr ⟨(List.mem_append_left _ (List.mem_of_getElem? (i := 19) rfl)), List.forall_mem_cons.mpr ⟨(inK_2 _ (List.mem_of_getElem? (i := 182) rfl)), List.forall_mem_cons.mpr ⟨(inK_2 _ (List.mem_of_getElem? (i := 183) rfl)), List.forall_mem_cons.mpr ⟨(inK_2 _ (List.mem_of_getElem? (i := 184) rfl)), List.forall_mem_cons.mpr ⟨(inK_2 _ (List.mem_of_getElem? (i := 185) rfl)), List.forall_mem_cons.mpr ⟨(inK_2 _ (List.mem_of_getElem? (i := 186) rfl)), List.forall_mem_cons.mpr ⟨(inK_2 _ (List.mem_of_getElem? (i := 187) rfl)), List.forall_mem_cons.mpr ⟨(inK_2 _ (List.mem_of_getElem? (i := 188) rfl)), List.forall_mem_cons.mpr ⟨(inK_2 _ (List.mem_of_getElem? (i := 189) rfl)), List.forall_mem_cons.mpr ⟨(inK_2 _ (List.mem_of_getElem? (i := 190) rfl)), List.forall_mem_cons.mpr ⟨(inK_2 _ (List.mem_of_getElem? (i := 229) rfl)), List.forall_mem_cons.mpr ⟨(inK_2 _ (List.mem_of_getElem? (i := 230) rfl)), List.forall_mem_cons.mpr ⟨(inK_2 _ (List.mem_of_getElem? (i := 231) rfl)), List.forall_mem_cons.mpr ⟨(inK_2 _ (List.mem_of_getElem? (i := 232) rfl)), fun _ h => absurd h List.not_mem_nil⟩⟩⟩⟩⟩⟩⟩⟩⟩⟩⟩⟩⟩⟩⟩⟩⟩⟩⟩⟩⟩⟩⟩⟩
theorem inT_20 : ∀ w ∈ wsL_law_r20, w ∈ lw_tbl := List.forall_mem_cons.mpr ⟨(inK_3 _ (List.mem_of_getElem? (i := 1) rfl)), List.forall_mem_cons.mpr ⟨(inK_3 _ (List.mem_of_getElem? (i := 2) rfl)), List.forall_mem_cons.mpr ⟨(inK_3 _ (List.mem_of_getElem? (i := 3) rfl)), List.forall_mem_cons.mpr ⟨(inK_3 _ (List.mem_of_getElem? (i := 4) rfl)), List.forall_mem_cons.mpr ⟨(inK_3 _ (List.mem_of_getElem? (i := 5) rfl)), List.forall_mem_cons.mpr ⟨(inK_3 _ (List.mem_of_getElem? (i := 6) rfl)), List.forall_mem_cons.mpr ⟨(inK_3 _ (List.mem_of_getElem? (i := 7) rfl)), List.forall_mem_cons.mpr ⟨(inK_3 _ (List.mem_of_getElem? (i := 8) rfl)), List.forall_mem_cons.mpr ⟨(inK_2 _ (List.mem_of_getElem? (i := 216) rfl)), List.forall_mem_cons.mpr ⟨(inK_2 _ (List.mem_of_getElem? (i := 217) rfl)), List.forall_mem_cons.mpr ⟨(inK_2 _ (List.mem_of_getElem? (i := 218) rfl)), List.forall_mem_cons.mpr ⟨(inK_2 _ (List.mem_of_getElem? (i := 219) rfl)), List.forall_mem_cons.mpr ⟨(inK_2 _ (List.mem_of_getElem? (i := 224) rfl)), List.forall_mem_cons.mpr ⟨(inK_2 _ (List.mem_of_getElem? (i := 225) rfl)), List.forall_mem_cons.mpr ⟨(inK_2 _ (List.mem_of_getElem? (i := 226) rfl)), List.forall_mem_cons.mpr ⟨(inK_2 _ (List.mem_of_getElem? (i := 227) rfl)), List.forall_mem_cons.mpr ⟨(inK_2 _ (List.mem_of_getElem? (i := 228) rfl)), List.forall_mem_cons.mpr ⟨(inK_3 _ (List.mem_of_getElem? (i := 84) rfl)), List.forall_mem_cons.mpr ⟨(inK_3 _ (List.mem_of_getElem? (i := 85) rfl)), List.forall_mem_cons.mpr ⟨(inK_3 _ (List.mem_of_getElem? (i := 86) rfl)), List.forall_mem_cons.mpr ⟨(inK_3 _ (List.mem_of_getElem? (i := 87) rfl)), List.forall_mem_cons.mpr ⟨(inK_3 _ (List.mem_of_getElem? (i := 88) rfl)), List.forall_mem_cons.mpr ⟨(inK_3 _ (List.mem_of_getElem? (i := 89) rfl)), List.forall_mem_cons.mpr ⟨(inK_3 _ (List.mem_of_getElem? (i := 119) rfl)), fun _ h => absurd h List.not_mem_nil⟩⟩⟩⟩⟩⟩⟩⟩⟩⟩⟩⟩⟩⟩⟩⟩⟩⟩⟩⟩⟩⟩⟩⟩
theorem inT_21 : ∀ w ∈ wsL_law_r21, w ∈ lw_tbl := List.forall_mem_cons.mpr ⟨(inK_3 _ (List.mem_of_getElem? (i := 90) rfl)), List.forall_mem_cons.mpr ⟨(inK_3 _ (List.mem_of_getElem? (i := 91) rfl)), List.forall_mem_cons.mpr ⟨(inK_3 _ (List.mem_of_getElem? (i := 92) rfl)), List.forall_mem_cons.mpr ⟨(inK_3 _ (List.mem_of_getElem? (i := 93) rfl)), List.forall_mem_cons.mpr ⟨(inK_3 _ (List.mem_of_getElem? (i := 94) rfl)), List.forall_mem_cons.mpr ⟨(inK_3 _ (List.mem_of_getElem? (i := 95) rfl)), List.forall_mem_cons.mpr ⟨(inK_3 _ (List.mem_of_getElem? (i := 96) rfl)), List.forall_mem_cons.mpr ⟨(inK_3 _ (List.mem_of_getElem? (i := 97) rfl)), List.forall_mem_cons.mpr ⟨(inK_3 _ (List.mem_of_getElem? (i := 98) rfl)), List.forall_mem_cons.mpr ⟨(inK_3 _ (List.mem_of_getElem? (i := 100) rfl)), List.forall_mem_cons.mpr ⟨(List.mem_append_left _ (List.mem_of_getElem? (i := 22) rfl)), List.forall_mem_cons.mpr ⟨(inK_3 _ (List.mem_of_getElem? (i := 101) rfl)), List.forall_mem_cons.mpr ⟨(inK_3 _ (List.mem_of_getElem? (i := 102) rfl)), List.forall_mem_cons.mpr ⟨(inK_3 _ (List.mem_of_getElem? (i := 103) rfl)), List.forall_mem_cons.mpr ⟨(inK_3 _ (List.mem_of_getElem? (i := 104) rfl)), List.forall_mem_cons.mpr ⟨(inK_3 _ (List.mem_of_getElem? (i := 105) rfl)), List.forall_mem_cons.mpr ⟨(inK_3 _ (List.mem_of_getElem? (i := 106) rfl)), List.forall_mem_cons.mpr ⟨(inK_3 _ (List.mem_of_getElem? (i := 107) rfl)), List.forall_mem_cons.mpr ⟨(inK_3 _ (List.mem_of_getElem? (i := 108) rfl)), List.forall_mem_cons.mpr ⟨(inK_3 _ (List.mem_of_getElem? (i := 109) rfl)), List.forall_mem_cons.mpr ⟨(inK_3 _ (List.mem_of_getElem? (i := 110) rfl)), List.forall_mem_cons.mpr ⟨(inK_3 _ (List.mem_of_getElem? (i := 111) rfl)), List.forall_mem_cons.mpr ⟨(inK_3 _ (List.mem_of_getElem? (i := 112) rfl)), List.forall_mem_cons.mpr ⟨(inK_3 _ (List.mem_of_getElem? (i := 113) rfl)), fun _ h => absurd h List.not_mem_nil⟩⟩⟩⟩⟩⟩⟩⟩⟩⟩⟩⟩⟩⟩⟩⟩⟩⟩⟩⟩⟩⟩⟩⟩
theorem inT_22 : ∀ w ∈ wsL_law_r22, w ∈ lw_tbl := List.forall_mem_cons.mpr ⟨(inK_3 _ (List.mem_of_getElem? (i := 114) rfl)), List.forall_mem_cons.mpr ⟨(inK_3 _ (List.mem_of_getElem? (i := 115) rfl)), List.forall_mem_cons.mpr ⟨(inK_3 _ (List.mem_of_getElem? (i := 116) rfl)), List.forall_mem_cons.mpr ⟨(inK_3 _ (List.mem_of_getElem? (i := 117) rfl)), List.forall_mem_cons.mpr ⟨(inK_3 _ (List.mem_of_getElem? (i := 118) rfl)), List.forall_mem_cons.mpr ⟨(inK_3 _ (List.mem_of_getElem? (i := 120) rfl)), List.forall_mem_cons.mpr ⟨(inK_3 _ (List.mem_of_getElem? (i := 121) rfl)), List.forall_mem_cons.mpr ⟨(inK_3 _ (List.mem_of_getElem? (i := 122) rfl)), List.forall_mem_cons.mpr ⟨(inK_3 _ (List.mem_of_getElem? (i := 123) rfl)), List.forall_mem_cons.mpr ⟨(inK_3 _ (List.mem_of_getElem? (i := 124) rfl)), List.forall_mem_cons.mpr ⟨(inK_3 _ (List.mem_of_getElem? (i := 125) rfl)), List.forall_mem_cons.mpr ⟨(inK_3 _ (List.mem_of_getElem? (i := 126) rfl)), List.forall_mem_cons.mpr ⟨(inK_3 _ (List.mem_of_getElem? (i := 127) rfl)), List.forall_mem_cons.mpr ⟨(inK_3 _ (List.mem_of_getElem? (i := 128) rfl)), List.forall_mem_cons.mpr ⟨(inK_3 _ (List.mem_of_getElem? (i := 129) rfl)), List.forall_mem_cons.mpr ⟨(inK_3 _ (List.mem_of_getElem? (i := 130) rfl)), List.forall_mem_cons.mpr ⟨(inK_3 _ (List.mem_of_getElem? (i := 131) rfl)), List.forall_mem_cons.mpr ⟨(inK_3 _ (List.mem_of_getElem? (i := 132) rfl)), List.forall_mem_cons.mpr ⟨(inK_3 _ (List.mem_of_getElem? (i := 133) rfl)), List.forall_mem_cons.mpr ⟨(inK_3 _ (List.mem_of_getElem? (i := 134) rfl)), List.forall_mem_cons.mpr ⟨(inK_3 _ (List.mem_of_getElem? (i := 135) rfl)), List.forall_mem_cons.mpr ⟨(inK_3 _ (List.mem_of_getElem? (i := 136) rfl)), List.forall_mem_cons.mpr ⟨(inK_3 _ (List.mem_of_getElem? (i := 137) rfl)), List.forall_mem_cons.mpr ⟨(inK_3 _ (List.mem_of_getElem? (i := 138) rfl)), fun _ h => absurd h List.not_mem_nil⟩⟩⟩⟩⟩⟩⟩⟩⟩⟩⟩⟩⟩⟩⟩⟩⟩⟩⟩⟩⟩⟩⟩⟩
theorem inT_23 : ∀ w ∈ wsL_law_r23, w ∈ lw_tbl := List.forall_mem_cons.mpr ⟨(inK_3 _ (List.mem_of_getElem? (i := 139) rfl)), List.forall_mem_cons.mpr ⟨(inK_3 _ (List.mem_of_getElem? (i := 140) rfl)), List.forall_mem_cons.mpr ⟨(inK_3 _ (List.mem_of_getElem? (i := 141) rfl)), List.forall_mem_cons.mpr ⟨(inK_3 _ (List.mem_of_getElem? (i := 142) rfl)), List.forall_mem_cons.mpr ⟨(inK_3 _ (List.mem_of_getElem? (i := 143) rfl)), List.forall_mem_cons.mpr ⟨(inK_3 _ (List.mem_of_getElem? (i := 144) rfl)), List.forall_mem_cons.mpr ⟨(inK_3 _ (List.mem_of_getElem? (i := 145) rfl)), List.forall_mem_cons.mpr ⟨(inK_3 _ (List.mem_of_getElem? (i := 146) rfl)), List.forall_mem_cons.mpr ⟨(inK_3 _ (List.mem_of_getElem? (i := 147) rfl)), List.forall_mem_cons.mpr ⟨(inK_3 _ (List.mem_of_getElem? (i := 148) rfl)), List.forall_mem_cons.mpr ⟨(inK_3 _ (List.mem_of_getElem? (i := 149) rfl)), List.forall_mem_cons.mpr ⟨(inK_3 _ (List.mem_of_getElem? (i := 150) rfl)), List.forall_mem_cons.mpr ⟨(inK_3 _ (List.mem_of_getElem? (i := 151) rfl)), List.forall_mem_cons.mpr ⟨(inK_3 _ (List.mem_of_getElem? (i := 152) rfl)), List.forall_mem_cons.mpr ⟨(inK_3 _ (List.mem_of_getElem? (i := 153) rfl)), List.forall_mem_cons.mpr ⟨(inK_3 _ (List.mem_of_getElem? (i := 154) rfl)), List.forall_mem_cons.mpr ⟨(inK_3 _ (List.mem_of_getElem? (i := 155) rfl)), List.forall_mem_cons.mpr ⟨(inK_3 _ (List.mem_of_getElem? (i := 156) rfl)), List.forall_mem_cons.mpr ⟨(inK_3 _ (List.mem_of_getElem? (i := 157) rfl)), List.forall_mem_cons.mpr ⟨(inK_3 _ (List.mem_of_getElem? (i := 158) rfl)), List.forall_mem_cons.mpr ⟨(inK_3 _ (List.mem_of_getElem? (i := 159) rfl)), List.forall_mem_cons.mpr ⟨(inK_3 _ (List.mem_of_getElem? (i := 160) rfl)), List.forall_mem_cons.mpr ⟨(inK_3 _ (List.mem_of_getElem? (i := 161) rfl)), List.forall_mem_cons.mpr ⟨(inK_3 _ (List.mem_of_getElem? (i := 163) rfl)), fun _ h => absurd h List.not_mem_nil⟩⟩⟩⟩⟩⟩⟩⟩⟩⟩⟩⟩⟩⟩⟩⟩⟩⟩⟩⟩⟩⟩⟩⟩
theorem inT_24 : ∀ w ∈ wsL_law_r24, w ∈ lw_tbl := List.forall_mem_cons.mpr ⟨(List.mem_append_left _ (List.mem_of_getElem? (i := 23) rfl)), List.forall_mem_cons.mpr ⟨(inK_3 _ (List.mem_of_getElem? (i := 164) rfl)), List.forall_mem_cons.mpr ⟨(inK_3 _ (List.mem_of_getElem? (i := 165) rfl)), List.forall_mem_cons.mpr ⟨(inK_3 _ (List.mem_of_getElem? (i := 167) rfl)), List.forall_mem_cons.mpr ⟨(List.mem_append_left _ (List.mem_of_getElem? (i := 24) rfl)), List.forall_mem_cons.mpr ⟨(inK_3 _ (List.mem_of_getElem? (i := 168) rfl)), List.forall_mem_cons.mpr ⟨(inK_3 _ (List.mem_of_getElem? (i := 169) rfl)), List.forall_mem_cons.mpr ⟨(inK_3 _ (List.mem_of_getElem? (i := 170) rfl)), List.forall_mem_cons.mpr ⟨(inK_3 _ (List.mem_of_getElem? (i := 171) rfl)), List.forall_mem_cons.mpr ⟨(inK_3 _ (List.mem_of_getElem? (i := 172) rfl)), List.forall_mem_cons.mpr ⟨(inK_1 _ (List.mem_of_getElem? (i := 11) rfl)), List.forall_mem_cons.mpr ⟨(inK_3 _ (List.mem_of_getElem? (i := 173) rfl)), List.forall_mem_cons.mpr ⟨(inK_3 _ (List.mem_of_getElem? (i := 174) rfl)), List.forall_mem_cons.mpr ⟨(inK_3 _ (List.mem_of_getElem? (i := 175) rfl)), List.forall_mem_cons.mpr ⟨(inK_3 _ (List.mem_of_getElem? (i := 176) rfl)), List.forall_mem_cons.mpr ⟨(inK_3 _ (List.mem_of_getElem? (i := 177) rfl)), List.forall_mem_cons.mpr ⟨(inK_3 _ (List.mem_of_getElem? (i := 178) rfl)), List.forall_mem_cons.mpr ⟨(inK_3 _ (List.mem_of_getElem? (i := 179) rfl)), List.forall_mem_cons.mpr ⟨(inK_3 _ (List.mem_of_getElem? (i := 180) rfl)), List.forall_mem_cons.mpr ⟨(inK_3 _ (List.mem_of_getElem? (i := 181) rfl)), List.forall_mem_cons.mpr ⟨(inK_3 _ (List.mem_of_getElem? (i := 182) rfl)), List.forall_mem_cons.mpr ⟨(inK_3 _ (List.mem_of_getElem? (i := 183) rfl)), List.forall_mem_cons.mpr ⟨(inK_3 _ (List.mem_of_getElem? (i := 184) rfl)), List.forall_mem_cons.mpr ⟨(inK_3 _ (List.mem_of_getElem? (i := 185) rfl)), fun _ h => absurd h List.not_mem_nil⟩⟩⟩⟩⟩⟩⟩⟩⟩⟩⟩⟩⟩⟩⟩⟩⟩⟩⟩⟩⟩⟩⟩⟩
theorem inT_25 : ∀ w ∈ wsL_law_r25, w ∈ lw_tbl := List.forall_mem_cons.mpr ⟨(inK_3 _ (List.mem_of_getElem? (i := 186) rfl)), List.forall_mem_cons.mpr ⟨(inK_3 _ (List.mem_of_getElem? (i := 187) rfl)), List.forall_mem_cons.mpr ⟨(inK_3 _ (List.mem_of_getElem? (i := 188) rfl)), List.forall_mem_cons.mpr ⟨(inK_3 _ (List.mem_of_getElem? (i := 189) rfl)), List.forall_mem_cons.mpr ⟨(inK_3 _ (List.mem_of_getElem? (i := 190) rfl)), List.forall_mem_cons.mpr ⟨(inK_3 _ (List.mem_of_getElem? (i := 191) rfl)), List.forall_mem_cons.mpr ⟨(inK_3 _ (List.mem_of_getElem? (i := 192) rfl)), List.forall_mem_cons.mpr ⟨(inK_3 _ (List.mem_of_getElem? (i := 193) rfl)), List.forall_mem_cons.mpr ⟨(inK_3 _ (List.mem_of_getElem? (i := 194) rfl)), List.forall_mem_cons.mpr ⟨(inK_3 _ (List.mem_of_getElem? (i := 195) rfl)), List.forall_mem_cons.mpr ⟨(inK_3 _ (List.mem_of_getElem? (i := 196) rfl)), List.forall_mem_cons.mpr ⟨(inK_3 _ (List.mem_of_getElem? (i := 197) rfl)), List.forall_mem_cons.mpr ⟨(inK_3 _ (List.mem_of_getElem? (i := 198) rfl)), List.forall_mem_cons.mpr ⟨(inK_3 _ (List.mem_of_getElem? (i := 199) rfl)), List.forall_mem_cons.mpr ⟨(inK_3 _ (List.mem_of_getElem? (i := 201) rfl)), List.forall_mem_cons.mpr ⟨(inK_3 _ (List.mem_of_getElem? (i := 202) rfl)), List.forall_mem_cons.mpr ⟨(inK_3 _ (List.mem_of_getElem? (i := 203) rfl)), List.forall_mem_cons.mpr ⟨(inK_3 _ (List.mem_of_getElem? (i := 204) rfl)), List.forall_mem_cons.mpr ⟨(inK_3 _ (List.mem_of_getElem? (i := 205) rfl)), List.forall_mem_cons.mpr ⟨(inK_3 _ (List.mem_of_getElem? (i := 206) rfl)), List.forall_mem_cons.mpr ⟨(inK_3 _ (List.mem_of_getElem? (i := 207) rfl)), List.forall_mem_cons.mpr ⟨(inK_3 _ (List.mem_of_getElem? (i := 208) rfl)), List.forall_mem_cons.mpr ⟨(inK_3 _ (List.mem_of_getElem? (i := 209) rfl)), List.forall_mem_cons.mpr ⟨(inK_3 _ (List.mem_of_getElem? (i := 210) rfl)), fun _ h => absurd h List.not_mem_nil⟩⟩⟩⟩⟩⟩⟩⟩⟩⟩⟩⟩⟩⟩⟩⟩⟩⟩⟩⟩⟩⟩⟩⟩
theorem inT_26 : ∀ w ∈ wsL_law_r26, w ∈ lw_tbl := List.forall_mem_cons.mpr ⟨(inK_3 _ (List.mem_of_getElem? (i := 211) rfl)), List.forall_mem_cons.mpr ⟨(inK_3 _ (List.mem_of_getElem? (i := 212) rfl)), List.forall_mem_cons.mpr ⟨(inK_3 _ (List.mem_of_getElem? (i := 213) rfl)), List.forall_mem_cons.mpr ⟨(inK_3 _ (List.mem_of_getElem? (i := 216) rfl)), List.forall_mem_cons.mpr ⟨(inK_3 _ (List.mem_of_getElem? (i := 217) rfl)), List.forall_mem_cons.mpr ⟨(inK_3 _ (List.mem_of_getElem? (i := 218) rfl)), List.forall_mem_cons.mpr ⟨(inK_3 _ (List.mem_of_getElem? (i := 219) rfl)), List.forall_mem_cons.mpr ⟨(inK_3 _ (List.mem_of_getElem? (i := 220) rfl)), List.forall_mem_cons.mpr ⟨(inK_3 _ (List.mem_of_getElem? (i := 221) rfl)), List.forall_mem_cons.mpr ⟨(inK_3 _ (List.mem_of_getElem? (i := 222) rfl)), List.forall_mem_cons.mpr ⟨(inK_3 _ (List.mem_of_getElem? (i := 223) rfl)), List.forall_mem_cons.mpr ⟨(inK_3 _ (List.mem_of_getElem? (i := 224) rfl)), List.forall_mem_cons.mpr ⟨(inK_3 _ (List.mem_of_getElem? (i := 225) rfl)), List.forall_mem_cons.mpr ⟨(inK_3 _ (List.mem_of_getElem? (i := 226) rfl)), List.forall_mem_cons.mpr ⟨(inK_3 _ (List.mem_of_getElem? (i := 227) rfl)), List.forall_mem_cons.mpr ⟨(inK_3 _ (List.mem_of_getElem? (i := 228) rfl)), List.forall_mem_cons.mpr ⟨(inK_3 _ (List.mem_of_getElem? (i := 229) rfl)), List.forall_mem_cons.mpr ⟨(inK_3 _ (List.mem_of_getElem? (i := 230) rfl)), List.forall_mem_cons.mpr ⟨(inK_3 _ (List.mem_of_getElem? (i := 231) rfl)), List.forall_mem_cons.mpr ⟨(inK_3 _ (List.mem_of_getElem? (i := 232) rfl)), List.forall_mem_cons.mpr ⟨(inK_3 _ (List.mem_of_getElem? (i := 233) rfl)), List.forall_mem_cons.mpr ⟨(inK_2 _ (List.mem_of_getElem? (i := 212) rfl)), List.forall_mem_cons.mpr ⟨(inK_2 _ (List.mem_of_getElem? (i := 213) rfl)), List.forall_mem_cons.mpr ⟨(inK_2 _ (List.mem_of_getElem? (i := 214) rfl)), fun _ h => absurd h List.not_mem_nil⟩⟩⟩⟩⟩⟩⟩⟩⟩⟩⟩⟩⟩⟩⟩⟩⟩⟩⟩⟩⟩⟩⟩⟩
theorem inT_27 : ∀ w ∈ wsL_law_r27, w ∈ lw_tbl := List.forall_mem_cons.mpr ⟨(inK_2 _ (List.mem_of_getElem? (i := 215) rfl)), List.forall_mem_cons.mpr ⟨(inK_3 _ (List.mem_of_getElem? (i := 234) rfl)), List.forall_mem_cons.mpr ⟨(inK_3 _ (List.mem_of_getElem? (i := 235) rfl)), List.forall_mem_cons.mpr ⟨(inK_3 _ (List.mem_of_getElem? (i := 236) rfl)), List.forall_mem_cons.mpr ⟨(inK_3 _ (List.mem_of_getElem? (i := 237) rfl)), List.forall_mem_cons.mpr ⟨(inK_3 _ (List.mem_of_getElem? (i := 238) rfl)), List.forall_mem_cons.mpr ⟨(inK_3 _ (List.mem_of_getElem? (i := 239) rfl)), List.forall_mem_cons.mpr ⟨(inK_4 _ (List.mem_of_getElem? (i := 0) rfl)), fun _ h => absurd h List.not_mem_nil⟩⟩⟩⟩⟩⟩⟩⟩
set_option maxRecDepth 20000 in
theorem inF_X0 : ∀ w ∈ wsX00, w ∈ lw_tbl := by decide +kernel
set_option maxRecDepth 20000 in
theorem inF_X1 : ∀ w ∈ wsX10, w ∈ lw_tbl := by decide +kernel
set_option maxRecDepth 20000 in
theorem inF_X2 : ∀ w ∈ wsX20, w ∈ lw_tbl := by decide +kernel
set_option maxRecDepth 20000 in
theorem inF_X3 : ∀ w ∈ wsX30, w ∈ lw_tbl := by decide +kernel
set_option maxRecDepth 20000 in
theorem inF_X4 : ∀ w ∈ wsX40, w ∈ lw_tbl := by decide +kernel
theorem wsL_law_in : ∀ w ∈ wsL_law, w ∈ lw_tbl := (fun w h => (List.mem_append.mp h).elim ((fun w h => (List.mem_append.mp h).elim ((fun w h => (List.mem_append.mp h).elim ((fun w h => (List.mem_append.mp h).elim ((fun w h => (List.mem_append.mp h).elim ((fun w h => (List.mem_append.mp h).elim ((fun w h => (List.mem_append.mp h).elim (inT_1 w) ((fun w h => (List.mem_append.mp h).elim (inT_2 w) ((fun w h => (List.mem_append.mp h).elim (inT_3 w) ((fun w h => (List.mem_append.mp h).elim (inT_4 w) ((fun w h => (List.mem_append.mp h).elim (inT_5 w) ((fun w h => (List.mem_append.mp h).elim (inT_6 w) ((fun w h => (List.mem_append.mp h).elim (inT_7 w) ((fun w h => (List.mem_append.mp h).elim (inT_8 w) ((fun w h => (List.mem_append.mp h).elim (inT_9 w) ((fun w h => (List.mem_append.mp h).elim (inT_10 w) ((fun w h => (List.mem_append.mp h).elim (inT_11 w) ((fun w h => (List.mem_append.mp h).elim (inT_12 w) ((fun w h => (List.mem_append.mp h).elim (inT_13 w) ((fun w h => (List.mem_append.mp h).elim (inT_14 w) ((fun w h => (List.mem_append.mp h).elim (inT_15 w) ((fun w h => (List.mem_append.mp h).elim (inT_16 w) ((fun w h => (List.mem_append.mp h).elim (inT_17 w) ((fun w h => (List.mem_append.mp h).elim (inT_18 w) ((fun w h => (List.mem_append.mp h).elim (inT_19 w) ((fun w h => (List.mem_append.mp h).elim (inT_20 w) ((fun w h => (List.mem_append.mp h).elim (inT_21 w) ((fun w h => (List.mem_append.mp h).elim (inT_22 w) ((fun w h => (List.mem_append.mp h).elim (inT_23 w) ((fun w h => (List.mem_append.mp h).elim (inT_24 w) ((fun w h => (List.mem_append.mp h).elim (inT_25 w) ((fun w h => (List.mem_append.mp h).elim (inT_26 w) (inT_27 w)) w)) w)) w)) w)) w)) w)) w)) w)) w)) w)) w)) w)) w)) w)) w)) w)) w)) w)) w)) w)) w)) w)) w)) w)) w)) w) (inF_X4 w)) w) (inF_X3 w)) w) (inF_X2 w)) w) (inF_X0 w)) w) (inF_X1 w)) w) ((fun _ h => absurd h List.not_mem_nil) w))
theorem inlX0 : ∀ w ∈ wsX00, w ∈ wsL_law := fun _ h => List.mem_append_left _ (List.mem_append_left _ (List.mem_append_right _ h))
theorem inX0 : ∀ w ∈ wsX00, w ∈ lw_tbl := fun w h => wsL_law_in w (inlX0 w h)
theorem inlX1 : ∀ w ∈ wsX10, w ∈ wsL_law := fun _ h => List.mem_append_left _ (List.mem_append_right _ h)
theorem inX1 : ∀ w ∈ wsX10, w ∈ lw_tbl := fun w h => wsL_law_in w (inlX1 w h)
theorem inlX2 : ∀ w ∈ wsX20, w ∈ wsL_law := fun _ h => List.mem_append_left _ (List.mem_append_left _ (List.mem_append_left _ (List.mem_append_right _ h)))
theorem inX2 : ∀ w ∈ wsX20, w ∈ lw_tbl := fun w h => wsL_law_in w (inlX2 w h)
theorem inlX3 : ∀ w ∈ wsX30, w ∈ wsL_law := fun _ h => List.mem_append_left _ (List.mem_append_left _ (List.mem_append_left _ (List.mem_append_left _ (List.mem_append_right _ h))))
theorem inX3 : ∀ w ∈ wsX30, w ∈ lw_tbl := fun w h => wsL_law_in w (inlX3 w h)
theorem inlX4 : ∀ w ∈ wsX40, w ∈ wsL_law := fun _ h => List.mem_append_left _ (List.mem_append_left _ (List.mem_append_left _ (List.mem_append_left _ (List.mem_append_left _ (List.mem_append_right _ h)))))
theorem inX4 : ∀ w ∈ wsX40, w ∈ lw_tbl := fun w h => wsL_law_in w (inlX4 w h)
theorem inX5 : ∀ w ∈ wsX50, w ∈ lw_tbl := by decide +kernel
theorem inJ6 : ∀ w ∈ wsJ60, w ∈ lw_tbl := by decide +kernel
theorem inJ9 : ∀ w ∈ wsJ90, w ∈ lw_tbl := by decide +kernel
theorem inJ0 : ∀ w ∈ wsJ00, w ∈ lw_tbl := by decide +kernel
theorem inJ1 : ∀ w ∈ wsJ10, w ∈ lw_tbl := by decide +kernel
theorem inJ2 : ∀ w ∈ wsJ20, w ∈ lw_tbl := by decide +kernel
theorem inJ3 : ∀ w ∈ wsJ30, w ∈ lw_tbl := by decide +kernel
abbrev vwCl : List vw_C := [(RX0, TX0, 6), (RX1, TX1, 2), (RX2, TX2, 3), (RX3, TX3, 6), (RX4, TX4, 10)]
/-! the law's words, list by list -/
theorem inB_1 : ∀ w ∈ wsL_law_r1, w ∈ wsL_law := fun _ h => List.mem_append_left _ (List.mem_append_left _ (List.mem_append_left _ (List.mem_append_left _ (List.mem_append_left _ (List.mem_append_left _ (List.mem_append_left _ h))))))
theorem inB_2 : ∀ w ∈ wsL_law_r2, w ∈ wsL_law := fun _ h => List.mem_append_left _ (List.mem_append_left _ (List.mem_append_left _ (List.mem_append_left _ (List.mem_append_left _ (List.mem_append_left _ (List.mem_append_right _ (List.mem_append_left _ h)))))))
theorem inB_3 : ∀ w ∈ wsL_law_r3, w ∈ wsL_law := fun _ h => List.mem_append_left _ (List.mem_append_left _ (List.mem_append_left _ (List.mem_append_left _ (List.mem_append_left _ (List.mem_append_left _ (List.mem_append_right _ (List.mem_append_right _ (List.mem_append_left _ h))))))))
theorem inB_4 : ∀ w ∈ wsL_law_r4, w ∈ wsL_law := fun _ h => List.mem_append_left _ (List.mem_append_left _ (List.mem_append_left _ (List.mem_append_left _ (List.mem_append_left _ (List.mem_append_left _ (List.mem_append_right _ (List.mem_append_right _ (List.mem_append_right _ (List.mem_append_left _ h)))))))))
theorem inB_5 : ∀ w ∈ wsL_law_r5, w ∈ wsL_law := fun _ h => List.mem_append_left _ (List.mem_append_left _ (List.mem_append_left _ (List.mem_append_left _ (List.mem_append_left _ (List.mem_append_left _ (List.mem_append_right _ (List.mem_append_right _ (List.mem_append_right _ (List.mem_append_right _ (List.mem_append_left _ h))))))))))
theorem inB_6 : ∀ w ∈ wsL_law_r6, w ∈ wsL_law := fun _ h => List.mem_append_left _ (List.mem_append_left _ (List.mem_append_left _ (List.mem_append_left _ (List.mem_append_left _ (List.mem_append_left _ (List.mem_append_right _ (List.mem_append_right _ (List.mem_append_right _ (List.mem_append_right _ (List.mem_append_right _ (List.mem_append_left _ h)))))))))))
theorem inB_7 : ∀ w ∈ wsL_law_r7, w ∈ wsL_law := fun _ h => List.mem_append_left _ (List.mem_append_left _ (List.mem_append_left _ (List.mem_append_left _ (List.mem_append_left _ (List.mem_append_left _ (List.mem_append_right _ (List.mem_append_right _ (List.mem_append_right _ (List.mem_append_right _ (List.mem_append_right _ (List.mem_append_right _ (List.mem_append_left _ h))))))))))))
theorem inB_8 : ∀ w ∈ wsL_law_r8, w ∈ wsL_law := fun _ h => List.mem_append_left _ (List.mem_append_left _ (List.mem_append_left _ (List.mem_append_left _ (List.mem_append_left _ (List.mem_append_left _ (List.mem_append_right _ (List.mem_append_right _ (List.mem_append_right _ (List.mem_append_right _ (List.mem_append_right _ (List.mem_append_right _ (List.mem_append_right _ (List.mem_append_left _ h)))))))))))))
theorem inB_9 : ∀ w ∈ wsL_law_r9, w ∈ wsL_law := fun _ h => List.mem_append_left _ (List.mem_append_left _ (List.mem_append_left _ (List.mem_append_left _ (List.mem_append_left _ (List.mem_append_left _ (List.mem_append_right _ (List.mem_append_right _ (List.mem_append_right _ (List.mem_append_right _ (List.mem_append_right _ (List.mem_append_right _ (List.mem_append_right _ (List.mem_append_right _ (List.mem_append_left _ h))))))))))))))
theorem inB_10 : ∀ w ∈ wsL_law_r10, w ∈ wsL_law := fun _ h => List.mem_append_left _ (List.mem_append_left _ (List.mem_append_left _ (List.mem_append_left _ (List.mem_append_left _ (List.mem_append_left _ (List.mem_append_right _ (List.mem_append_right _ (List.mem_append_right _ (List.mem_append_right _ (List.mem_append_right _ (List.mem_append_right _ (List.mem_append_right _ (List.mem_append_right _ (List.mem_append_right _ (List.mem_append_left _ h)))))))))))))))
theorem inB_11 : ∀ w ∈ wsL_law_r11, w ∈ wsL_law := fun _ h => List.mem_append_left _ (List.mem_append_left _ (List.mem_append_left _ (List.mem_append_left _ (List.mem_append_left _ (List.mem_append_left _ (List.mem_append_right _ (List.mem_append_right _ (List.mem_append_right _ (List.mem_append_right _ (List.mem_append_right _ (List.mem_append_right _ (List.mem_append_right _ (List.mem_append_right _ (List.mem_append_right _ (List.mem_append_right _ (List.mem_append_left _ h))))))))))))))))
theorem inB_12 : ∀ w ∈ wsL_law_r12, w ∈ wsL_law := fun _ h => List.mem_append_left _ (List.mem_append_left _ (List.mem_append_left _ (List.mem_append_left _ (List.mem_append_left _ (List.mem_append_left _ (List.mem_append_right _ (List.mem_append_right _ (List.mem_append_right _ (List.mem_append_right _ (List.mem_append_right _ (List.mem_append_right _ (List.mem_append_right _ (List.mem_append_right _ (List.mem_append_right _ (List.mem_append_right _ (List.mem_append_right _ (List.mem_append_left _ h)))))))))))))))))
theorem inB_13 : ∀ w ∈ wsL_law_r13, w ∈ wsL_law := fun _ h => List.mem_append_left _ (List.mem_append_left _ (List.mem_append_left _ (List.mem_append_left _ (List.mem_append_left _ (List.mem_append_left _ (List.mem_append_right _ (List.mem_append_right _ (List.mem_append_right _ (List.mem_append_right _ (List.mem_append_right _ (List.mem_append_right _ (List.mem_append_right _ (List.mem_append_right _ (List.mem_append_right _ (List.mem_append_right _ (List.mem_append_right _ (List.mem_append_right _ (List.mem_append_left _ h))))))))))))))))))
theorem inB_14 : ∀ w ∈ wsL_law_r14, w ∈ wsL_law := fun _ h => List.mem_append_left _ (List.mem_append_left _ (List.mem_append_left _ (List.mem_append_left _ (List.mem_append_left _ (List.mem_append_left _ (List.mem_append_right _ (List.mem_append_right _ (List.mem_append_right _ (List.mem_append_right _ (List.mem_append_right _ (List.mem_append_right _ (List.mem_append_right _ (List.mem_append_right _ (List.mem_append_right _ (List.mem_append_right _ (List.mem_append_right _ (List.mem_append_right _ (List.mem_append_right _ (List.mem_append_left _ h)))))))))))))))))))
theorem inB_15 : ∀ w ∈ wsL_law_r15, w ∈ wsL_law := fun _ h => List.mem_append_left _ (List.mem_append_left _ (List.mem_append_left _ (List.mem_append_left _ (List.mem_append_left _ (List.mem_append_left _ (List.mem_append_right _ (List.mem_append_right _ (List.mem_append_right _ (List.mem_append_right _ (List.mem_append_right _ (List.mem_append_right _ (List.mem_append_right _ (List.mem_append_right _ (List.mem_append_right _ (List.mem_append_right _ (List.mem_append_right _ (List.mem_append_right _ (List.mem_append_right _ (List.mem_append_right _ (List.mem_append_left _ h))))))))))))))))))))
theorem inB_16 : ∀ w ∈ wsL_law_r16, w ∈ wsL_law := fun _ h => List.mem_append_left _ (List.mem_append_left _ (List.mem_append_left _ (List.mem_append_left _ (List.mem_append_left _ (List.mem_append_left _ (List.mem_append_right _ (List.mem_append_right _ (List.mem_append_right _ (List.mem_append_right _ (List.mem_append_right _ (List.mem_append_right _ (List.mem_append_right _ (List.mem_append_right _ (List.mem_append_right _ (List.mem_append_right _ (List.mem_append_right _ (List.mem_append_right _ (List.mem_append_right _ (List.mem_append_right _ (List.mem_append_right _ (List.mem_append_left _ h)))))))))))))))))))))
theorem inB_17 : ∀ w ∈ wsL_law_r17, w ∈ wsL_law := fun _ h => List.mem_append_left _ (List.mem_append_left _ (List.mem_append_left _ (List.mem_append_left _ (List.mem_append_left _ (List.mem_append_left _ (List.mem_append_right _ (List.mem_append_right _ (List.mem_append_right _ (List.mem_append_right _ (List.mem_append_right _ (List.mem_append_right _ (List.mem_append_right _ (List.mem_append_right _ (List.mem_append_right _ (List.mem_append_right _ (List.mem_append_right _ (List.mem_append_right _ (List.mem_append_right _ (List.mem_append_right _ (List.mem_append_right _ (List.mem_append_right _ (List.mem_append_left _ h))))))))))))))))))))))
theorem inB_18 : ∀ w ∈ wsL_law_r18, w ∈ wsL_law := fun _ h => List.mem_append_left _ (List.mem_append_left _ (List.mem_append_left _ (List.mem_append_left _ (List.mem_append_left _ (List.mem_append_left _ (List.mem_append_right _ (List.mem_append_right _ (List.mem_append_right _ (List.mem_append_right _ (List.mem_append_right _ (List.mem_append_right _ (List.mem_append_right _ (List.mem_append_right _ (List.mem_append_right _ (List.mem_append_right _ (List.mem_append_right _ (List.mem_append_right _ (List.mem_append_right _ (List.mem_append_right _ (List.mem_append_right _ (List.mem_append_right _ (List.mem_append_right _ (List.mem_append_left _ h)))))))))))))))))))))))
theorem inB_19 : ∀ w ∈ wsL_law_r19, w ∈ wsL_law := fun _ h => List.mem_append_left _ (List.mem_append_left _ (List.mem_append_left _ (List.mem_append_left _ (List.mem_append_left _ (List.mem_append_left _ (List.mem_append_right _ (List.mem_append_right _ (List.mem_append_right _ (List.mem_append_right _ (List.mem_append_right _ (List.mem_append_right _ (List.mem_append_right _ (List.mem_append_right _ (List.mem_append_right _ (List.mem_append_right _ (List.mem_append_right _ (List.mem_append_right _ (List.mem_append_right _ (List.mem_append_right _ (List.mem_append_right _ (List.mem_append_right _ (List.mem_append_right _ (List.mem_append_right _ (List.mem_append_left _ h))))))))))))))))))))))))
theorem inB_20 : ∀ w ∈ wsL_law_r20, w ∈ wsL_law := fun _ h => List.mem_append_left _ (List.mem_append_left _ (List.mem_append_left _ (List.mem_append_left _ (List.mem_append_left _ (List.mem_append_left _ (List.mem_append_right _ (List.mem_append_right _ (List.mem_append_right _ (List.mem_append_right _ (List.mem_append_right _ (List.mem_append_right _ (List.mem_append_right _ (List.mem_append_right _ (List.mem_append_right _ (List.mem_append_right _ (List.mem_append_right _ (List.mem_append_right _ (List.mem_append_right _ (List.mem_append_right _ (List.mem_append_right _ (List.mem_append_right _ (List.mem_append_right _ (List.mem_append_right _ (List.mem_append_right _ (List.mem_append_left _ h)))))))))))))))))))))))))
theorem inB_21 : ∀ w ∈ wsL_law_r21, w ∈ wsL_law := fun _ h => List.mem_append_left _ (List.mem_append_left _ (List.mem_append_left _ (List.mem_append_left _ (List.mem_append_left _ (List.mem_append_left _ (List.mem_append_right _ (List.mem_append_right _ (List.mem_append_right _ (List.mem_append_right _ (List.mem_append_right _ (List.mem_append_right _ (List.mem_append_right _ (List.mem_append_right _ (List.mem_append_right _ (List.mem_append_right _ (List.mem_append_right _ (List.mem_append_right _ (List.mem_append_right _ (List.mem_append_right _ (List.mem_append_right _ (List.mem_append_right _ (List.mem_append_right _ (List.mem_append_right _ (List.mem_append_right _ (List.mem_append_right _ (List.mem_append_left _ h))))))))))))))))))))))))))
theorem inB_22 : ∀ w ∈ wsL_law_r22, w ∈ wsL_law := fun _ h => List.mem_append_left _ (List.mem_append_left _ (List.mem_append_left _ (List.mem_append_left _ (List.mem_append_left _ (List.mem_append_left _ (List.mem_append_right _ (List.mem_append_right _ (List.mem_append_right _ (List.mem_append_right _ (List.mem_append_right _ (List.mem_append_right _ (List.mem_append_right _ (List.mem_append_right _ (List.mem_append_right _ (List.mem_append_right _ (List.mem_append_right _ (List.mem_append_right _ (List.mem_append_right _ (List.mem_append_right _ (List.mem_append_right _ (List.mem_append_right _ (List.mem_append_right _ (List.mem_append_right _ (List.mem_append_right _ (List.mem_append_right _ (List.mem_append_right _ (List.mem_append_left _ h)))))))))))))))))))))))))))
theorem inB_23 : ∀ w ∈ wsL_law_r23, w ∈ wsL_law := fun _ h => List.mem_append_left _ (List.mem_append_left _ (List.mem_append_left _ (List.mem_append_left _ (List.mem_append_left _ (List.mem_append_left _ (List.mem_append_right _ (List.mem_append_right _ (List.mem_append_right _ (List.mem_append_right _ (List.mem_append_right _ (List.mem_append_right _ (List.mem_append_right _ (List.mem_append_right _ (List.mem_append_right _ (List.mem_append_right _ (List.mem_append_right _ (List.mem_append_right _ (List.mem_append_right _ (List.mem_append_right _ (List.mem_append_right _ (List.mem_append_right _ (List.mem_append_right _ (List.mem_append_right _ (List.mem_append_right _ (List.mem_append_right _ (List.mem_append_right _ (List.mem_append_right _ (List.mem_append_left _ h))))))))))))))))))))))))))))
theorem inB_24 : ∀ w ∈ wsL_law_r24, w ∈ wsL_law := fun _ h => List.mem_append_left _ (List.mem_append_left _ (List.mem_append_left _ (List.mem_append_left _ (List.mem_append_left _ (List.mem_append_left _ (List.mem_append_right _ (List.mem_append_right _ (List.mem_append_right _ (List.mem_append_right _ (List.mem_append_right _ (List.mem_append_right _ (List.mem_append_right _ (List.mem_append_right _ (List.mem_append_right _ (List.mem_append_right _ (List.mem_append_right _ (List.mem_append_right _ (List.mem_append_right _ (List.mem_append_right _ (List.mem_append_right _ (List.mem_append_right _ (List.mem_append_right _ (List.mem_append_right _ (List.mem_append_right _ (List.mem_append_right _ (List.mem_append_right _ (List.mem_append_right _ (List.mem_append_right _ (List.mem_append_left _ h)))))))))))))))))))))))))))))
theorem inB_25 : ∀ w ∈ wsL_law_r25, w ∈ wsL_law := fun _ h => List.mem_append_left _ (List.mem_append_left _ (List.mem_append_left _ (List.mem_append_left _ (List.mem_append_left _ (List.mem_append_left _ (List.mem_append_right _ (List.mem_append_right _ (List.mem_append_right _ (List.mem_append_right _ (List.mem_append_right _ (List.mem_append_right _ (List.mem_append_right _ (List.mem_append_right _ (List.mem_append_right _ (List.mem_append_right _ (List.mem_append_right _ (List.mem_append_right _ (List.mem_append_right _ (List.mem_append_right _ (List.mem_append_right _ (List.mem_append_right _ (List.mem_append_right _ (List.mem_append_right _ (List.mem_append_right _ (List.mem_append_right _ (List.mem_append_right _ (List.mem_append_right _ (List.mem_append_right _ (List.mem_append_right _ (List.mem_append_left _ h))))))))))))))))))))))))))))))
theorem inB_26 : ∀ w ∈ wsL_law_r26, w ∈ wsL_law := fun _ h => List.mem_append_left _ (List.mem_append_left _ (List.mem_append_left _ (List.mem_append_left _ (List.mem_append_left _ (List.mem_append_left _ (List.mem_append_right _ (List.mem_append_right _ (List.mem_append_right _ (List.mem_append_right _ (List.mem_append_right _ (List.mem_append_right _ (List.mem_append_right _ (List.mem_append_right _ (List.mem_append_right _ (List.mem_append_right _ (List.mem_append_right _ (List.mem_append_right _ (List.mem_append_right _ (List.mem_append_right _ (List.mem_append_right _ (List.mem_append_right _ (List.mem_append_right _ (List.mem_append_right _ (List.mem_append_right _ (List.mem_append_right _ (List.mem_append_right _ (List.mem_append_right _ (List.mem_append_right _ (List.mem_append_right _ (List.mem_append_right _ (List.mem_append_left _ h)))))))))))))))))))))))))))))))
theorem inB_27 : ∀ w ∈ wsL_law_r27, w ∈ wsL_law := fun _ h => List.mem_append_left _ (List.mem_append_left _ (List.mem_append_left _ (List.mem_append_left _ (List.mem_append_left _ (List.mem_append_left _ (List.mem_append_right _ (List.mem_append_right _ (List.mem_append_right _ (List.mem_append_right _ (List.mem_append_right _ (List.mem_append_right _ (List.mem_append_right _ (List.mem_append_right _ (List.mem_append_right _ (List.mem_append_right _ (List.mem_append_right _ (List.mem_append_right _ (List.mem_append_right _ (List.mem_append_right _ (List.mem_append_right _ (List.mem_append_right _ (List.mem_append_right _ (List.mem_append_right _ (List.mem_append_right _ (List.mem_append_right _ (List.mem_append_right _ (List.mem_append_right _ (List.mem_append_right _ (List.mem_append_right _ (List.mem_append_right _ (List.mem_append_right _ (h))))))))))))))))))))))))))))))))
end
section
theorem dX0_init_0 : decode cX0_init 0 = .ok (.aload_n 0, 1) := by decide +kernel
theorem dX0_init_1 : decode cX0_init 1 = .ok (.invokespecial 3, 3) := by decide +kernel
theorem dX0_init_4 : decode cX0_init 4 = .ok (.aload_n 0, 1) := by decide +kernel
theorem dX0_init_5 : decode cX0_init 5 = .ok (.bipush 60, 2) := by decide +kernel
theorem dX0_init_7 : decode cX0_init 7 = .ok (.newarray .int, 2) := by decide +kernel
theorem dX0_init_9 : decode cX0_init 9 = .ok (.putfield 9, 3) := by decide +kernel
theorem dX0_init_12 : decode cX0_init 12 = .ok (.aload_n 0, 1) := by decide +kernel
theorem dX0_init_13 : decode cX0_init 13 = .ok (.iconst 0, 1) := by decide +kernel
theorem dX0_init_14 : decode cX0_init 14 = .ok (.putfield 15, 3) := by decide +kernel
theorem dX0_init_17 : decode cX0_init 17 = .ok (.aload_n 0, 1) := by decide +kernel
theorem dX0_init_18 : decode cX0_init 18 = .ok (.bipush 40, 2) := by decide +kernel
theorem dX0_init_20 : decode cX0_init 20 = .ok (.newarray .int, 2) := by decide +kernel
theorem dX0_init_22 : decode cX0_init 22 = .ok (.putfield 19, 3) := by decide +kernel
theorem dX0_init_25 : decode cX0_init 25 = .ok (.aload_n 0, 1) := by decide +kernel
theorem dX0_init_26 : decode cX0_init 26 = .ok (.iconst 0, 1) := by decide +kernel
theorem dX0_init_27 : decode cX0_init 27 = .ok (.putfield 22, 3) := by decide +kernel
theorem dX0_init_30 : decode cX0_init 30 = .ok (.aload_n 0, 1) := by decide +kernel
theorem dX0_init_31 : decode cX0_init 31 = .ok (.iconst 0, 1) := by decide +kernel
theorem dX0_init_32 : decode cX0_init 32 = .ok (.putfield 25, 3) := by decide +kernel
theorem dX0_init_35 : decode cX0_init 35 = .ok (.aload_n 0, 1) := by decide +kernel
theorem dX0_init_36 : decode cX0_init 36 = .ok (.iconst 0, 1) := by decide +kernel
theorem dX0_init_37 : decode cX0_init 37 = .ok (.putfield 28, 3) := by decide +kernel
theorem dX0_init_40 : decode cX0_init 40 = .ok (.return_, 1) := by decide +kernel
theorem dX0_size_0 : decode cX0_size 0 = .ok (.aload_n 0, 1) := by decide +kernel
theorem dX0_size_1 : decode cX0_size 1 = .ok (.getfield 15, 3) := by decide +kernel
theorem dX0_size_4 : decode cX0_size 4 = .ok (.ireturn, 1) := by decide +kernel
theorem dX0_addCode_0 : decode cX0_addCode 0 = .ok (.aload_n 0, 1) := by decide +kernel
theorem dX0_addCode_1 : decode cX0_addCode 1 = .ok (.getfield 15, 3) := by decide +kernel
theorem dX0_addCode_4 : decode cX0_addCode 4 = .ok (.bipush 60, 2) := by decide +kernel
theorem dX0_addCode_6 : decode cX0_addCode 6 = .ok (.if_icmp .lt 6, 3) := by decide +kernel
theorem dX0_addCode_9 : decode cX0_addCode 9 = .ok (.bipush (-13), 2) := by decide +kernel
theorem dX0_addCode_11 : decode cX0_addCode 11 = .ok (.ireturn, 1) := by decide +kernel
theorem dX0_addCode_12 : decode cX0_addCode 12 = .ok (.aload_n 0, 1) := by decide +kernel
theorem dX0_addCode_13 : decode cX0_addCode 13 = .ok (.getfield 9, 3) := by decide +kernel
theorem dX0_addCode_16 : decode cX0_addCode 16 = .ok (.aload_n 0, 1) := by decide +kernel
theorem dX0_addCode_17 : decode cX0_addCode 17 = .ok (.getfield 15, 3) := by decide +kernel
theorem dX0_addCode_20 : decode cX0_addCode 20 = .ok (.iload_n 1, 1) := by decide +kernel
theorem dX0_addCode_21 : decode cX0_addCode 21 = .ok (.invokestatic 31, 3) := by decide +kernel
theorem dX0_addCode_24 : decode cX0_addCode 24 = .ok (.aload_n 0, 1) := by decide +kernel
theorem dX0_addCode_25 : decode cX0_addCode 25 = .ok (.dup, 1) := by decide +kernel
theorem dX0_addCode_26 : decode cX0_addCode 26 = .ok (.getfield 15, 3) := by decide +kernel
theorem dX0_addCode_29 : decode cX0_addCode 29 = .ok (.iconst 1, 1) := by decide +kernel
theorem dX0_addCode_30 : decode cX0_addCode 30 = .ok (.iadd, 1) := by decide +kernel
theorem dX0_addCode_31 : decode cX0_addCode 31 = .ok (.putfield 15, 3) := by decide +kernel
theorem dX0_addCode_34 : decode cX0_addCode 34 = .ok (.aload_n 0, 1) := by decide +kernel
theorem dX0_addCode_35 : decode cX0_addCode 35 = .ok (.getfield 15, 3) := by decide +kernel
theorem dX0_addCode_38 : decode cX0_addCode 38 = .ok (.ireturn, 1) := by decide +kernel
theorem dX0_becomeEmpty_0 : decode cX0_becomeEmpty 0 = .ok (.aload_n 0, 1) := by decide +kernel
theorem dX0_becomeEmpty_1 : decode cX0_becomeEmpty 1 = .ok (.iconst 0, 1) := by decide +kernel
theorem dX0_becomeEmpty_2 : decode cX0_becomeEmpty 2 = .ok (.putfield 15, 3) := by decide +kernel
theorem dX0_becomeEmpty_5 : decode cX0_becomeEmpty 5 = .ok (.return_, 1) := by decide +kernel
theorem dX0_faultPosition_0 : decode cX0_faultPosition 0 = .ok (.aload_n 0, 1) := by decide +kernel
theorem dX0_faultPosition_1 : decode cX0_faultPosition 1 = .ok (.getfield 28, 3) := by decide +kernel
theorem dX0_faultPosition_4 : decode cX0_faultPosition 4 = .ok (.ireturn, 1) := by decide +kernel
theorem dX0_commandCount_0 : decode cX0_commandCount 0 = .ok (.aload_n 0, 1) := by decide +kernel
theorem dX0_commandCount_1 : decode cX0_commandCount 1 = .ok (.getfield 22, 3) := by decide +kernel
theorem dX0_commandCount_4 : decode cX0_commandCount 4 = .ok (.ireturn, 1) := by decide +kernel
theorem dX0_verb_0 : decode cX0_verb 0 = .ok (.aload_n 0, 1) := by decide +kernel
theorem dX0_verb_1 : decode cX0_verb 1 = .ok (.getfield 19, 3) := by decide +kernel
theorem dX0_verb_4 : decode cX0_verb 4 = .ok (.iload_n 1, 1) := by decide +kernel
theorem dX0_verb_5 : decode cX0_verb 5 = .ok (.iconst 4, 1) := by decide +kernel
theorem dX0_verb_6 : decode cX0_verb 6 = .ok (.imul, 1) := by decide +kernel
theorem dX0_verb_7 : decode cX0_verb 7 = .ok (.invokestatic 35, 3) := by decide +kernel
theorem dX0_verb_10 : decode cX0_verb 10 = .ok (.ireturn, 1) := by decide +kernel
theorem dX0_argument_0 : decode cX0_argument 0 = .ok (.aload_n 0, 1) := by decide +kernel
theorem dX0_argument_1 : decode cX0_argument 1 = .ok (.getfield 19, 3) := by decide +kernel
theorem dX0_argument_4 : decode cX0_argument 4 = .ok (.iload_n 1, 1) := by decide +kernel
theorem dX0_argument_5 : decode cX0_argument 5 = .ok (.iconst 4, 1) := by decide +kernel
theorem dX0_argument_6 : decode cX0_argument 6 = .ok (.imul, 1) := by decide +kernel
theorem dX0_argument_7 : decode cX0_argument 7 = .ok (.iload_n 2, 1) := by decide +kernel
theorem dX0_argument_8 : decode cX0_argument 8 = .ok (.iadd, 1) := by decide +kernel
theorem dX0_argument_9 : decode cX0_argument 9 = .ok (.invokestatic 35, 3) := by decide +kernel
theorem dX0_argument_12 : decode cX0_argument 12 = .ok (.ireturn, 1) := by decide +kernel
theorem dX0_readCommands_0 : decode cX0_readCommands 0 = .ok (.aload_n 0, 1) := by decide +kernel
theorem dX0_readCommands_1 : decode cX0_readCommands 1 = .ok (.iconst 0, 1) := by decide +kernel
theorem dX0_readCommands_2 : decode cX0_readCommands 2 = .ok (.putfield 28, 3) := by decide +kernel
theorem dX0_readCommands_5 : decode cX0_readCommands 5 = .ok (.aload_n 0, 1) := by decide +kernel
theorem dX0_readCommands_6 : decode cX0_readCommands 6 = .ok (.iconst 0, 1) := by decide +kernel
theorem dX0_readCommands_7 : decode cX0_readCommands 7 = .ok (.putfield 22, 3) := by decide +kernel
theorem dX0_readCommands_10 : decode cX0_readCommands 10 = .ok (.iconst 0, 1) := by decide +kernel
theorem dX0_readCommands_11 : decode cX0_readCommands 11 = .ok (.istore_n 1, 1) := by decide +kernel
theorem dX0_readCommands_12 : decode cX0_readCommands 12 = .ok (.iload_n 1, 1) := by decide +kernel
theorem dX0_readCommands_13 : decode cX0_readCommands 13 = .ok (.bipush 10, 2) := by decide +kernel
theorem dX0_readCommands_15 : decode cX0_readCommands 15 = .ok (.if_icmp .gt 42, 3) := by decide +kernel
theorem dX0_readCommands_18 : decode cX0_readCommands 18 = .ok (.aload_n 0, 1) := by decide +kernel
theorem dX0_readCommands_19 : decode cX0_readCommands 19 = .ok (.invokevirtual 39, 3) := by decide +kernel
theorem dX0_readCommands_22 : decode cX0_readCommands 22 = .ok (.ifCond .ne 5, 3) := by decide +kernel
theorem dX0_readCommands_25 : decode cX0_readCommands 25 = .ok (.iconst 0, 1) := by decide +kernel
theorem dX0_readCommands_26 : decode cX0_readCommands 26 = .ok (.ireturn, 1) := by decide +kernel
theorem dX0_readCommands_27 : decode cX0_readCommands 27 = .ok (.aload_n 0, 1) := by decide +kernel
theorem dX0_readCommands_28 : decode cX0_readCommands 28 = .ok (.getfield 28, 3) := by decide +kernel
theorem dX0_readCommands_31 : decode cX0_readCommands 31 = .ok (.aload_n 0, 1) := by decide +kernel
theorem dX0_readCommands_32 : decode cX0_readCommands 32 = .ok (.getfield 15, 3) := by decide +kernel
theorem dX0_readCommands_35 : decode cX0_readCommands 35 = .ok (.if_icmp .ne 5, 3) := by decide +kernel
theorem dX0_readCommands_38 : decode cX0_readCommands 38 = .ok (.iconst 1, 1) := by decide +kernel
theorem dX0_readCommands_39 : decode cX0_readCommands 39 = .ok (.ireturn, 1) := by decide +kernel
theorem dX0_readCommands_40 : decode cX0_readCommands 40 = .ok (.aload_n 0, 1) := by decide +kernel
theorem dX0_readCommands_41 : decode cX0_readCommands 41 = .ok (.bipush 59, 2) := by decide +kernel
theorem dX0_readCommands_43 : decode cX0_readCommands 43 = .ok (.invokevirtual 43, 3) := by decide +kernel
theorem dX0_readCommands_46 : decode cX0_readCommands 46 = .ok (.ifCond .ne 5, 3) := by decide +kernel
theorem dX0_readCommands_49 : decode cX0_readCommands 49 = .ok (.iconst 0, 1) := by decide +kernel
theorem dX0_readCommands_50 : decode cX0_readCommands 50 = .ok (.ireturn, 1) := by decide +kernel
theorem dX0_readCommands_51 : decode cX0_readCommands 51 = .ok (.iinc 1 1, 3) := by decide +kernel
theorem dX0_readCommands_54 : decode cX0_readCommands 54 = .ok (.goto (-42), 3) := by decide +kernel
theorem dX0_readCommands_57 : decode cX0_readCommands 57 = .ok (.iconst 0, 1) := by decide +kernel
theorem dX0_readCommands_58 : decode cX0_readCommands 58 = .ok (.ireturn, 1) := by decide +kernel
theorem dX0_readCommand_0 : decode cX0_readCommand 0 = .ok (.iconst 0, 1) := by decide +kernel
theorem dX0_readCommand_1 : decode cX0_readCommand 1 = .ok (.istore_n 1, 1) := by decide +kernel
theorem dX0_readCommand_2 : decode cX0_readCommand 2 = .ok (.iload_n 1, 1) := by decide +kernel
theorem dX0_readCommand_3 : decode cX0_readCommand 3 = .ok (.bipush 6, 2) := by decide +kernel
theorem dX0_readCommand_5 : decode cX0_readCommand 5 = .ok (.if_icmp .ge 64, 3) := by decide +kernel
theorem dX0_readCommand_8 : decode cX0_readCommand 8 = .ok (.iload_n 1, 1) := by decide +kernel
theorem dX0_readCommand_9 : decode cX0_readCommand 9 = .ok (.invokestatic 47, 3) := by decide +kernel
theorem dX0_readCommand_12 : decode cX0_readCommand 12 = .ok (.astore_n 2, 1) := by decide +kernel
theorem dX0_readCommand_13 : decode cX0_readCommand 13 = .ok (.aload_n 2, 1) := by decide +kernel
theorem dX0_readCommand_14 : decode cX0_readCommand 14 = .ok (.invokevirtual 51, 3) := by decide +kernel
theorem dX0_readCommand_17 : decode cX0_readCommand 17 = .ok (.ifCond .ne 46, 3) := by decide +kernel
theorem dX0_readCommand_20 : decode cX0_readCommand 20 = .ok (.aload_n 0, 1) := by decide +kernel
theorem dX0_readCommand_21 : decode cX0_readCommand 21 = .ok (.invokevirtual 56, 3) := by decide +kernel
theorem dX0_readCommand_24 : decode cX0_readCommand 24 = .ok (.aload_n 2, 1) := by decide +kernel
theorem dX0_readCommand_25 : decode cX0_readCommand 25 = .ok (.iconst 0, 1) := by decide +kernel
theorem dX0_readCommand_26 : decode cX0_readCommand 26 = .ok (.invokevirtual 60, 3) := by decide +kernel
theorem dX0_readCommand_29 : decode cX0_readCommand 29 = .ok (.if_icmp .ne 34, 3) := by decide +kernel
theorem dX0_readCommand_32 : decode cX0_readCommand 32 = .ok (.aload_n 0, 1) := by decide +kernel
theorem dX0_readCommand_33 : decode cX0_readCommand 33 = .ok (.aload_n 0, 1) := by decide +kernel
theorem dX0_readCommand_34 : decode cX0_readCommand 34 = .ok (.getfield 22, 3) := by decide +kernel
theorem dX0_readCommand_37 : decode cX0_readCommand 37 = .ok (.iconst 4, 1) := by decide +kernel
theorem dX0_readCommand_38 : decode cX0_readCommand 38 = .ok (.imul, 1) := by decide +kernel
theorem dX0_readCommand_39 : decode cX0_readCommand 39 = .ok (.putfield 25, 3) := by decide +kernel
theorem dX0_readCommand_42 : decode cX0_readCommand 42 = .ok (.aload_n 0, 1) := by decide +kernel
theorem dX0_readCommand_43 : decode cX0_readCommand 43 = .ok (.iload_n 1, 1) := by decide +kernel
theorem dX0_readCommand_44 : decode cX0_readCommand 44 = .ok (.invokevirtual 64, 3) := by decide +kernel
theorem dX0_readCommand_47 : decode cX0_readCommand 47 = .ok (.aload_n 0, 1) := by decide +kernel
theorem dX0_readCommand_48 : decode cX0_readCommand 48 = .ok (.dup, 1) := by decide +kernel
theorem dX0_readCommand_49 : decode cX0_readCommand 49 = .ok (.getfield 22, 3) := by decide +kernel
theorem dX0_readCommand_52 : decode cX0_readCommand 52 = .ok (.iconst 1, 1) := by decide +kernel
theorem dX0_readCommand_53 : decode cX0_readCommand 53 = .ok (.iadd, 1) := by decide +kernel
theorem dX0_readCommand_54 : decode cX0_readCommand 54 = .ok (.putfield 22, 3) := by decide +kernel
theorem dX0_readCommand_57 : decode cX0_readCommand 57 = .ok (.aload_n 0, 1) := by decide +kernel
theorem dX0_readCommand_58 : decode cX0_readCommand 58 = .ok (.aload_n 2, 1) := by decide +kernel
theorem dX0_readCommand_59 : decode cX0_readCommand 59 = .ok (.invokevirtual 68, 3) := by decide +kernel
theorem dX0_readCommand_62 : decode cX0_readCommand 62 = .ok (.ireturn, 1) := by decide +kernel
theorem dX0_readCommand_63 : decode cX0_readCommand 63 = .ok (.iinc 1 1, 3) := by decide +kernel
theorem dX0_readCommand_66 : decode cX0_readCommand 66 = .ok (.goto (-64), 3) := by decide +kernel
theorem dX0_readCommand_69 : decode cX0_readCommand 69 = .ok (.iconst 0, 1) := by decide +kernel
theorem dX0_readCommand_70 : decode cX0_readCommand 70 = .ok (.ireturn, 1) := by decide +kernel
theorem dX0_patternOf_0 : decode cX0_patternOf 0 = .ok (.iload_n 0, 1) := by decide +kernel
theorem dX0_patternOf_1 : decode cX0_patternOf 1 = .ok (.tableswitch 57 0 5 #[39, 42, 45, 48, 51, 54], 39) := by decide +kernel
theorem dX0_patternOf_40 : decode cX0_patternOf 40 = .ok (.ldc 72, 2) := by decide +kernel
theorem dX0_patternOf_42 : decode cX0_patternOf 42 = .ok (.areturn, 1) := by decide +kernel
theorem dX0_patternOf_43 : decode cX0_patternOf 43 = .ok (.ldc 74, 2) := by decide +kernel
theorem dX0_patternOf_45 : decode cX0_patternOf 45 = .ok (.areturn, 1) := by decide +kernel
theorem dX0_patternOf_46 : decode cX0_patternOf 46 = .ok (.ldc 76, 2) := by decide +kernel
theorem dX0_patternOf_48 : decode cX0_patternOf 48 = .ok (.areturn, 1) := by decide +kernel
theorem dX0_patternOf_49 : decode cX0_patternOf 49 = .ok (.ldc 78, 2) := by decide +kernel
theorem dX0_patternOf_51 : decode cX0_patternOf 51 = .ok (.areturn, 1) := by decide +kernel
theorem dX0_patternOf_52 : decode cX0_patternOf 52 = .ok (.ldc 80, 2) := by decide +kernel
theorem dX0_patternOf_54 : decode cX0_patternOf 54 = .ok (.areturn, 1) := by decide +kernel
theorem dX0_patternOf_55 : decode cX0_patternOf 55 = .ok (.ldc 82, 2) := by decide +kernel
theorem dX0_patternOf_57 : decode cX0_patternOf 57 = .ok (.areturn, 1) := by decide +kernel
theorem dX0_patternOf_58 : decode cX0_patternOf 58 = .ok (.ldc 84, 2) := by decide +kernel
theorem dX0_patternOf_60 : decode cX0_patternOf 60 = .ok (.areturn, 1) := by decide +kernel
theorem dX0_readAlong_0 : decode cX0_readAlong 0 = .ok (.iconst 1, 1) := by decide +kernel
theorem dX0_readAlong_1 : decode cX0_readAlong 1 = .ok (.istore_n 2, 1) := by decide +kernel
theorem dX0_readAlong_2 : decode cX0_readAlong 2 = .ok (.iconst 0, 1) := by decide +kernel
theorem dX0_readAlong_3 : decode cX0_readAlong 3 = .ok (.istore_n 3, 1) := by decide +kernel
theorem dX0_readAlong_4 : decode cX0_readAlong 4 = .ok (.iload_n 3, 1) := by decide +kernel
theorem dX0_readAlong_5 : decode cX0_readAlong 5 = .ok (.aload_n 1, 1) := by decide +kernel
theorem dX0_readAlong_6 : decode cX0_readAlong 6 = .ok (.invokevirtual 86, 3) := by decide +kernel
theorem dX0_readAlong_9 : decode cX0_readAlong 9 = .ok (.if_icmp .ge 74, 3) := by decide +kernel
theorem dX0_readAlong_12 : decode cX0_readAlong 12 = .ok (.iload_n 2, 1) := by decide +kernel
theorem dX0_readAlong_13 : decode cX0_readAlong 13 = .ok (.ifCond .eq 70, 3) := by decide +kernel
theorem dX0_readAlong_16 : decode cX0_readAlong 16 = .ok (.aload_n 1, 1) := by decide +kernel
theorem dX0_readAlong_17 : decode cX0_readAlong 17 = .ok (.iload_n 3, 1) := by decide +kernel
theorem dX0_readAlong_18 : decode cX0_readAlong 18 = .ok (.invokevirtual 60, 3) := by decide +kernel
theorem dX0_readAlong_21 : decode cX0_readAlong 21 = .ok (.istore 4, 2) := by decide +kernel
theorem dX0_readAlong_23 : decode cX0_readAlong 23 = .ok (.iload 4, 2) := by decide +kernel
theorem dX0_readAlong_25 : decode cX0_readAlong 25 = .ok (.bipush 50, 2) := by decide +kernel
theorem dX0_readAlong_27 : decode cX0_readAlong 27 = .ok (.if_icmp .ne 12, 3) := by decide +kernel
theorem dX0_readAlong_30 : decode cX0_readAlong 30 = .ok (.aload_n 0, 1) := by decide +kernel
theorem dX0_readAlong_31 : decode cX0_readAlong 31 = .ok (.iconst 2, 1) := by decide +kernel
theorem dX0_readAlong_32 : decode cX0_readAlong 32 = .ok (.invokevirtual 88, 3) := by decide +kernel
theorem dX0_readAlong_35 : decode cX0_readAlong 35 = .ok (.istore_n 2, 1) := by decide +kernel
theorem dX0_readAlong_36 : decode cX0_readAlong 36 = .ok (.goto 41, 3) := by decide +kernel
theorem dX0_readAlong_39 : decode cX0_readAlong 39 = .ok (.iload 4, 2) := by decide +kernel
theorem dX0_readAlong_41 : decode cX0_readAlong 41 = .ok (.bipush 51, 2) := by decide +kernel
theorem dX0_readAlong_43 : decode cX0_readAlong 43 = .ok (.if_icmp .ne 12, 3) := by decide +kernel
theorem dX0_readAlong_46 : decode cX0_readAlong 46 = .ok (.aload_n 0, 1) := by decide +kernel
theorem dX0_readAlong_47 : decode cX0_readAlong 47 = .ok (.iconst 3, 1) := by decide +kernel
theorem dX0_readAlong_48 : decode cX0_readAlong 48 = .ok (.invokevirtual 88, 3) := by decide +kernel
theorem dX0_readAlong_51 : decode cX0_readAlong 51 = .ok (.istore_n 2, 1) := by decide +kernel
theorem dX0_readAlong_52 : decode cX0_readAlong 52 = .ok (.goto 25, 3) := by decide +kernel
theorem dX0_readAlong_55 : decode cX0_readAlong 55 = .ok (.iload 4, 2) := by decide +kernel
theorem dX0_readAlong_57 : decode cX0_readAlong 57 = .ok (.bipush 63, 2) := by decide +kernel
theorem dX0_readAlong_59 : decode cX0_readAlong 59 = .ok (.if_icmp .ne 11, 3) := by decide +kernel
theorem dX0_readAlong_62 : decode cX0_readAlong 62 = .ok (.aload_n 0, 1) := by decide +kernel
theorem dX0_readAlong_63 : decode cX0_readAlong 63 = .ok (.invokevirtual 91, 3) := by decide +kernel
theorem dX0_readAlong_66 : decode cX0_readAlong 66 = .ok (.istore_n 2, 1) := by decide +kernel
theorem dX0_readAlong_67 : decode cX0_readAlong 67 = .ok (.goto 10, 3) := by decide +kernel
theorem dX0_readAlong_70 : decode cX0_readAlong 70 = .ok (.aload_n 0, 1) := by decide +kernel
theorem dX0_readAlong_71 : decode cX0_readAlong 71 = .ok (.iload 4, 2) := by decide +kernel
theorem dX0_readAlong_73 : decode cX0_readAlong 73 = .ok (.invokevirtual 43, 3) := by decide +kernel
theorem dX0_readAlong_76 : decode cX0_readAlong 76 = .ok (.istore_n 2, 1) := by decide +kernel
theorem dX0_readAlong_77 : decode cX0_readAlong 77 = .ok (.iinc 3 1, 3) := by decide +kernel
theorem dX0_readAlong_80 : decode cX0_readAlong 80 = .ok (.goto (-76), 3) := by decide +kernel
theorem dX0_readAlong_83 : decode cX0_readAlong 83 = .ok (.iload_n 2, 1) := by decide +kernel
theorem dX0_readAlong_84 : decode cX0_readAlong 84 = .ok (.ireturn, 1) := by decide +kernel
theorem dX0_readNumber_0 : decode cX0_readNumber 0 = .ok (.iconst 0, 1) := by decide +kernel
theorem dX0_readNumber_1 : decode cX0_readNumber 1 = .ok (.istore_n 2, 1) := by decide +kernel
theorem dX0_readNumber_2 : decode cX0_readNumber 2 = .ok (.iconst 0, 1) := by decide +kernel
theorem dX0_readNumber_3 : decode cX0_readNumber 3 = .ok (.istore_n 3, 1) := by decide +kernel
theorem dX0_readNumber_4 : decode cX0_readNumber 4 = .ok (.iload_n 3, 1) := by decide +kernel
theorem dX0_readNumber_5 : decode cX0_readNumber 5 = .ok (.iload_n 1, 1) := by decide +kernel
theorem dX0_readNumber_6 : decode cX0_readNumber 6 = .ok (.if_icmp .ge 46, 3) := by decide +kernel
theorem dX0_readNumber_9 : decode cX0_readNumber 9 = .ok (.aload_n 0, 1) := by decide +kernel
theorem dX0_readNumber_10 : decode cX0_readNumber 10 = .ok (.invokevirtual 56, 3) := by decide +kernel
theorem dX0_readNumber_13 : decode cX0_readNumber 13 = .ok (.bipush 48, 2) := by decide +kernel
theorem dX0_readNumber_15 : decode cX0_readNumber 15 = .ok (.bipush 57, 2) := by decide +kernel
theorem dX0_readNumber_17 : decode cX0_readNumber 17 = .ok (.invokestatic 94, 3) := by decide +kernel
theorem dX0_readNumber_20 : decode cX0_readNumber 20 = .ok (.ifCond .eq 32, 3) := by decide +kernel
theorem dX0_readNumber_23 : decode cX0_readNumber 23 = .ok (.bipush 10, 2) := by decide +kernel
theorem dX0_readNumber_25 : decode cX0_readNumber 25 = .ok (.iload_n 2, 1) := by decide +kernel
theorem dX0_readNumber_26 : decode cX0_readNumber 26 = .ok (.imul, 1) := by decide +kernel
theorem dX0_readNumber_27 : decode cX0_readNumber 27 = .ok (.aload_n 0, 1) := by decide +kernel
theorem dX0_readNumber_28 : decode cX0_readNumber 28 = .ok (.invokevirtual 56, 3) := by decide +kernel
theorem dX0_readNumber_31 : decode cX0_readNumber 31 = .ok (.iadd, 1) := by decide +kernel
theorem dX0_readNumber_32 : decode cX0_readNumber 32 = .ok (.bipush 48, 2) := by decide +kernel
theorem dX0_readNumber_34 : decode cX0_readNumber 34 = .ok (.isub, 1) := by decide +kernel
theorem dX0_readNumber_35 : decode cX0_readNumber 35 = .ok (.istore_n 2, 1) := by decide +kernel
theorem dX0_readNumber_36 : decode cX0_readNumber 36 = .ok (.iinc 3 1, 3) := by decide +kernel
theorem dX0_readNumber_39 : decode cX0_readNumber 39 = .ok (.aload_n 0, 1) := by decide +kernel
theorem dX0_readNumber_40 : decode cX0_readNumber 40 = .ok (.dup, 1) := by decide +kernel
theorem dX0_readNumber_41 : decode cX0_readNumber 41 = .ok (.getfield 28, 3) := by decide +kernel
theorem dX0_readNumber_44 : decode cX0_readNumber 44 = .ok (.iconst 1, 1) := by decide +kernel
theorem dX0_readNumber_45 : decode cX0_readNumber 45 = .ok (.iadd, 1) := by decide +kernel
theorem dX0_readNumber_46 : decode cX0_readNumber 46 = .ok (.putfield 28, 3) := by decide +kernel
theorem dX0_readNumber_49 : decode cX0_readNumber 49 = .ok (.goto (-45), 3) := by decide +kernel
theorem dX0_readNumber_52 : decode cX0_readNumber 52 = .ok (.aload_n 0, 1) := by decide +kernel
theorem dX0_readNumber_53 : decode cX0_readNumber 53 = .ok (.iload_n 2, 1) := by decide +kernel
theorem dX0_readNumber_54 : decode cX0_readNumber 54 = .ok (.invokevirtual 64, 3) := by decide +kernel
theorem dX0_readNumber_57 : decode cX0_readNumber 57 = .ok (.iload_n 3, 1) := by decide +kernel
theorem dX0_readNumber_58 : decode cX0_readNumber 58 = .ok (.ifCond .le 7, 3) := by decide +kernel
theorem dX0_readNumber_61 : decode cX0_readNumber 61 = .ok (.iconst 1, 1) := by decide +kernel
theorem dX0_readNumber_62 : decode cX0_readNumber 62 = .ok (.goto 4, 3) := by decide +kernel
theorem dX0_readNumber_65 : decode cX0_readNumber 65 = .ok (.iconst 0, 1) := by decide +kernel
theorem dX0_readNumber_66 : decode cX0_readNumber 66 = .ok (.ireturn, 1) := by decide +kernel
theorem dX0_readKind_0 : decode cX0_readKind 0 = .ok (.iconst 0, 1) := by decide +kernel
theorem dX0_readKind_1 : decode cX0_readKind 1 = .ok (.istore_n 1, 1) := by decide +kernel
theorem dX0_readKind_2 : decode cX0_readKind 2 = .ok (.iload_n 1, 1) := by decide +kernel
theorem dX0_readKind_3 : decode cX0_readKind 3 = .ok (.iconst 4, 1) := by decide +kernel
theorem dX0_readKind_4 : decode cX0_readKind 4 = .ok (.if_icmp .ge 40, 3) := by decide +kernel
theorem dX0_readKind_7 : decode cX0_readKind 7 = .ok (.aload_n 0, 1) := by decide +kernel
theorem dX0_readKind_8 : decode cX0_readKind 8 = .ok (.invokevirtual 56, 3) := by decide +kernel
theorem dX0_readKind_11 : decode cX0_readKind 11 = .ok (.getstatic 98, 3) := by decide +kernel
theorem dX0_readKind_14 : decode cX0_readKind 14 = .ok (.iload_n 1, 1) := by decide +kernel
theorem dX0_readKind_15 : decode cX0_readKind 15 = .ok (.invokestatic 35, 3) := by decide +kernel
theorem dX0_readKind_18 : decode cX0_readKind 18 = .ok (.if_icmp .ne 20, 3) := by decide +kernel
theorem dX0_readKind_21 : decode cX0_readKind 21 = .ok (.aload_n 0, 1) := by decide +kernel
theorem dX0_readKind_22 : decode cX0_readKind 22 = .ok (.iload_n 1, 1) := by decide +kernel
theorem dX0_readKind_23 : decode cX0_readKind 23 = .ok (.invokevirtual 64, 3) := by decide +kernel
theorem dX0_readKind_26 : decode cX0_readKind 26 = .ok (.aload_n 0, 1) := by decide +kernel
theorem dX0_readKind_27 : decode cX0_readKind 27 = .ok (.dup, 1) := by decide +kernel
theorem dX0_readKind_28 : decode cX0_readKind 28 = .ok (.getfield 28, 3) := by decide +kernel
theorem dX0_readKind_31 : decode cX0_readKind 31 = .ok (.iconst 1, 1) := by decide +kernel
theorem dX0_readKind_32 : decode cX0_readKind 32 = .ok (.iadd, 1) := by decide +kernel
theorem dX0_readKind_33 : decode cX0_readKind 33 = .ok (.putfield 28, 3) := by decide +kernel
theorem dX0_readKind_36 : decode cX0_readKind 36 = .ok (.iconst 1, 1) := by decide +kernel
theorem dX0_readKind_37 : decode cX0_readKind 37 = .ok (.ireturn, 1) := by decide +kernel
theorem dX0_readKind_38 : decode cX0_readKind 38 = .ok (.iinc 1 1, 3) := by decide +kernel
theorem dX0_readKind_41 : decode cX0_readKind 41 = .ok (.goto (-39), 3) := by decide +kernel
theorem dX0_readKind_44 : decode cX0_readKind 44 = .ok (.iconst 0, 1) := by decide +kernel
theorem dX0_readKind_45 : decode cX0_readKind 45 = .ok (.ireturn, 1) := by decide +kernel
theorem dX0_readCode_0 : decode cX0_readCode 0 = .ok (.aload_n 0, 1) := by decide +kernel
theorem dX0_readCode_1 : decode cX0_readCode 1 = .ok (.invokevirtual 56, 3) := by decide +kernel
theorem dX0_readCode_4 : decode cX0_readCode 4 = .ok (.iload_n 1, 1) := by decide +kernel
theorem dX0_readCode_5 : decode cX0_readCode 5 = .ok (.if_icmp .eq 5, 3) := by decide +kernel
theorem dX0_readCode_8 : decode cX0_readCode 8 = .ok (.iconst 0, 1) := by decide +kernel
theorem dX0_readCode_9 : decode cX0_readCode 9 = .ok (.ireturn, 1) := by decide +kernel
theorem dX0_readCode_10 : decode cX0_readCode 10 = .ok (.aload_n 0, 1) := by decide +kernel
theorem dX0_readCode_11 : decode cX0_readCode 11 = .ok (.dup, 1) := by decide +kernel
theorem dX0_readCode_12 : decode cX0_readCode 12 = .ok (.getfield 28, 3) := by decide +kernel
theorem dX0_readCode_15 : decode cX0_readCode 15 = .ok (.iconst 1, 1) := by decide +kernel
theorem dX0_readCode_16 : decode cX0_readCode 16 = .ok (.iadd, 1) := by decide +kernel
theorem dX0_readCode_17 : decode cX0_readCode 17 = .ok (.putfield 28, 3) := by decide +kernel
theorem dX0_readCode_20 : decode cX0_readCode 20 = .ok (.iconst 1, 1) := by decide +kernel
theorem dX0_readCode_21 : decode cX0_readCode 21 = .ok (.ireturn, 1) := by decide +kernel
theorem dX0_nextCode_0 : decode cX0_nextCode 0 = .ok (.aload_n 0, 1) := by decide +kernel
theorem dX0_nextCode_1 : decode cX0_nextCode 1 = .ok (.getfield 28, 3) := by decide +kernel
theorem dX0_nextCode_4 : decode cX0_nextCode 4 = .ok (.aload_n 0, 1) := by decide +kernel
theorem dX0_nextCode_5 : decode cX0_nextCode 5 = .ok (.getfield 15, 3) := by decide +kernel
theorem dX0_nextCode_8 : decode cX0_nextCode 8 = .ok (.if_icmp .ge 17, 3) := by decide +kernel
theorem dX0_nextCode_11 : decode cX0_nextCode 11 = .ok (.aload_n 0, 1) := by decide +kernel
theorem dX0_nextCode_12 : decode cX0_nextCode 12 = .ok (.getfield 9, 3) := by decide +kernel
theorem dX0_nextCode_15 : decode cX0_nextCode 15 = .ok (.aload_n 0, 1) := by decide +kernel
theorem dX0_nextCode_16 : decode cX0_nextCode 16 = .ok (.getfield 28, 3) := by decide +kernel
theorem dX0_nextCode_19 : decode cX0_nextCode 19 = .ok (.invokestatic 35, 3) := by decide +kernel
theorem dX0_nextCode_22 : decode cX0_nextCode 22 = .ok (.goto 5, 3) := by decide +kernel
theorem dX0_nextCode_25 : decode cX0_nextCode 25 = .ok (.bipush (-11), 2) := by decide +kernel
theorem dX0_nextCode_27 : decode cX0_nextCode 27 = .ok (.ireturn, 1) := by decide +kernel
theorem dX0_addCell_0 : decode cX0_addCell 0 = .ok (.aload_n 0, 1) := by decide +kernel
theorem dX0_addCell_1 : decode cX0_addCell 1 = .ok (.getfield 19, 3) := by decide +kernel
theorem dX0_addCell_4 : decode cX0_addCell 4 = .ok (.aload_n 0, 1) := by decide +kernel
theorem dX0_addCell_5 : decode cX0_addCell 5 = .ok (.getfield 25, 3) := by decide +kernel
theorem dX0_addCell_8 : decode cX0_addCell 8 = .ok (.iload_n 1, 1) := by decide +kernel
theorem dX0_addCell_9 : decode cX0_addCell 9 = .ok (.invokestatic 31, 3) := by decide +kernel
theorem dX0_addCell_12 : decode cX0_addCell 12 = .ok (.aload_n 0, 1) := by decide +kernel
theorem dX0_addCell_13 : decode cX0_addCell 13 = .ok (.dup, 1) := by decide +kernel
theorem dX0_addCell_14 : decode cX0_addCell 14 = .ok (.getfield 25, 3) := by decide +kernel
theorem dX0_addCell_17 : decode cX0_addCell 17 = .ok (.iconst 1, 1) := by decide +kernel
theorem dX0_addCell_18 : decode cX0_addCell 18 = .ok (.iadd, 1) := by decide +kernel
theorem dX0_addCell_19 : decode cX0_addCell 19 = .ok (.putfield 25, 3) := by decide +kernel
theorem dX0_addCell_22 : decode cX0_addCell 22 = .ok (.return_, 1) := by decide +kernel
theorem dX1_init_0 : decode cX1_init 0 = .ok (.aload_n 0, 1) := by decide +kernel
theorem dX1_init_1 : decode cX1_init 1 = .ok (.invokespecial 3, 3) := by decide +kernel
theorem dX1_init_4 : decode cX1_init 4 = .ok (.aload_n 0, 1) := by decide +kernel
theorem dX1_init_5 : decode cX1_init 5 = .ok (.bipush 39, 2) := by decide +kernel
theorem dX1_init_7 : decode cX1_init 7 = .ok (.newarray .int, 2) := by decide +kernel
theorem dX1_init_9 : decode cX1_init 9 = .ok (.putfield 9, 3) := by decide +kernel
theorem dX1_init_12 : decode cX1_init 12 = .ok (.aload_n 0, 1) := by decide +kernel
theorem dX1_init_13 : decode cX1_init 13 = .ok (.iconst 0, 1) := by decide +kernel
theorem dX1_init_14 : decode cX1_init 14 = .ok (.putfield 15, 3) := by decide +kernel
theorem dX1_init_17 : decode cX1_init 17 = .ok (.return_, 1) := by decide +kernel
theorem dX1_size_0 : decode cX1_size 0 = .ok (.aload_n 0, 1) := by decide +kernel
theorem dX1_size_1 : decode cX1_size 1 = .ok (.getfield 15, 3) := by decide +kernel
theorem dX1_size_4 : decode cX1_size 4 = .ok (.ireturn, 1) := by decide +kernel
theorem dX1_becomeEmpty_0 : decode cX1_becomeEmpty 0 = .ok (.aload_n 0, 1) := by decide +kernel
theorem dX1_becomeEmpty_1 : decode cX1_becomeEmpty 1 = .ok (.iconst 0, 1) := by decide +kernel
theorem dX1_becomeEmpty_2 : decode cX1_becomeEmpty 2 = .ok (.putfield 15, 3) := by decide +kernel
theorem dX1_becomeEmpty_5 : decode cX1_becomeEmpty 5 = .ok (.return_, 1) := by decide +kernel
theorem dX1_addCode_0 : decode cX1_addCode 0 = .ok (.aload_n 0, 1) := by decide +kernel
theorem dX1_addCode_1 : decode cX1_addCode 1 = .ok (.getfield 15, 3) := by decide +kernel
theorem dX1_addCode_4 : decode cX1_addCode 4 = .ok (.bipush 39, 2) := by decide +kernel
theorem dX1_addCode_6 : decode cX1_addCode 6 = .ok (.if_icmp .ge 25, 3) := by decide +kernel
theorem dX1_addCode_9 : decode cX1_addCode 9 = .ok (.aload_n 0, 1) := by decide +kernel
theorem dX1_addCode_10 : decode cX1_addCode 10 = .ok (.getfield 9, 3) := by decide +kernel
theorem dX1_addCode_13 : decode cX1_addCode 13 = .ok (.aload_n 0, 1) := by decide +kernel
theorem dX1_addCode_14 : decode cX1_addCode 14 = .ok (.getfield 15, 3) := by decide +kernel
theorem dX1_addCode_17 : decode cX1_addCode 17 = .ok (.iload_n 1, 1) := by decide +kernel
theorem dX1_addCode_18 : decode cX1_addCode 18 = .ok (.invokestatic 19, 3) := by decide +kernel
theorem dX1_addCode_21 : decode cX1_addCode 21 = .ok (.aload_n 0, 1) := by decide +kernel
theorem dX1_addCode_22 : decode cX1_addCode 22 = .ok (.dup, 1) := by decide +kernel
theorem dX1_addCode_23 : decode cX1_addCode 23 = .ok (.getfield 15, 3) := by decide +kernel
theorem dX1_addCode_26 : decode cX1_addCode 26 = .ok (.iconst 1, 1) := by decide +kernel
theorem dX1_addCode_27 : decode cX1_addCode 27 = .ok (.iadd, 1) := by decide +kernel
theorem dX1_addCode_28 : decode cX1_addCode 28 = .ok (.putfield 15, 3) := by decide +kernel
theorem dX1_addCode_31 : decode cX1_addCode 31 = .ok (.return_, 1) := by decide +kernel
theorem dX1_addNumber_0 : decode cX1_addNumber 0 = .ok (.sipush 1000, 3) := by decide +kernel
theorem dX1_addNumber_3 : decode cX1_addNumber 3 = .ok (.istore_n 2, 1) := by decide +kernel
theorem dX1_addNumber_4 : decode cX1_addNumber 4 = .ok (.iload_n 2, 1) := by decide +kernel
theorem dX1_addNumber_5 : decode cX1_addNumber 5 = .ok (.iconst 1, 1) := by decide +kernel
theorem dX1_addNumber_6 : decode cX1_addNumber 6 = .ok (.if_icmp .lt 34, 3) := by decide +kernel
theorem dX1_addNumber_9 : decode cX1_addNumber 9 = .ok (.iload_n 1, 1) := by decide +kernel
theorem dX1_addNumber_10 : decode cX1_addNumber 10 = .ok (.iload_n 2, 1) := by decide +kernel
theorem dX1_addNumber_11 : decode cX1_addNumber 11 = .ok (.if_icmp .ge 8, 3) := by decide +kernel
theorem dX1_addNumber_14 : decode cX1_addNumber 14 = .ok (.iload_n 2, 1) := by decide +kernel
theorem dX1_addNumber_15 : decode cX1_addNumber 15 = .ok (.iconst 1, 1) := by decide +kernel
theorem dX1_addNumber_16 : decode cX1_addNumber 16 = .ok (.if_icmp .ne 16, 3) := by decide +kernel
theorem dX1_addNumber_19 : decode cX1_addNumber 19 = .ok (.aload_n 0, 1) := by decide +kernel
theorem dX1_addNumber_20 : decode cX1_addNumber 20 = .ok (.bipush 48, 2) := by decide +kernel
theorem dX1_addNumber_22 : decode cX1_addNumber 22 = .ok (.iload_n 1, 1) := by decide +kernel
theorem dX1_addNumber_23 : decode cX1_addNumber 23 = .ok (.iload_n 2, 1) := by decide +kernel
theorem dX1_addNumber_24 : decode cX1_addNumber 24 = .ok (.idiv, 1) := by decide +kernel
theorem dX1_addNumber_25 : decode cX1_addNumber 25 = .ok (.bipush 10, 2) := by decide +kernel
theorem dX1_addNumber_27 : decode cX1_addNumber 27 = .ok (.irem, 1) := by decide +kernel
theorem dX1_addNumber_28 : decode cX1_addNumber 28 = .ok (.iadd, 1) := by decide +kernel
theorem dX1_addNumber_29 : decode cX1_addNumber 29 = .ok (.invokevirtual 23, 3) := by decide +kernel
theorem dX1_addNumber_32 : decode cX1_addNumber 32 = .ok (.iload_n 2, 1) := by decide +kernel
theorem dX1_addNumber_33 : decode cX1_addNumber 33 = .ok (.bipush 10, 2) := by decide +kernel
theorem dX1_addNumber_35 : decode cX1_addNumber 35 = .ok (.idiv, 1) := by decide +kernel
theorem dX1_addNumber_36 : decode cX1_addNumber 36 = .ok (.istore_n 2, 1) := by decide +kernel
theorem dX1_addNumber_37 : decode cX1_addNumber 37 = .ok (.goto (-33), 3) := by decide +kernel
theorem dX1_addNumber_40 : decode cX1_addNumber 40 = .ok (.return_, 1) := by decide +kernel
theorem dX1_codeAt_0 : decode cX1_codeAt 0 = .ok (.iload_n 1, 1) := by decide +kernel
theorem dX1_codeAt_1 : decode cX1_codeAt 1 = .ok (.iconst 0, 1) := by decide +kernel
theorem dX1_codeAt_2 : decode cX1_codeAt 2 = .ok (.aload_n 0, 1) := by decide +kernel
theorem dX1_codeAt_3 : decode cX1_codeAt 3 = .ok (.getfield 15, 3) := by decide +kernel
theorem dX1_codeAt_6 : decode cX1_codeAt 6 = .ok (.iconst 1, 1) := by decide +kernel
theorem dX1_codeAt_7 : decode cX1_codeAt 7 = .ok (.isub, 1) := by decide +kernel
theorem dX1_codeAt_8 : decode cX1_codeAt 8 = .ok (.invokestatic 27, 3) := by decide +kernel
theorem dX1_codeAt_11 : decode cX1_codeAt 11 = .ok (.ifCond .eq 14, 3) := by decide +kernel
theorem dX1_codeAt_14 : decode cX1_codeAt 14 = .ok (.aload_n 0, 1) := by decide +kernel
theorem dX1_codeAt_15 : decode cX1_codeAt 15 = .ok (.getfield 9, 3) := by decide +kernel
theorem dX1_codeAt_18 : decode cX1_codeAt 18 = .ok (.iload_n 1, 1) := by decide +kernel
theorem dX1_codeAt_19 : decode cX1_codeAt 19 = .ok (.invokestatic 31, 3) := by decide +kernel
theorem dX1_codeAt_22 : decode cX1_codeAt 22 = .ok (.goto 5, 3) := by decide +kernel
theorem dX1_codeAt_25 : decode cX1_codeAt 25 = .ok (.bipush (-11), 2) := by decide +kernel
theorem dX1_codeAt_27 : decode cX1_codeAt 27 = .ok (.ireturn, 1) := by decide +kernel
theorem dX2_init_0 : decode cX2_init 0 = .ok (.aload_n 0, 1) := by decide +kernel
theorem dX2_init_1 : decode cX2_init 1 = .ok (.invokespecial 3, 3) := by decide +kernel
theorem dX2_init_4 : decode cX2_init 4 = .ok (.aload_n 0, 1) := by decide +kernel
theorem dX2_init_5 : decode cX2_init 5 = .ok (.bipush 8, 2) := by decide +kernel
theorem dX2_init_7 : decode cX2_init 7 = .ok (.anewarray 9, 3) := by decide +kernel
theorem dX2_init_10 : decode cX2_init 10 = .ok (.putfield 11, 3) := by decide +kernel
theorem dX2_init_13 : decode cX2_init 13 = .ok (.aload_n 0, 1) := by decide +kernel
theorem dX2_init_14 : decode cX2_init 14 = .ok (.iconst 0, 1) := by decide +kernel
theorem dX2_init_15 : decode cX2_init 15 = .ok (.putfield 17, 3) := by decide +kernel
theorem dX2_init_18 : decode cX2_init 18 = .ok (.aload_n 0, 1) := by decide +kernel
theorem dX2_init_19 : decode cX2_init 19 = .ok (.iconst 0, 1) := by decide +kernel
theorem dX2_init_20 : decode cX2_init 20 = .ok (.putfield 21, 3) := by decide +kernel
theorem dX2_init_23 : decode cX2_init 23 = .ok (.iconst 0, 1) := by decide +kernel
theorem dX2_init_24 : decode cX2_init 24 = .ok (.istore_n 1, 1) := by decide +kernel
theorem dX2_init_25 : decode cX2_init 25 = .ok (.iload_n 1, 1) := by decide +kernel
theorem dX2_init_26 : decode cX2_init 26 = .ok (.aload_n 0, 1) := by decide +kernel
theorem dX2_init_27 : decode cX2_init 27 = .ok (.getfield 11, 3) := by decide +kernel
theorem dX2_init_30 : decode cX2_init 30 = .ok (.arraylength, 1) := by decide +kernel
theorem dX2_init_31 : decode cX2_init 31 = .ok (.if_icmp .ge 22, 3) := by decide +kernel
theorem dX2_init_34 : decode cX2_init 34 = .ok (.aload_n 0, 1) := by decide +kernel
theorem dX2_init_35 : decode cX2_init 35 = .ok (.getfield 11, 3) := by decide +kernel
theorem dX2_init_38 : decode cX2_init 38 = .ok (.iload_n 1, 1) := by decide +kernel
theorem dX2_init_39 : decode cX2_init 39 = .ok (.new 9, 3) := by decide +kernel
theorem dX2_init_42 : decode cX2_init 42 = .ok (.dup, 1) := by decide +kernel
theorem dX2_init_43 : decode cX2_init 43 = .ok (.invokespecial 24, 3) := by decide +kernel
theorem dX2_init_46 : decode cX2_init 46 = .ok (.aastore, 1) := by decide +kernel
theorem dX2_init_47 : decode cX2_init 47 = .ok (.iinc 1 1, 3) := by decide +kernel
theorem dX2_init_50 : decode cX2_init 50 = .ok (.goto (-25), 3) := by decide +kernel
theorem dX2_init_53 : decode cX2_init 53 = .ok (.return_, 1) := by decide +kernel
theorem dX2_size_0 : decode cX2_size 0 = .ok (.aload_n 0, 1) := by decide +kernel
theorem dX2_size_1 : decode cX2_size 1 = .ok (.getfield 21, 3) := by decide +kernel
theorem dX2_size_4 : decode cX2_size 4 = .ok (.ireturn, 1) := by decide +kernel
theorem dX2_keep_0 : decode cX2_keep 0 = .ok (.aload_n 0, 1) := by decide +kernel
theorem dX2_keep_1 : decode cX2_keep 1 = .ok (.getfield 17, 3) := by decide +kernel
theorem dX2_keep_4 : decode cX2_keep 4 = .ok (.ifCond .lt 40, 3) := by decide +kernel
theorem dX2_keep_7 : decode cX2_keep 7 = .ok (.aload_n 0, 1) := by decide +kernel
theorem dX2_keep_8 : decode cX2_keep 8 = .ok (.getfield 17, 3) := by decide +kernel
theorem dX2_keep_11 : decode cX2_keep 11 = .ok (.aload_n 0, 1) := by decide +kernel
theorem dX2_keep_12 : decode cX2_keep 12 = .ok (.getfield 11, 3) := by decide +kernel
theorem dX2_keep_15 : decode cX2_keep 15 = .ok (.arraylength, 1) := by decide +kernel
theorem dX2_keep_16 : decode cX2_keep 16 = .ok (.if_icmp .ge 28, 3) := by decide +kernel
theorem dX2_keep_19 : decode cX2_keep 19 = .ok (.aload_n 0, 1) := by decide +kernel
theorem dX2_keep_20 : decode cX2_keep 20 = .ok (.getfield 11, 3) := by decide +kernel
theorem dX2_keep_23 : decode cX2_keep 23 = .ok (.aload_n 0, 1) := by decide +kernel
theorem dX2_keep_24 : decode cX2_keep 24 = .ok (.getfield 17, 3) := by decide +kernel
theorem dX2_keep_27 : decode cX2_keep 27 = .ok (.aaload, 1) := by decide +kernel
theorem dX2_keep_28 : decode cX2_keep 28 = .ok (.ifnull 16, 3) := by decide +kernel
theorem dX2_keep_31 : decode cX2_keep 31 = .ok (.aload_n 0, 1) := by decide +kernel
theorem dX2_keep_32 : decode cX2_keep 32 = .ok (.getfield 11, 3) := by decide +kernel
theorem dX2_keep_35 : decode cX2_keep 35 = .ok (.aload_n 0, 1) := by decide +kernel
theorem dX2_keep_36 : decode cX2_keep 36 = .ok (.getfield 17, 3) := by decide +kernel
theorem dX2_keep_39 : decode cX2_keep 39 = .ok (.aaload, 1) := by decide +kernel
theorem dX2_keep_40 : decode cX2_keep 40 = .ok (.aload_n 1, 1) := by decide +kernel
theorem dX2_keep_41 : decode cX2_keep 41 = .ok (.invokevirtual 25, 3) := by decide +kernel
theorem dX2_keep_44 : decode cX2_keep 44 = .ok (.aload_n 0, 1) := by decide +kernel
theorem dX2_keep_45 : decode cX2_keep 45 = .ok (.aload_n 0, 1) := by decide +kernel
theorem dX2_keep_46 : decode cX2_keep 46 = .ok (.getfield 17, 3) := by decide +kernel
theorem dX2_keep_49 : decode cX2_keep 49 = .ok (.iconst 1, 1) := by decide +kernel
theorem dX2_keep_50 : decode cX2_keep 50 = .ok (.iadd, 1) := by decide +kernel
theorem dX2_keep_51 : decode cX2_keep 51 = .ok (.bipush 8, 2) := by decide +kernel
theorem dX2_keep_53 : decode cX2_keep 53 = .ok (.irem, 1) := by decide +kernel
theorem dX2_keep_54 : decode cX2_keep 54 = .ok (.putfield 17, 3) := by decide +kernel
theorem dX2_keep_57 : decode cX2_keep 57 = .ok (.aload_n 0, 1) := by decide +kernel
theorem dX2_keep_58 : decode cX2_keep 58 = .ok (.aload_n 0, 1) := by decide +kernel
theorem dX2_keep_59 : decode cX2_keep 59 = .ok (.getfield 21, 3) := by decide +kernel
theorem dX2_keep_62 : decode cX2_keep 62 = .ok (.iconst 1, 1) := by decide +kernel
theorem dX2_keep_63 : decode cX2_keep 63 = .ok (.iadd, 1) := by decide +kernel
theorem dX2_keep_64 : decode cX2_keep 64 = .ok (.bipush 8, 2) := by decide +kernel
theorem dX2_keep_66 : decode cX2_keep 66 = .ok (.invokestatic 29, 3) := by decide +kernel
theorem dX2_keep_69 : decode cX2_keep 69 = .ok (.putfield 21, 3) := by decide +kernel
theorem dX2_keep_72 : decode cX2_keep 72 = .ok (.return_, 1) := by decide +kernel
theorem dX2_giveBack_0 : decode cX2_giveBack 0 = .ok (.aload_n 0, 1) := by decide +kernel
theorem dX2_giveBack_1 : decode cX2_giveBack 1 = .ok (.aload_n 0, 1) := by decide +kernel
theorem dX2_giveBack_2 : decode cX2_giveBack 2 = .ok (.getfield 17, 3) := by decide +kernel
theorem dX2_giveBack_5 : decode cX2_giveBack 5 = .ok (.bipush 8, 2) := by decide +kernel
theorem dX2_giveBack_7 : decode cX2_giveBack 7 = .ok (.iadd, 1) := by decide +kernel
theorem dX2_giveBack_8 : decode cX2_giveBack 8 = .ok (.iconst 1, 1) := by decide +kernel
theorem dX2_giveBack_9 : decode cX2_giveBack 9 = .ok (.isub, 1) := by decide +kernel
theorem dX2_giveBack_10 : decode cX2_giveBack 10 = .ok (.bipush 8, 2) := by decide +kernel
theorem dX2_giveBack_12 : decode cX2_giveBack 12 = .ok (.irem, 1) := by decide +kernel
theorem dX2_giveBack_13 : decode cX2_giveBack 13 = .ok (.putfield 17, 3) := by decide +kernel
theorem dX2_giveBack_16 : decode cX2_giveBack 16 = .ok (.aload_n 0, 1) := by decide +kernel
theorem dX2_giveBack_17 : decode cX2_giveBack 17 = .ok (.aload_n 0, 1) := by decide +kernel
theorem dX2_giveBack_18 : decode cX2_giveBack 18 = .ok (.getfield 21, 3) := by decide +kernel
theorem dX2_giveBack_21 : decode cX2_giveBack 21 = .ok (.iconst 1, 1) := by decide +kernel
theorem dX2_giveBack_22 : decode cX2_giveBack 22 = .ok (.isub, 1) := by decide +kernel
theorem dX2_giveBack_23 : decode cX2_giveBack 23 = .ok (.iconst 0, 1) := by decide +kernel
theorem dX2_giveBack_24 : decode cX2_giveBack 24 = .ok (.invokestatic 35, 3) := by decide +kernel
theorem dX2_giveBack_27 : decode cX2_giveBack 27 = .ok (.putfield 21, 3) := by decide +kernel
theorem dX2_giveBack_30 : decode cX2_giveBack 30 = .ok (.aload_n 0, 1) := by decide +kernel
theorem dX2_giveBack_31 : decode cX2_giveBack 31 = .ok (.getfield 17, 3) := by decide +kernel
theorem dX2_giveBack_34 : decode cX2_giveBack 34 = .ok (.ifCond .lt 40, 3) := by decide +kernel
theorem dX2_giveBack_37 : decode cX2_giveBack 37 = .ok (.aload_n 0, 1) := by decide +kernel
theorem dX2_giveBack_38 : decode cX2_giveBack 38 = .ok (.getfield 17, 3) := by decide +kernel
theorem dX2_giveBack_41 : decode cX2_giveBack 41 = .ok (.aload_n 0, 1) := by decide +kernel
theorem dX2_giveBack_42 : decode cX2_giveBack 42 = .ok (.getfield 11, 3) := by decide +kernel
theorem dX2_giveBack_45 : decode cX2_giveBack 45 = .ok (.arraylength, 1) := by decide +kernel
theorem dX2_giveBack_46 : decode cX2_giveBack 46 = .ok (.if_icmp .ge 28, 3) := by decide +kernel
theorem dX2_giveBack_49 : decode cX2_giveBack 49 = .ok (.aload_n 0, 1) := by decide +kernel
theorem dX2_giveBack_50 : decode cX2_giveBack 50 = .ok (.getfield 11, 3) := by decide +kernel
theorem dX2_giveBack_53 : decode cX2_giveBack 53 = .ok (.aload_n 0, 1) := by decide +kernel
theorem dX2_giveBack_54 : decode cX2_giveBack 54 = .ok (.getfield 17, 3) := by decide +kernel
theorem dX2_giveBack_57 : decode cX2_giveBack 57 = .ok (.aaload, 1) := by decide +kernel
theorem dX2_giveBack_58 : decode cX2_giveBack 58 = .ok (.ifnull 16, 3) := by decide +kernel
theorem dX2_giveBack_61 : decode cX2_giveBack 61 = .ok (.aload_n 1, 1) := by decide +kernel
theorem dX2_giveBack_62 : decode cX2_giveBack 62 = .ok (.aload_n 0, 1) := by decide +kernel
theorem dX2_giveBack_63 : decode cX2_giveBack 63 = .ok (.getfield 11, 3) := by decide +kernel
theorem dX2_giveBack_66 : decode cX2_giveBack 66 = .ok (.aload_n 0, 1) := by decide +kernel
theorem dX2_giveBack_67 : decode cX2_giveBack 67 = .ok (.getfield 17, 3) := by decide +kernel
theorem dX2_giveBack_70 : decode cX2_giveBack 70 = .ok (.aaload, 1) := by decide +kernel
theorem dX2_giveBack_71 : decode cX2_giveBack 71 = .ok (.invokevirtual 25, 3) := by decide +kernel
theorem dX2_giveBack_74 : decode cX2_giveBack 74 = .ok (.return_, 1) := by decide +kernel
theorem dX2_forget_0 : decode cX2_forget 0 = .ok (.aload_n 0, 1) := by decide +kernel
theorem dX2_forget_1 : decode cX2_forget 1 = .ok (.iconst 0, 1) := by decide +kernel
theorem dX2_forget_2 : decode cX2_forget 2 = .ok (.putfield 21, 3) := by decide +kernel
theorem dX2_forget_5 : decode cX2_forget 5 = .ok (.return_, 1) := by decide +kernel
theorem dX3_init_0 : decode cX3_init 0 = .ok (.aload_n 0, 1) := by decide +kernel
theorem dX3_init_1 : decode cX3_init 1 = .ok (.invokespecial 3, 3) := by decide +kernel
theorem dX3_init_4 : decode cX3_init 4 = .ok (.aload_n 0, 1) := by decide +kernel
theorem dX3_init_5 : decode cX3_init 5 = .ok (.bipush 32, 2) := by decide +kernel
theorem dX3_init_7 : decode cX3_init 7 = .ok (.newarray .int, 2) := by decide +kernel
theorem dX3_init_9 : decode cX3_init 9 = .ok (.putfield 9, 3) := by decide +kernel
theorem dX3_init_12 : decode cX3_init 12 = .ok (.aload_n 0, 1) := by decide +kernel
theorem dX3_init_13 : decode cX3_init 13 = .ok (.bipush 32, 2) := by decide +kernel
theorem dX3_init_15 : decode cX3_init 15 = .ok (.newarray .int, 2) := by decide +kernel
theorem dX3_init_17 : decode cX3_init 17 = .ok (.putfield 15, 3) := by decide +kernel
theorem dX3_init_20 : decode cX3_init 20 = .ok (.aload_n 0, 1) := by decide +kernel
theorem dX3_init_21 : decode cX3_init 21 = .ok (.bipush 32, 2) := by decide +kernel
theorem dX3_init_23 : decode cX3_init 23 = .ok (.newarray .int, 2) := by decide +kernel
theorem dX3_init_25 : decode cX3_init 25 = .ok (.putfield 18, 3) := by decide +kernel
theorem dX3_init_28 : decode cX3_init 28 = .ok (.aload_n 0, 1) := by decide +kernel
theorem dX3_init_29 : decode cX3_init 29 = .ok (.bipush 33, 2) := by decide +kernel
theorem dX3_init_31 : decode cX3_init 31 = .ok (.newarray .int, 2) := by decide +kernel
theorem dX3_init_33 : decode cX3_init 33 = .ok (.putfield 21, 3) := by decide +kernel
theorem dX3_init_36 : decode cX3_init 36 = .ok (.aload_n 0, 1) := by decide +kernel
theorem dX3_init_37 : decode cX3_init 37 = .ok (.bipush 33, 2) := by decide +kernel
theorem dX3_init_39 : decode cX3_init 39 = .ok (.newarray .int, 2) := by decide +kernel
theorem dX3_init_41 : decode cX3_init 41 = .ok (.putfield 24, 3) := by decide +kernel
theorem dX3_init_44 : decode cX3_init 44 = .ok (.aload_n 0, 1) := by decide +kernel
theorem dX3_init_45 : decode cX3_init 45 = .ok (.bipush 16, 2) := by decide +kernel
theorem dX3_init_47 : decode cX3_init 47 = .ok (.newarray .int, 2) := by decide +kernel
theorem dX3_init_49 : decode cX3_init 49 = .ok (.putfield 27, 3) := by decide +kernel
theorem dX3_init_52 : decode cX3_init 52 = .ok (.iconst 1, 1) := by decide +kernel
theorem dX3_init_53 : decode cX3_init 53 = .ok (.aload_n 0, 1) := by decide +kernel
theorem dX3_init_54 : decode cX3_init 54 = .ok (.getfield 27, 3) := by decide +kernel
theorem dX3_init_57 : decode cX3_init 57 = .ok (.arraylength, 1) := by decide +kernel
theorem dX3_init_58 : decode cX3_init 58 = .ok (.if_icmp .ge 11, 3) := by decide +kernel
theorem dX3_init_61 : decode cX3_init 61 = .ok (.aload_n 0, 1) := by decide +kernel
theorem dX3_init_62 : decode cX3_init 62 = .ok (.getfield 27, 3) := by decide +kernel
theorem dX3_init_65 : decode cX3_init 65 = .ok (.iconst 1, 1) := by decide +kernel
theorem dX3_init_66 : decode cX3_init 66 = .ok (.bipush 50, 2) := by decide +kernel
theorem dX3_init_68 : decode cX3_init 68 = .ok (.iastore, 1) := by decide +kernel
theorem dX3_init_69 : decode cX3_init 69 = .ok (.return_, 1) := by decide +kernel
theorem dX3_copyFrom_0 : decode cX3_copyFrom 0 = .ok (.aload_n 1, 1) := by decide +kernel
theorem dX3_copyFrom_1 : decode cX3_copyFrom 1 = .ok (.getfield 9, 3) := by decide +kernel
theorem dX3_copyFrom_4 : decode cX3_copyFrom 4 = .ok (.aload_n 0, 1) := by decide +kernel
theorem dX3_copyFrom_5 : decode cX3_copyFrom 5 = .ok (.getfield 9, 3) := by decide +kernel
theorem dX3_copyFrom_8 : decode cX3_copyFrom 8 = .ok (.invokestatic 30, 3) := by decide +kernel
theorem dX3_copyFrom_11 : decode cX3_copyFrom 11 = .ok (.aload_n 1, 1) := by decide +kernel
theorem dX3_copyFrom_12 : decode cX3_copyFrom 12 = .ok (.getfield 15, 3) := by decide +kernel
theorem dX3_copyFrom_15 : decode cX3_copyFrom 15 = .ok (.aload_n 0, 1) := by decide +kernel
theorem dX3_copyFrom_16 : decode cX3_copyFrom 16 = .ok (.getfield 15, 3) := by decide +kernel
theorem dX3_copyFrom_19 : decode cX3_copyFrom 19 = .ok (.invokestatic 30, 3) := by decide +kernel
theorem dX3_copyFrom_22 : decode cX3_copyFrom 22 = .ok (.aload_n 1, 1) := by decide +kernel
theorem dX3_copyFrom_23 : decode cX3_copyFrom 23 = .ok (.getfield 18, 3) := by decide +kernel
theorem dX3_copyFrom_26 : decode cX3_copyFrom 26 = .ok (.aload_n 0, 1) := by decide +kernel
theorem dX3_copyFrom_27 : decode cX3_copyFrom 27 = .ok (.getfield 18, 3) := by decide +kernel
theorem dX3_copyFrom_30 : decode cX3_copyFrom 30 = .ok (.invokestatic 30, 3) := by decide +kernel
theorem dX3_copyFrom_33 : decode cX3_copyFrom 33 = .ok (.aload_n 1, 1) := by decide +kernel
theorem dX3_copyFrom_34 : decode cX3_copyFrom 34 = .ok (.getfield 21, 3) := by decide +kernel
theorem dX3_copyFrom_37 : decode cX3_copyFrom 37 = .ok (.aload_n 0, 1) := by decide +kernel
theorem dX3_copyFrom_38 : decode cX3_copyFrom 38 = .ok (.getfield 21, 3) := by decide +kernel
theorem dX3_copyFrom_41 : decode cX3_copyFrom 41 = .ok (.invokestatic 30, 3) := by decide +kernel
theorem dX3_copyFrom_44 : decode cX3_copyFrom 44 = .ok (.aload_n 1, 1) := by decide +kernel
theorem dX3_copyFrom_45 : decode cX3_copyFrom 45 = .ok (.getfield 24, 3) := by decide +kernel
theorem dX3_copyFrom_48 : decode cX3_copyFrom 48 = .ok (.aload_n 0, 1) := by decide +kernel
theorem dX3_copyFrom_49 : decode cX3_copyFrom 49 = .ok (.getfield 24, 3) := by decide +kernel
theorem dX3_copyFrom_52 : decode cX3_copyFrom 52 = .ok (.invokestatic 30, 3) := by decide +kernel
theorem dX3_copyFrom_55 : decode cX3_copyFrom 55 = .ok (.aload_n 1, 1) := by decide +kernel
theorem dX3_copyFrom_56 : decode cX3_copyFrom 56 = .ok (.getfield 27, 3) := by decide +kernel
theorem dX3_copyFrom_59 : decode cX3_copyFrom 59 = .ok (.aload_n 0, 1) := by decide +kernel
theorem dX3_copyFrom_60 : decode cX3_copyFrom 60 = .ok (.getfield 27, 3) := by decide +kernel
theorem dX3_copyFrom_63 : decode cX3_copyFrom 63 = .ok (.invokestatic 30, 3) := by decide +kernel
theorem dX3_copyFrom_66 : decode cX3_copyFrom 66 = .ok (.return_, 1) := by decide +kernel
theorem dX3_isEmpty_0 : decode cX3_isEmpty 0 = .ok (.aload_n 0, 1) := by decide +kernel
theorem dX3_isEmpty_1 : decode cX3_isEmpty 1 = .ok (.getfield 15, 3) := by decide +kernel
theorem dX3_isEmpty_4 : decode cX3_isEmpty 4 = .ok (.iload_n 1, 1) := by decide +kernel
theorem dX3_isEmpty_5 : decode cX3_isEmpty 5 = .ok (.invokestatic 34, 3) := by decide +kernel
theorem dX3_isEmpty_8 : decode cX3_isEmpty 8 = .ok (.ifCond .ne 7, 3) := by decide +kernel
theorem dX3_isEmpty_11 : decode cX3_isEmpty 11 = .ok (.iconst 1, 1) := by decide +kernel
theorem dX3_isEmpty_12 : decode cX3_isEmpty 12 = .ok (.goto 4, 3) := by decide +kernel
theorem dX3_isEmpty_15 : decode cX3_isEmpty 15 = .ok (.iconst 0, 1) := by decide +kernel
theorem dX3_isEmpty_16 : decode cX3_isEmpty 16 = .ok (.ireturn, 1) := by decide +kernel
theorem dX3_kindIn_0 : decode cX3_kindIn 0 = .ok (.aload_n 0, 1) := by decide +kernel
theorem dX3_kindIn_1 : decode cX3_kindIn 1 = .ok (.getfield 9, 3) := by decide +kernel
theorem dX3_kindIn_4 : decode cX3_kindIn 4 = .ok (.iload_n 1, 1) := by decide +kernel
theorem dX3_kindIn_5 : decode cX3_kindIn 5 = .ok (.invokestatic 34, 3) := by decide +kernel
theorem dX3_kindIn_8 : decode cX3_kindIn 8 = .ok (.ireturn, 1) := by decide +kernel
theorem dX3_sacksIn_0 : decode cX3_sacksIn 0 = .ok (.aload_n 0, 1) := by decide +kernel
theorem dX3_sacksIn_1 : decode cX3_sacksIn 1 = .ok (.getfield 15, 3) := by decide +kernel
theorem dX3_sacksIn_4 : decode cX3_sacksIn 4 = .ok (.iload_n 1, 1) := by decide +kernel
theorem dX3_sacksIn_5 : decode cX3_sacksIn 5 = .ok (.invokestatic 34, 3) := by decide +kernel
theorem dX3_sacksIn_8 : decode cX3_sacksIn 8 = .ok (.ireturn, 1) := by decide +kernel
theorem dX3_ageIn_0 : decode cX3_ageIn 0 = .ok (.aload_n 0, 1) := by decide +kernel
theorem dX3_ageIn_1 : decode cX3_ageIn 1 = .ok (.getfield 18, 3) := by decide +kernel
theorem dX3_ageIn_4 : decode cX3_ageIn 4 = .ok (.iload_n 1, 1) := by decide +kernel
theorem dX3_ageIn_5 : decode cX3_ageIn 5 = .ok (.invokestatic 34, 3) := by decide +kernel
theorem dX3_ageIn_8 : decode cX3_ageIn 8 = .ok (.ireturn, 1) := by decide +kernel
theorem dX3_sumOf_0 : decode cX3_sumOf 0 = .ok (.aload_n 0, 1) := by decide +kernel
theorem dX3_sumOf_1 : decode cX3_sumOf 1 = .ok (.getfield 21, 3) := by decide +kernel
theorem dX3_sumOf_4 : decode cX3_sumOf 4 = .ok (.iload_n 1, 1) := by decide +kernel
theorem dX3_sumOf_5 : decode cX3_sumOf 5 = .ok (.invokestatic 34, 3) := by decide +kernel
theorem dX3_sumOf_8 : decode cX3_sumOf 8 = .ok (.ireturn, 1) := by decide +kernel
theorem dX3_isCracked_0 : decode cX3_isCracked 0 = .ok (.aload_n 0, 1) := by decide +kernel
theorem dX3_isCracked_1 : decode cX3_isCracked 1 = .ok (.getfield 24, 3) := by decide +kernel
theorem dX3_isCracked_4 : decode cX3_isCracked 4 = .ok (.iload_n 1, 1) := by decide +kernel
theorem dX3_isCracked_5 : decode cX3_isCracked 5 = .ok (.invokestatic 34, 3) := by decide +kernel
theorem dX3_isCracked_8 : decode cX3_isCracked 8 = .ok (.iconst 1, 1) := by decide +kernel
theorem dX3_isCracked_9 : decode cX3_isCracked 9 = .ok (.if_icmp .ne 7, 3) := by decide +kernel
theorem dX3_isCracked_12 : decode cX3_isCracked 12 = .ok (.iconst 1, 1) := by decide +kernel
theorem dX3_isCracked_13 : decode cX3_isCracked 13 = .ok (.goto 4, 3) := by decide +kernel
theorem dX3_isCracked_16 : decode cX3_isCracked 16 = .ok (.iconst 0, 1) := by decide +kernel
theorem dX3_isCracked_17 : decode cX3_isCracked 17 = .ok (.ireturn, 1) := by decide +kernel
theorem dX3_makeSound_0 : decode cX3_makeSound 0 = .ok (.aload_n 0, 1) := by decide +kernel
theorem dX3_makeSound_1 : decode cX3_makeSound 1 = .ok (.getfield 24, 3) := by decide +kernel
theorem dX3_makeSound_4 : decode cX3_makeSound 4 = .ok (.iload_n 1, 1) := by decide +kernel
theorem dX3_makeSound_5 : decode cX3_makeSound 5 = .ok (.iconst 0, 1) := by decide +kernel
theorem dX3_makeSound_6 : decode cX3_makeSound 6 = .ok (.invokestatic 38, 3) := by decide +kernel
theorem dX3_makeSound_9 : decode cX3_makeSound 9 = .ok (.return_, 1) := by decide +kernel
theorem dX3_counted_0 : decode cX3_counted 0 = .ok (.aload_n 0, 1) := by decide +kernel
theorem dX3_counted_1 : decode cX3_counted 1 = .ok (.getfield 27, 3) := by decide +kernel
theorem dX3_counted_4 : decode cX3_counted 4 = .ok (.iload_n 1, 1) := by decide +kernel
theorem dX3_counted_5 : decode cX3_counted 5 = .ok (.invokestatic 34, 3) := by decide +kernel
theorem dX3_counted_8 : decode cX3_counted 8 = .ok (.ireturn, 1) := by decide +kernel
theorem dX3_count_0 : decode cX3_count 0 = .ok (.aload_n 0, 1) := by decide +kernel
theorem dX3_count_1 : decode cX3_count 1 = .ok (.getfield 27, 3) := by decide +kernel
theorem dX3_count_4 : decode cX3_count 4 = .ok (.iload_n 1, 1) := by decide +kernel
theorem dX3_count_5 : decode cX3_count 5 = .ok (.aload_n 0, 1) := by decide +kernel
theorem dX3_count_6 : decode cX3_count 6 = .ok (.getfield 27, 3) := by decide +kernel
theorem dX3_count_9 : decode cX3_count 9 = .ok (.iload_n 1, 1) := by decide +kernel
theorem dX3_count_10 : decode cX3_count 10 = .ok (.invokestatic 34, 3) := by decide +kernel
theorem dX3_count_13 : decode cX3_count 13 = .ok (.iload_n 2, 1) := by decide +kernel
theorem dX3_count_14 : decode cX3_count 14 = .ok (.iadd, 1) := by decide +kernel
theorem dX3_count_15 : decode cX3_count 15 = .ok (.invokestatic 38, 3) := by decide +kernel
theorem dX3_count_18 : decode cX3_count 18 = .ok (.return_, 1) := by decide +kernel
theorem dX3_bring_0 : decode cX3_bring 0 = .ok (.aload_n 0, 1) := by decide +kernel
theorem dX3_bring_1 : decode cX3_bring 1 = .ok (.getfield 9, 3) := by decide +kernel
theorem dX3_bring_4 : decode cX3_bring 4 = .ok (.iload_n 1, 1) := by decide +kernel
theorem dX3_bring_5 : decode cX3_bring 5 = .ok (.iload_n 2, 1) := by decide +kernel
theorem dX3_bring_6 : decode cX3_bring 6 = .ok (.invokestatic 38, 3) := by decide +kernel
theorem dX3_bring_9 : decode cX3_bring 9 = .ok (.aload_n 0, 1) := by decide +kernel
theorem dX3_bring_10 : decode cX3_bring 10 = .ok (.getfield 18, 3) := by decide +kernel
theorem dX3_bring_13 : decode cX3_bring 13 = .ok (.iload_n 1, 1) := by decide +kernel
theorem dX3_bring_14 : decode cX3_bring 14 = .ok (.iload 4, 2) := by decide +kernel
theorem dX3_bring_16 : decode cX3_bring 16 = .ok (.invokestatic 38, 3) := by decide +kernel
theorem dX3_bring_19 : decode cX3_bring 19 = .ok (.aload_n 0, 1) := by decide +kernel
theorem dX3_bring_20 : decode cX3_bring 20 = .ok (.iload_n 1, 1) := by decide +kernel
theorem dX3_bring_21 : decode cX3_bring 21 = .ok (.iload_n 3, 1) := by decide +kernel
theorem dX3_bring_22 : decode cX3_bring 22 = .ok (.invokevirtual 42, 3) := by decide +kernel
theorem dX3_bring_25 : decode cX3_bring 25 = .ok (.aload_n 0, 1) := by decide +kernel
theorem dX3_bring_26 : decode cX3_bring 26 = .ok (.iload_n 1, 1) := by decide +kernel
theorem dX3_bring_27 : decode cX3_bring 27 = .ok (.invokevirtual 46, 3) := by decide +kernel
theorem dX3_bring_30 : decode cX3_bring 30 = .ok (.ireturn, 1) := by decide +kernel
theorem dX3_remove_0 : decode cX3_remove 0 = .ok (.aload_n 0, 1) := by decide +kernel
theorem dX3_remove_1 : decode cX3_remove 1 = .ok (.iload_n 1, 1) := by decide +kernel
theorem dX3_remove_2 : decode cX3_remove 2 = .ok (.iload_n 2, 1) := by decide +kernel
theorem dX3_remove_3 : decode cX3_remove 3 = .ok (.ineg, 1) := by decide +kernel
theorem dX3_remove_4 : decode cX3_remove 4 = .ok (.invokevirtual 42, 3) := by decide +kernel
theorem dX3_remove_7 : decode cX3_remove 7 = .ok (.aload_n 0, 1) := by decide +kernel
theorem dX3_remove_8 : decode cX3_remove 8 = .ok (.iload_n 1, 1) := by decide +kernel
theorem dX3_remove_9 : decode cX3_remove 9 = .ok (.invokevirtual 50, 3) := by decide +kernel
theorem dX3_remove_12 : decode cX3_remove 12 = .ok (.ifCond .eq 21, 3) := by decide +kernel
theorem dX3_remove_15 : decode cX3_remove 15 = .ok (.aload_n 0, 1) := by decide +kernel
theorem dX3_remove_16 : decode cX3_remove 16 = .ok (.getfield 9, 3) := by decide +kernel
theorem dX3_remove_19 : decode cX3_remove 19 = .ok (.iload_n 1, 1) := by decide +kernel
theorem dX3_remove_20 : decode cX3_remove 20 = .ok (.iconst 0, 1) := by decide +kernel
theorem dX3_remove_21 : decode cX3_remove 21 = .ok (.invokestatic 38, 3) := by decide +kernel
theorem dX3_remove_24 : decode cX3_remove 24 = .ok (.aload_n 0, 1) := by decide +kernel
theorem dX3_remove_25 : decode cX3_remove 25 = .ok (.getfield 18, 3) := by decide +kernel
theorem dX3_remove_28 : decode cX3_remove 28 = .ok (.iload_n 1, 1) := by decide +kernel
theorem dX3_remove_29 : decode cX3_remove 29 = .ok (.iconst 0, 1) := by decide +kernel
theorem dX3_remove_30 : decode cX3_remove 30 = .ok (.invokestatic 38, 3) := by decide +kernel
theorem dX3_remove_33 : decode cX3_remove 33 = .ok (.return_, 1) := by decide +kernel
theorem dX3_changeSacks_0 : decode cX3_changeSacks 0 = .ok (.aload_n 0, 1) := by decide +kernel
theorem dX3_changeSacks_1 : decode cX3_changeSacks 1 = .ok (.getfield 15, 3) := by decide +kernel
theorem dX3_changeSacks_4 : decode cX3_changeSacks 4 = .ok (.iload_n 1, 1) := by decide +kernel
theorem dX3_changeSacks_5 : decode cX3_changeSacks 5 = .ok (.aload_n 0, 1) := by decide +kernel
theorem dX3_changeSacks_6 : decode cX3_changeSacks 6 = .ok (.getfield 15, 3) := by decide +kernel
theorem dX3_changeSacks_9 : decode cX3_changeSacks 9 = .ok (.iload_n 1, 1) := by decide +kernel
theorem dX3_changeSacks_10 : decode cX3_changeSacks 10 = .ok (.invokestatic 34, 3) := by decide +kernel
theorem dX3_changeSacks_13 : decode cX3_changeSacks 13 = .ok (.iload_n 2, 1) := by decide +kernel
theorem dX3_changeSacks_14 : decode cX3_changeSacks 14 = .ok (.iadd, 1) := by decide +kernel
theorem dX3_changeSacks_15 : decode cX3_changeSacks 15 = .ok (.invokestatic 38, 3) := by decide +kernel
theorem dX3_changeSacks_18 : decode cX3_changeSacks 18 = .ok (.iload_n 1, 1) := by decide +kernel
theorem dX3_changeSacks_19 : decode cX3_changeSacks 19 = .ok (.iconst 1, 1) := by decide +kernel
theorem dX3_changeSacks_20 : decode cX3_changeSacks 20 = .ok (.iadd, 1) := by decide +kernel
theorem dX3_changeSacks_21 : decode cX3_changeSacks 21 = .ok (.istore_n 3, 1) := by decide +kernel
theorem dX3_changeSacks_22 : decode cX3_changeSacks 22 = .ok (.iconst 0, 1) := by decide +kernel
theorem dX3_changeSacks_23 : decode cX3_changeSacks 23 = .ok (.istore 4, 2) := by decide +kernel
theorem dX3_changeSacks_25 : decode cX3_changeSacks 25 = .ok (.iload 4, 2) := by decide +kernel
theorem dX3_changeSacks_27 : decode cX3_changeSacks 27 = .ok (.bipush 32, 2) := by decide +kernel
theorem dX3_changeSacks_29 : decode cX3_changeSacks 29 = .ok (.if_icmp .ge 40, 3) := by decide +kernel
theorem dX3_changeSacks_32 : decode cX3_changeSacks 32 = .ok (.iload_n 3, 1) := by decide +kernel
theorem dX3_changeSacks_33 : decode cX3_changeSacks 33 = .ok (.bipush 32, 2) := by decide +kernel
theorem dX3_changeSacks_35 : decode cX3_changeSacks 35 = .ok (.if_icmp .gt 34, 3) := by decide +kernel
theorem dX3_changeSacks_38 : decode cX3_changeSacks 38 = .ok (.aload_n 0, 1) := by decide +kernel
theorem dX3_changeSacks_39 : decode cX3_changeSacks 39 = .ok (.getfield 21, 3) := by decide +kernel
theorem dX3_changeSacks_42 : decode cX3_changeSacks 42 = .ok (.iload_n 3, 1) := by decide +kernel
theorem dX3_changeSacks_43 : decode cX3_changeSacks 43 = .ok (.aload_n 0, 1) := by decide +kernel
theorem dX3_changeSacks_44 : decode cX3_changeSacks 44 = .ok (.getfield 21, 3) := by decide +kernel
theorem dX3_changeSacks_47 : decode cX3_changeSacks 47 = .ok (.iload_n 3, 1) := by decide +kernel
theorem dX3_changeSacks_48 : decode cX3_changeSacks 48 = .ok (.invokestatic 34, 3) := by decide +kernel
theorem dX3_changeSacks_51 : decode cX3_changeSacks 51 = .ok (.iload_n 2, 1) := by decide +kernel
theorem dX3_changeSacks_52 : decode cX3_changeSacks 52 = .ok (.iadd, 1) := by decide +kernel
theorem dX3_changeSacks_53 : decode cX3_changeSacks 53 = .ok (.invokestatic 38, 3) := by decide +kernel
theorem dX3_changeSacks_56 : decode cX3_changeSacks 56 = .ok (.iload_n 3, 1) := by decide +kernel
theorem dX3_changeSacks_57 : decode cX3_changeSacks 57 = .ok (.iload_n 3, 1) := by decide +kernel
theorem dX3_changeSacks_58 : decode cX3_changeSacks 58 = .ok (.invokestatic 54, 3) := by decide +kernel
theorem dX3_changeSacks_61 : decode cX3_changeSacks 61 = .ok (.iadd, 1) := by decide +kernel
theorem dX3_changeSacks_62 : decode cX3_changeSacks 62 = .ok (.istore_n 3, 1) := by decide +kernel
theorem dX3_changeSacks_63 : decode cX3_changeSacks 63 = .ok (.iinc 4 1, 3) := by decide +kernel
theorem dX3_changeSacks_66 : decode cX3_changeSacks 66 = .ok (.goto (-41), 3) := by decide +kernel
theorem dX3_changeSacks_69 : decode cX3_changeSacks 69 = .ok (.return_, 1) := by decide +kernel
theorem dX3_crackOver_0 : decode cX3_crackOver 0 = .ok (.iconst 0, 1) := by decide +kernel
theorem dX3_crackOver_1 : decode cX3_crackOver 1 = .ok (.istore_n 2, 1) := by decide +kernel
theorem dX3_crackOver_2 : decode cX3_crackOver 2 = .ok (.iload_n 1, 1) := by decide +kernel
theorem dX3_crackOver_3 : decode cX3_crackOver 3 = .ok (.iconst 1, 1) := by decide +kernel
theorem dX3_crackOver_4 : decode cX3_crackOver 4 = .ok (.iadd, 1) := by decide +kernel
theorem dX3_crackOver_5 : decode cX3_crackOver 5 = .ok (.istore_n 3, 1) := by decide +kernel
theorem dX3_crackOver_6 : decode cX3_crackOver 6 = .ok (.iconst 0, 1) := by decide +kernel
theorem dX3_crackOver_7 : decode cX3_crackOver 7 = .ok (.istore 4, 2) := by decide +kernel
theorem dX3_crackOver_9 : decode cX3_crackOver 9 = .ok (.iload 4, 2) := by decide +kernel
theorem dX3_crackOver_11 : decode cX3_crackOver 11 = .ok (.bipush 32, 2) := by decide +kernel
theorem dX3_crackOver_13 : decode cX3_crackOver 13 = .ok (.if_icmp .ge 54, 3) := by decide +kernel
theorem dX3_crackOver_16 : decode cX3_crackOver 16 = .ok (.iload_n 3, 1) := by decide +kernel
theorem dX3_crackOver_17 : decode cX3_crackOver 17 = .ok (.bipush 32, 2) := by decide +kernel
theorem dX3_crackOver_19 : decode cX3_crackOver 19 = .ok (.if_icmp .gt 48, 3) := by decide +kernel
theorem dX3_crackOver_22 : decode cX3_crackOver 22 = .ok (.aload_n 0, 1) := by decide +kernel
theorem dX3_crackOver_23 : decode cX3_crackOver 23 = .ok (.iload_n 3, 1) := by decide +kernel
theorem dX3_crackOver_24 : decode cX3_crackOver 24 = .ok (.invokevirtual 57, 3) := by decide +kernel
theorem dX3_crackOver_27 : decode cX3_crackOver 27 = .ok (.ifCond .ne 27, 3) := by decide +kernel
theorem dX3_crackOver_30 : decode cX3_crackOver 30 = .ok (.aload_n 0, 1) := by decide +kernel
theorem dX3_crackOver_31 : decode cX3_crackOver 31 = .ok (.iload_n 3, 1) := by decide +kernel
theorem dX3_crackOver_32 : decode cX3_crackOver 32 = .ok (.invokevirtual 60, 3) := by decide +kernel
theorem dX3_crackOver_35 : decode cX3_crackOver 35 = .ok (.iload_n 3, 1) := by decide +kernel
theorem dX3_crackOver_36 : decode cX3_crackOver 36 = .ok (.invokestatic 63, 3) := by decide +kernel
theorem dX3_crackOver_39 : decode cX3_crackOver 39 = .ok (.if_icmp .le 15, 3) := by decide +kernel
theorem dX3_crackOver_42 : decode cX3_crackOver 42 = .ok (.aload_n 0, 1) := by decide +kernel
theorem dX3_crackOver_43 : decode cX3_crackOver 43 = .ok (.getfield 24, 3) := by decide +kernel
theorem dX3_crackOver_46 : decode cX3_crackOver 46 = .ok (.iload_n 3, 1) := by decide +kernel
theorem dX3_crackOver_47 : decode cX3_crackOver 47 = .ok (.iconst 1, 1) := by decide +kernel
theorem dX3_crackOver_48 : decode cX3_crackOver 48 = .ok (.invokestatic 38, 3) := by decide +kernel
theorem dX3_crackOver_51 : decode cX3_crackOver 51 = .ok (.iinc 2 1, 3) := by decide +kernel
theorem dX3_crackOver_54 : decode cX3_crackOver 54 = .ok (.iload_n 3, 1) := by decide +kernel
theorem dX3_crackOver_55 : decode cX3_crackOver 55 = .ok (.iload_n 3, 1) := by decide +kernel
theorem dX3_crackOver_56 : decode cX3_crackOver 56 = .ok (.invokestatic 54, 3) := by decide +kernel
theorem dX3_crackOver_59 : decode cX3_crackOver 59 = .ok (.iadd, 1) := by decide +kernel
theorem dX3_crackOver_60 : decode cX3_crackOver 60 = .ok (.istore_n 3, 1) := by decide +kernel
theorem dX3_crackOver_61 : decode cX3_crackOver 61 = .ok (.iinc 4 1, 3) := by decide +kernel
theorem dX3_crackOver_64 : decode cX3_crackOver 64 = .ok (.goto (-55), 3) := by decide +kernel
theorem dX3_crackOver_67 : decode cX3_crackOver 67 = .ok (.aload_n 0, 1) := by decide +kernel
theorem dX3_crackOver_68 : decode cX3_crackOver 68 = .ok (.bipush 14, 2) := by decide +kernel
theorem dX3_crackOver_70 : decode cX3_crackOver 70 = .ok (.iload_n 2, 1) := by decide +kernel
theorem dX3_crackOver_71 : decode cX3_crackOver 71 = .ok (.invokevirtual 66, 3) := by decide +kernel
theorem dX3_crackOver_74 : decode cX3_crackOver 74 = .ok (.iload_n 2, 1) := by decide +kernel
theorem dX3_crackOver_75 : decode cX3_crackOver 75 = .ok (.ireturn, 1) := by decide +kernel
theorem dX3_cracksUnder_0 : decode cX3_cracksUnder 0 = .ok (.iload_n 1, 1) := by decide +kernel
theorem dX3_cracksUnder_1 : decode cX3_cracksUnder 1 = .ok (.iconst 1, 1) := by decide +kernel
theorem dX3_cracksUnder_2 : decode cX3_cracksUnder 2 = .ok (.iadd, 1) := by decide +kernel
theorem dX3_cracksUnder_3 : decode cX3_cracksUnder 3 = .ok (.istore_n 3, 1) := by decide +kernel
theorem dX3_cracksUnder_4 : decode cX3_cracksUnder 4 = .ok (.iconst 0, 1) := by decide +kernel
theorem dX3_cracksUnder_5 : decode cX3_cracksUnder 5 = .ok (.istore 4, 2) := by decide +kernel
theorem dX3_cracksUnder_7 : decode cX3_cracksUnder 7 = .ok (.iload 4, 2) := by decide +kernel
theorem dX3_cracksUnder_9 : decode cX3_cracksUnder 9 = .ok (.bipush 32, 2) := by decide +kernel
theorem dX3_cracksUnder_11 : decode cX3_cracksUnder 11 = .ok (.if_icmp .ge 46, 3) := by decide +kernel
theorem dX3_cracksUnder_14 : decode cX3_cracksUnder 14 = .ok (.iload_n 3, 1) := by decide +kernel
theorem dX3_cracksUnder_15 : decode cX3_cracksUnder 15 = .ok (.bipush 32, 2) := by decide +kernel
theorem dX3_cracksUnder_17 : decode cX3_cracksUnder 17 = .ok (.if_icmp .gt 40, 3) := by decide +kernel
theorem dX3_cracksUnder_20 : decode cX3_cracksUnder 20 = .ok (.aload_n 0, 1) := by decide +kernel
theorem dX3_cracksUnder_21 : decode cX3_cracksUnder 21 = .ok (.iload_n 3, 1) := by decide +kernel
theorem dX3_cracksUnder_22 : decode cX3_cracksUnder 22 = .ok (.invokevirtual 57, 3) := by decide +kernel
theorem dX3_cracksUnder_25 : decode cX3_cracksUnder 25 = .ok (.ifCond .ne 19, 3) := by decide +kernel
theorem dX3_cracksUnder_28 : decode cX3_cracksUnder 28 = .ok (.aload_n 0, 1) := by decide +kernel
theorem dX3_cracksUnder_29 : decode cX3_cracksUnder 29 = .ok (.iload_n 3, 1) := by decide +kernel
theorem dX3_cracksUnder_30 : decode cX3_cracksUnder 30 = .ok (.invokevirtual 60, 3) := by decide +kernel
theorem dX3_cracksUnder_33 : decode cX3_cracksUnder 33 = .ok (.iload_n 2, 1) := by decide +kernel
theorem dX3_cracksUnder_34 : decode cX3_cracksUnder 34 = .ok (.iadd, 1) := by decide +kernel
theorem dX3_cracksUnder_35 : decode cX3_cracksUnder 35 = .ok (.iload_n 3, 1) := by decide +kernel
theorem dX3_cracksUnder_36 : decode cX3_cracksUnder 36 = .ok (.invokestatic 63, 3) := by decide +kernel
theorem dX3_cracksUnder_39 : decode cX3_cracksUnder 39 = .ok (.if_icmp .le 5, 3) := by decide +kernel
theorem dX3_cracksUnder_42 : decode cX3_cracksUnder 42 = .ok (.iconst 1, 1) := by decide +kernel
theorem dX3_cracksUnder_43 : decode cX3_cracksUnder 43 = .ok (.ireturn, 1) := by decide +kernel
theorem dX3_cracksUnder_44 : decode cX3_cracksUnder 44 = .ok (.iload_n 3, 1) := by decide +kernel
theorem dX3_cracksUnder_45 : decode cX3_cracksUnder 45 = .ok (.iload_n 3, 1) := by decide +kernel
theorem dX3_cracksUnder_46 : decode cX3_cracksUnder 46 = .ok (.invokestatic 54, 3) := by decide +kernel
theorem dX3_cracksUnder_49 : decode cX3_cracksUnder 49 = .ok (.iadd, 1) := by decide +kernel
theorem dX3_cracksUnder_50 : decode cX3_cracksUnder 50 = .ok (.istore_n 3, 1) := by decide +kernel
theorem dX3_cracksUnder_51 : decode cX3_cracksUnder 51 = .ok (.iinc 4 1, 3) := by decide +kernel
theorem dX3_cracksUnder_54 : decode cX3_cracksUnder 54 = .ok (.goto (-47), 3) := by decide +kernel
theorem dX3_cracksUnder_57 : decode cX3_cracksUnder 57 = .ok (.iconst 0, 1) := by decide +kernel
theorem dX3_cracksUnder_58 : decode cX3_cracksUnder 58 = .ok (.ireturn, 1) := by decide +kernel
theorem dX3_rungsOver_0 : decode cX3_rungsOver 0 = .ok (.iconst 0, 1) := by decide +kernel
theorem dX3_rungsOver_1 : decode cX3_rungsOver 1 = .ok (.istore_n 2, 1) := by decide +kernel
theorem dX3_rungsOver_2 : decode cX3_rungsOver 2 = .ok (.iload_n 1, 1) := by decide +kernel
theorem dX3_rungsOver_3 : decode cX3_rungsOver 3 = .ok (.iconst 1, 1) := by decide +kernel
theorem dX3_rungsOver_4 : decode cX3_rungsOver 4 = .ok (.iadd, 1) := by decide +kernel
theorem dX3_rungsOver_5 : decode cX3_rungsOver 5 = .ok (.istore_n 3, 1) := by decide +kernel
theorem dX3_rungsOver_6 : decode cX3_rungsOver 6 = .ok (.iconst 0, 1) := by decide +kernel
theorem dX3_rungsOver_7 : decode cX3_rungsOver 7 = .ok (.istore 4, 2) := by decide +kernel
theorem dX3_rungsOver_9 : decode cX3_rungsOver 9 = .ok (.iload 4, 2) := by decide +kernel
theorem dX3_rungsOver_11 : decode cX3_rungsOver 11 = .ok (.bipush 32, 2) := by decide +kernel
theorem dX3_rungsOver_13 : decode cX3_rungsOver 13 = .ok (.if_icmp .ge 25, 3) := by decide +kernel
theorem dX3_rungsOver_16 : decode cX3_rungsOver 16 = .ok (.iload_n 3, 1) := by decide +kernel
theorem dX3_rungsOver_17 : decode cX3_rungsOver 17 = .ok (.bipush 32, 2) := by decide +kernel
theorem dX3_rungsOver_19 : decode cX3_rungsOver 19 = .ok (.if_icmp .gt 19, 3) := by decide +kernel
theorem dX3_rungsOver_22 : decode cX3_rungsOver 22 = .ok (.iinc 2 1, 3) := by decide +kernel
theorem dX3_rungsOver_25 : decode cX3_rungsOver 25 = .ok (.iload_n 3, 1) := by decide +kernel
theorem dX3_rungsOver_26 : decode cX3_rungsOver 26 = .ok (.iload_n 3, 1) := by decide +kernel
theorem dX3_rungsOver_27 : decode cX3_rungsOver 27 = .ok (.invokestatic 54, 3) := by decide +kernel
theorem dX3_rungsOver_30 : decode cX3_rungsOver 30 = .ok (.iadd, 1) := by decide +kernel
theorem dX3_rungsOver_31 : decode cX3_rungsOver 31 = .ok (.istore_n 3, 1) := by decide +kernel
theorem dX3_rungsOver_32 : decode cX3_rungsOver 32 = .ok (.iinc 4 1, 3) := by decide +kernel
theorem dX3_rungsOver_35 : decode cX3_rungsOver 35 = .ok (.goto (-26), 3) := by decide +kernel
theorem dX3_rungsOver_38 : decode cX3_rungsOver 38 = .ok (.iload_n 2, 1) := by decide +kernel
theorem dX3_rungsOver_39 : decode cX3_rungsOver 39 = .ok (.ireturn, 1) := by decide +kernel
theorem dX3_crackedOver_0 : decode cX3_crackedOver 0 = .ok (.iconst 0, 1) := by decide +kernel
theorem dX3_crackedOver_1 : decode cX3_crackedOver 1 = .ok (.istore_n 2, 1) := by decide +kernel
theorem dX3_crackedOver_2 : decode cX3_crackedOver 2 = .ok (.iload_n 1, 1) := by decide +kernel
theorem dX3_crackedOver_3 : decode cX3_crackedOver 3 = .ok (.iconst 1, 1) := by decide +kernel
theorem dX3_crackedOver_4 : decode cX3_crackedOver 4 = .ok (.iadd, 1) := by decide +kernel
theorem dX3_crackedOver_5 : decode cX3_crackedOver 5 = .ok (.istore_n 3, 1) := by decide +kernel
theorem dX3_crackedOver_6 : decode cX3_crackedOver 6 = .ok (.iconst 0, 1) := by decide +kernel
theorem dX3_crackedOver_7 : decode cX3_crackedOver 7 = .ok (.istore 4, 2) := by decide +kernel
theorem dX3_crackedOver_9 : decode cX3_crackedOver 9 = .ok (.iload 4, 2) := by decide +kernel
theorem dX3_crackedOver_11 : decode cX3_crackedOver 11 = .ok (.bipush 32, 2) := by decide +kernel
theorem dX3_crackedOver_13 : decode cX3_crackedOver 13 = .ok (.if_icmp .ge 37, 3) := by decide +kernel
theorem dX3_crackedOver_16 : decode cX3_crackedOver 16 = .ok (.iload_n 3, 1) := by decide +kernel
theorem dX3_crackedOver_17 : decode cX3_crackedOver 17 = .ok (.bipush 32, 2) := by decide +kernel
theorem dX3_crackedOver_19 : decode cX3_crackedOver 19 = .ok (.if_icmp .gt 31, 3) := by decide +kernel
theorem dX3_crackedOver_22 : decode cX3_crackedOver 22 = .ok (.aload_n 0, 1) := by decide +kernel
theorem dX3_crackedOver_23 : decode cX3_crackedOver 23 = .ok (.iload_n 3, 1) := by decide +kernel
theorem dX3_crackedOver_24 : decode cX3_crackedOver 24 = .ok (.invokevirtual 57, 3) := by decide +kernel
theorem dX3_crackedOver_27 : decode cX3_crackedOver 27 = .ok (.ifCond .eq 10, 3) := by decide +kernel
theorem dX3_crackedOver_30 : decode cX3_crackedOver 30 = .ok (.iload_n 2, 1) := by decide +kernel
theorem dX3_crackedOver_31 : decode cX3_crackedOver 31 = .ok (.iload_n 3, 1) := by decide +kernel
theorem dX3_crackedOver_32 : decode cX3_crackedOver 32 = .ok (.invokestatic 54, 3) := by decide +kernel
theorem dX3_crackedOver_35 : decode cX3_crackedOver 35 = .ok (.iadd, 1) := by decide +kernel
theorem dX3_crackedOver_36 : decode cX3_crackedOver 36 = .ok (.istore_n 2, 1) := by decide +kernel
theorem dX3_crackedOver_37 : decode cX3_crackedOver 37 = .ok (.iload_n 3, 1) := by decide +kernel
theorem dX3_crackedOver_38 : decode cX3_crackedOver 38 = .ok (.iload_n 3, 1) := by decide +kernel
theorem dX3_crackedOver_39 : decode cX3_crackedOver 39 = .ok (.invokestatic 54, 3) := by decide +kernel
theorem dX3_crackedOver_42 : decode cX3_crackedOver 42 = .ok (.iadd, 1) := by decide +kernel
theorem dX3_crackedOver_43 : decode cX3_crackedOver 43 = .ok (.istore_n 3, 1) := by decide +kernel
theorem dX3_crackedOver_44 : decode cX3_crackedOver 44 = .ok (.iinc 4 1, 3) := by decide +kernel
theorem dX3_crackedOver_47 : decode cX3_crackedOver 47 = .ok (.goto (-38), 3) := by decide +kernel
theorem dX3_crackedOver_50 : decode cX3_crackedOver 50 = .ok (.iload_n 2, 1) := by decide +kernel
theorem dX3_crackedOver_51 : decode cX3_crackedOver 51 = .ok (.ireturn, 1) := by decide +kernel
theorem dX3_sumByClimbing_0 : decode cX3_sumByClimbing 0 = .ok (.iconst 0, 1) := by decide +kernel
theorem dX3_sumByClimbing_1 : decode cX3_sumByClimbing 1 = .ok (.istore_n 2, 1) := by decide +kernel
theorem dX3_sumByClimbing_2 : decode cX3_sumByClimbing 2 = .ok (.iload_n 1, 1) := by decide +kernel
theorem dX3_sumByClimbing_3 : decode cX3_sumByClimbing 3 = .ok (.iconst 1, 1) := by decide +kernel
theorem dX3_sumByClimbing_4 : decode cX3_sumByClimbing 4 = .ok (.iadd, 1) := by decide +kernel
theorem dX3_sumByClimbing_5 : decode cX3_sumByClimbing 5 = .ok (.istore_n 3, 1) := by decide +kernel
theorem dX3_sumByClimbing_6 : decode cX3_sumByClimbing 6 = .ok (.iconst 0, 1) := by decide +kernel
theorem dX3_sumByClimbing_7 : decode cX3_sumByClimbing 7 = .ok (.istore 4, 2) := by decide +kernel
theorem dX3_sumByClimbing_9 : decode cX3_sumByClimbing 9 = .ok (.iload 4, 2) := by decide +kernel
theorem dX3_sumByClimbing_11 : decode cX3_sumByClimbing 11 = .ok (.bipush 32, 2) := by decide +kernel
theorem dX3_sumByClimbing_13 : decode cX3_sumByClimbing 13 = .ok (.if_icmp .ge 28, 3) := by decide +kernel
theorem dX3_sumByClimbing_16 : decode cX3_sumByClimbing 16 = .ok (.iload_n 3, 1) := by decide +kernel
theorem dX3_sumByClimbing_17 : decode cX3_sumByClimbing 17 = .ok (.ifCond .le 24, 3) := by decide +kernel
theorem dX3_sumByClimbing_20 : decode cX3_sumByClimbing 20 = .ok (.iload_n 2, 1) := by decide +kernel
theorem dX3_sumByClimbing_21 : decode cX3_sumByClimbing 21 = .ok (.aload_n 0, 1) := by decide +kernel
theorem dX3_sumByClimbing_22 : decode cX3_sumByClimbing 22 = .ok (.iload_n 3, 1) := by decide +kernel
theorem dX3_sumByClimbing_23 : decode cX3_sumByClimbing 23 = .ok (.invokevirtual 60, 3) := by decide +kernel
theorem dX3_sumByClimbing_26 : decode cX3_sumByClimbing 26 = .ok (.iadd, 1) := by decide +kernel
theorem dX3_sumByClimbing_27 : decode cX3_sumByClimbing 27 = .ok (.istore_n 2, 1) := by decide +kernel
theorem dX3_sumByClimbing_28 : decode cX3_sumByClimbing 28 = .ok (.iload_n 3, 1) := by decide +kernel
theorem dX3_sumByClimbing_29 : decode cX3_sumByClimbing 29 = .ok (.iload_n 3, 1) := by decide +kernel
theorem dX3_sumByClimbing_30 : decode cX3_sumByClimbing 30 = .ok (.invokestatic 54, 3) := by decide +kernel
theorem dX3_sumByClimbing_33 : decode cX3_sumByClimbing 33 = .ok (.isub, 1) := by decide +kernel
theorem dX3_sumByClimbing_34 : decode cX3_sumByClimbing 34 = .ok (.istore_n 3, 1) := by decide +kernel
theorem dX3_sumByClimbing_35 : decode cX3_sumByClimbing 35 = .ok (.iinc 4 1, 3) := by decide +kernel
theorem dX3_sumByClimbing_38 : decode cX3_sumByClimbing 38 = .ok (.goto (-29), 3) := by decide +kernel
theorem dX3_sumByClimbing_41 : decode cX3_sumByClimbing 41 = .ok (.iload_n 2, 1) := by decide +kernel
theorem dX3_sumByClimbing_42 : decode cX3_sumByClimbing 42 = .ok (.ireturn, 1) := by decide +kernel
theorem dX3_sumByBays_0 : decode cX3_sumByBays 0 = .ok (.iconst 0, 1) := by decide +kernel
theorem dX3_sumByBays_1 : decode cX3_sumByBays 1 = .ok (.istore_n 3, 1) := by decide +kernel
theorem dX3_sumByBays_2 : decode cX3_sumByBays 2 = .ok (.iconst 0, 1) := by decide +kernel
theorem dX3_sumByBays_3 : decode cX3_sumByBays 3 = .ok (.istore 4, 2) := by decide +kernel
theorem dX3_sumByBays_5 : decode cX3_sumByBays 5 = .ok (.iload 4, 2) := by decide +kernel
theorem dX3_sumByBays_7 : decode cX3_sumByBays 7 = .ok (.bipush 32, 2) := by decide +kernel
theorem dX3_sumByBays_9 : decode cX3_sumByBays 9 = .ok (.if_icmp .ge 30, 3) := by decide +kernel
theorem dX3_sumByBays_12 : decode cX3_sumByBays 12 = .ok (.iload 4, 2) := by decide +kernel
theorem dX3_sumByBays_14 : decode cX3_sumByBays 14 = .ok (.iload_n 1, 1) := by decide +kernel
theorem dX3_sumByBays_15 : decode cX3_sumByBays 15 = .ok (.if_icmp .lt 18, 3) := by decide +kernel
theorem dX3_sumByBays_18 : decode cX3_sumByBays 18 = .ok (.iload 4, 2) := by decide +kernel
theorem dX3_sumByBays_20 : decode cX3_sumByBays 20 = .ok (.iload_n 2, 1) := by decide +kernel
theorem dX3_sumByBays_21 : decode cX3_sumByBays 21 = .ok (.if_icmp .gt 12, 3) := by decide +kernel
theorem dX3_sumByBays_24 : decode cX3_sumByBays 24 = .ok (.iload_n 3, 1) := by decide +kernel
theorem dX3_sumByBays_25 : decode cX3_sumByBays 25 = .ok (.aload_n 0, 1) := by decide +kernel
theorem dX3_sumByBays_26 : decode cX3_sumByBays 26 = .ok (.iload 4, 2) := by decide +kernel
theorem dX3_sumByBays_28 : decode cX3_sumByBays 28 = .ok (.invokevirtual 69, 3) := by decide +kernel
theorem dX3_sumByBays_31 : decode cX3_sumByBays 31 = .ok (.iadd, 1) := by decide +kernel
theorem dX3_sumByBays_32 : decode cX3_sumByBays 32 = .ok (.istore_n 3, 1) := by decide +kernel
theorem dX3_sumByBays_33 : decode cX3_sumByBays 33 = .ok (.iinc 4 1, 3) := by decide +kernel
theorem dX3_sumByBays_36 : decode cX3_sumByBays 36 = .ok (.goto (-31), 3) := by decide +kernel
theorem dX3_sumByBays_39 : decode cX3_sumByBays 39 = .ok (.iload_n 3, 1) := by decide +kernel
theorem dX3_sumByBays_40 : decode cX3_sumByBays 40 = .ok (.ireturn, 1) := by decide +kernel
theorem dX3_allSacks_0 : decode cX3_allSacks 0 = .ok (.aload_n 0, 1) := by decide +kernel
theorem dX3_allSacks_1 : decode cX3_allSacks 1 = .ok (.iconst 0, 1) := by decide +kernel
theorem dX3_allSacks_2 : decode cX3_allSacks 2 = .ok (.bipush 31, 2) := by decide +kernel
theorem dX3_allSacks_4 : decode cX3_allSacks 4 = .ok (.invokevirtual 72, 3) := by decide +kernel
theorem dX3_allSacks_7 : decode cX3_allSacks 7 = .ok (.ireturn, 1) := by decide +kernel
theorem dX3_sacksOfKind_0 : decode cX3_sacksOfKind 0 = .ok (.iconst 0, 1) := by decide +kernel
theorem dX3_sacksOfKind_1 : decode cX3_sacksOfKind 1 = .ok (.istore_n 2, 1) := by decide +kernel
theorem dX3_sacksOfKind_2 : decode cX3_sacksOfKind 2 = .ok (.iconst 0, 1) := by decide +kernel
theorem dX3_sacksOfKind_3 : decode cX3_sacksOfKind 3 = .ok (.istore_n 3, 1) := by decide +kernel
theorem dX3_sacksOfKind_4 : decode cX3_sacksOfKind 4 = .ok (.iload_n 3, 1) := by decide +kernel
theorem dX3_sacksOfKind_5 : decode cX3_sacksOfKind 5 = .ok (.bipush 32, 2) := by decide +kernel
theorem dX3_sacksOfKind_7 : decode cX3_sacksOfKind 7 = .ok (.if_icmp .ge 26, 3) := by decide +kernel
theorem dX3_sacksOfKind_10 : decode cX3_sacksOfKind 10 = .ok (.aload_n 0, 1) := by decide +kernel
theorem dX3_sacksOfKind_11 : decode cX3_sacksOfKind 11 = .ok (.iload_n 3, 1) := by decide +kernel
theorem dX3_sacksOfKind_12 : decode cX3_sacksOfKind 12 = .ok (.invokevirtual 76, 3) := by decide +kernel
theorem dX3_sacksOfKind_15 : decode cX3_sacksOfKind 15 = .ok (.iload_n 1, 1) := by decide +kernel
theorem dX3_sacksOfKind_16 : decode cX3_sacksOfKind 16 = .ok (.if_icmp .ne 11, 3) := by decide +kernel
theorem dX3_sacksOfKind_19 : decode cX3_sacksOfKind 19 = .ok (.iload_n 2, 1) := by decide +kernel
theorem dX3_sacksOfKind_20 : decode cX3_sacksOfKind 20 = .ok (.aload_n 0, 1) := by decide +kernel
theorem dX3_sacksOfKind_21 : decode cX3_sacksOfKind 21 = .ok (.iload_n 3, 1) := by decide +kernel
theorem dX3_sacksOfKind_22 : decode cX3_sacksOfKind 22 = .ok (.invokevirtual 69, 3) := by decide +kernel
theorem dX3_sacksOfKind_25 : decode cX3_sacksOfKind 25 = .ok (.iadd, 1) := by decide +kernel
theorem dX3_sacksOfKind_26 : decode cX3_sacksOfKind 26 = .ok (.istore_n 2, 1) := by decide +kernel
theorem dX3_sacksOfKind_27 : decode cX3_sacksOfKind 27 = .ok (.iinc 3 1, 3) := by decide +kernel
theorem dX3_sacksOfKind_30 : decode cX3_sacksOfKind 30 = .ok (.goto (-26), 3) := by decide +kernel
theorem dX3_sacksOfKind_33 : decode cX3_sacksOfKind 33 = .ok (.iload_n 2, 1) := by decide +kernel
theorem dX3_sacksOfKind_34 : decode cX3_sacksOfKind 34 = .ok (.ireturn, 1) := by decide +kernel
theorem dX3_sacksAsOldAs_0 : decode cX3_sacksAsOldAs 0 = .ok (.iconst 0, 1) := by decide +kernel
theorem dX3_sacksAsOldAs_1 : decode cX3_sacksAsOldAs 1 = .ok (.istore_n 2, 1) := by decide +kernel
theorem dX3_sacksAsOldAs_2 : decode cX3_sacksAsOldAs 2 = .ok (.iconst 0, 1) := by decide +kernel
theorem dX3_sacksAsOldAs_3 : decode cX3_sacksAsOldAs 3 = .ok (.istore_n 3, 1) := by decide +kernel
theorem dX3_sacksAsOldAs_4 : decode cX3_sacksAsOldAs 4 = .ok (.iload_n 3, 1) := by decide +kernel
theorem dX3_sacksAsOldAs_5 : decode cX3_sacksAsOldAs 5 = .ok (.bipush 32, 2) := by decide +kernel
theorem dX3_sacksAsOldAs_7 : decode cX3_sacksAsOldAs 7 = .ok (.if_icmp .ge 26, 3) := by decide +kernel
theorem dX3_sacksAsOldAs_10 : decode cX3_sacksAsOldAs 10 = .ok (.aload_n 0, 1) := by decide +kernel
theorem dX3_sacksAsOldAs_11 : decode cX3_sacksAsOldAs 11 = .ok (.iload_n 3, 1) := by decide +kernel
theorem dX3_sacksAsOldAs_12 : decode cX3_sacksAsOldAs 12 = .ok (.invokevirtual 79, 3) := by decide +kernel
theorem dX3_sacksAsOldAs_15 : decode cX3_sacksAsOldAs 15 = .ok (.iload_n 1, 1) := by decide +kernel
theorem dX3_sacksAsOldAs_16 : decode cX3_sacksAsOldAs 16 = .ok (.if_icmp .ne 11, 3) := by decide +kernel
theorem dX3_sacksAsOldAs_19 : decode cX3_sacksAsOldAs 19 = .ok (.iload_n 2, 1) := by decide +kernel
theorem dX3_sacksAsOldAs_20 : decode cX3_sacksAsOldAs 20 = .ok (.aload_n 0, 1) := by decide +kernel
theorem dX3_sacksAsOldAs_21 : decode cX3_sacksAsOldAs 21 = .ok (.iload_n 3, 1) := by decide +kernel
theorem dX3_sacksAsOldAs_22 : decode cX3_sacksAsOldAs 22 = .ok (.invokevirtual 69, 3) := by decide +kernel
theorem dX3_sacksAsOldAs_25 : decode cX3_sacksAsOldAs 25 = .ok (.iadd, 1) := by decide +kernel
theorem dX3_sacksAsOldAs_26 : decode cX3_sacksAsOldAs 26 = .ok (.istore_n 2, 1) := by decide +kernel
theorem dX3_sacksAsOldAs_27 : decode cX3_sacksAsOldAs 27 = .ok (.iinc 3 1, 3) := by decide +kernel
theorem dX3_sacksAsOldAs_30 : decode cX3_sacksAsOldAs 30 = .ok (.goto (-26), 3) := by decide +kernel
theorem dX3_sacksAsOldAs_33 : decode cX3_sacksAsOldAs 33 = .ok (.iload_n 2, 1) := by decide +kernel
theorem dX3_sacksAsOldAs_34 : decode cX3_sacksAsOldAs 34 = .ok (.ireturn, 1) := by decide +kernel
theorem dX3_filledBays_0 : decode cX3_filledBays 0 = .ok (.iconst 0, 1) := by decide +kernel
theorem dX3_filledBays_1 : decode cX3_filledBays 1 = .ok (.istore_n 1, 1) := by decide +kernel
theorem dX3_filledBays_2 : decode cX3_filledBays 2 = .ok (.iconst 0, 1) := by decide +kernel
theorem dX3_filledBays_3 : decode cX3_filledBays 3 = .ok (.istore_n 2, 1) := by decide +kernel
theorem dX3_filledBays_4 : decode cX3_filledBays 4 = .ok (.iload_n 2, 1) := by decide +kernel
theorem dX3_filledBays_5 : decode cX3_filledBays 5 = .ok (.bipush 32, 2) := by decide +kernel
theorem dX3_filledBays_7 : decode cX3_filledBays 7 = .ok (.if_icmp .ge 20, 3) := by decide +kernel
theorem dX3_filledBays_10 : decode cX3_filledBays 10 = .ok (.aload_n 0, 1) := by decide +kernel
theorem dX3_filledBays_11 : decode cX3_filledBays 11 = .ok (.iload_n 2, 1) := by decide +kernel
theorem dX3_filledBays_12 : decode cX3_filledBays 12 = .ok (.invokevirtual 50, 3) := by decide +kernel
theorem dX3_filledBays_15 : decode cX3_filledBays 15 = .ok (.ifCond .ne 6, 3) := by decide +kernel
theorem dX3_filledBays_18 : decode cX3_filledBays 18 = .ok (.iinc 1 1, 3) := by decide +kernel
theorem dX3_filledBays_21 : decode cX3_filledBays 21 = .ok (.iinc 2 1, 3) := by decide +kernel
theorem dX3_filledBays_24 : decode cX3_filledBays 24 = .ok (.goto (-20), 3) := by decide +kernel
theorem dX3_filledBays_27 : decode cX3_filledBays 27 = .ok (.iload_n 1, 1) := by decide +kernel
theorem dX3_filledBays_28 : decode cX3_filledBays 28 = .ok (.ireturn, 1) := by decide +kernel
theorem dX3_crackedRungs_0 : decode cX3_crackedRungs 0 = .ok (.iconst 0, 1) := by decide +kernel
theorem dX3_crackedRungs_1 : decode cX3_crackedRungs 1 = .ok (.istore_n 1, 1) := by decide +kernel
theorem dX3_crackedRungs_2 : decode cX3_crackedRungs 2 = .ok (.iconst 1, 1) := by decide +kernel
theorem dX3_crackedRungs_3 : decode cX3_crackedRungs 3 = .ok (.istore_n 2, 1) := by decide +kernel
theorem dX3_crackedRungs_4 : decode cX3_crackedRungs 4 = .ok (.iload_n 2, 1) := by decide +kernel
theorem dX3_crackedRungs_5 : decode cX3_crackedRungs 5 = .ok (.bipush 32, 2) := by decide +kernel
theorem dX3_crackedRungs_7 : decode cX3_crackedRungs 7 = .ok (.if_icmp .gt 20, 3) := by decide +kernel
theorem dX3_crackedRungs_10 : decode cX3_crackedRungs 10 = .ok (.aload_n 0, 1) := by decide +kernel
theorem dX3_crackedRungs_11 : decode cX3_crackedRungs 11 = .ok (.iload_n 2, 1) := by decide +kernel
theorem dX3_crackedRungs_12 : decode cX3_crackedRungs 12 = .ok (.invokevirtual 57, 3) := by decide +kernel
theorem dX3_crackedRungs_15 : decode cX3_crackedRungs 15 = .ok (.ifCond .eq 6, 3) := by decide +kernel
theorem dX3_crackedRungs_18 : decode cX3_crackedRungs 18 = .ok (.iinc 1 1, 3) := by decide +kernel
theorem dX3_crackedRungs_21 : decode cX3_crackedRungs 21 = .ok (.iinc 2 1, 3) := by decide +kernel
theorem dX3_crackedRungs_24 : decode cX3_crackedRungs 24 = .ok (.goto (-20), 3) := by decide +kernel
theorem dX3_crackedRungs_27 : decode cX3_crackedRungs 27 = .ok (.iload_n 1, 1) := by decide +kernel
theorem dX3_crackedRungs_28 : decode cX3_crackedRungs 28 = .ok (.ireturn, 1) := by decide +kernel
theorem dX3_placeOf_0 : decode cX3_placeOf 0 = .ok (.iconst 0, 1) := by decide +kernel
theorem dX3_placeOf_1 : decode cX3_placeOf 1 = .ok (.istore_n 2, 1) := by decide +kernel
theorem dX3_placeOf_2 : decode cX3_placeOf 2 = .ok (.iconst 0, 1) := by decide +kernel
theorem dX3_placeOf_3 : decode cX3_placeOf 3 = .ok (.istore_n 3, 1) := by decide +kernel
theorem dX3_placeOf_4 : decode cX3_placeOf 4 = .ok (.iload_n 3, 1) := by decide +kernel
theorem dX3_placeOf_5 : decode cX3_placeOf 5 = .ok (.bipush 32, 2) := by decide +kernel
theorem dX3_placeOf_7 : decode cX3_placeOf 7 = .ok (.if_icmp .ge 29, 3) := by decide +kernel
theorem dX3_placeOf_10 : decode cX3_placeOf 10 = .ok (.aload_n 0, 1) := by decide +kernel
theorem dX3_placeOf_11 : decode cX3_placeOf 11 = .ok (.iload_n 3, 1) := by decide +kernel
theorem dX3_placeOf_12 : decode cX3_placeOf 12 = .ok (.invokevirtual 50, 3) := by decide +kernel
theorem dX3_placeOf_15 : decode cX3_placeOf 15 = .ok (.ifCond .ne 15, 3) := by decide +kernel
theorem dX3_placeOf_18 : decode cX3_placeOf 18 = .ok (.aload_n 0, 1) := by decide +kernel
theorem dX3_placeOf_19 : decode cX3_placeOf 19 = .ok (.iload_n 3, 1) := by decide +kernel
theorem dX3_placeOf_20 : decode cX3_placeOf 20 = .ok (.iload_n 1, 1) := by decide +kernel
theorem dX3_placeOf_21 : decode cX3_placeOf 21 = .ok (.invokevirtual 82, 3) := by decide +kernel
theorem dX3_placeOf_24 : decode cX3_placeOf 24 = .ok (.ifCond .eq 6, 3) := by decide +kernel
theorem dX3_placeOf_27 : decode cX3_placeOf 27 = .ok (.iinc 2 1, 3) := by decide +kernel
theorem dX3_placeOf_30 : decode cX3_placeOf 30 = .ok (.iinc 3 1, 3) := by decide +kernel
theorem dX3_placeOf_33 : decode cX3_placeOf 33 = .ok (.goto (-29), 3) := by decide +kernel
theorem dX3_placeOf_36 : decode cX3_placeOf 36 = .ok (.iload_n 2, 1) := by decide +kernel
theorem dX3_placeOf_37 : decode cX3_placeOf 37 = .ok (.ireturn, 1) := by decide +kernel
theorem dX3_isAhead_0 : decode cX3_isAhead 0 = .ok (.aload_n 0, 1) := by decide +kernel
theorem dX3_isAhead_1 : decode cX3_isAhead 1 = .ok (.iload_n 1, 1) := by decide +kernel
theorem dX3_isAhead_2 : decode cX3_isAhead 2 = .ok (.invokevirtual 79, 3) := by decide +kernel
theorem dX3_isAhead_5 : decode cX3_isAhead 5 = .ok (.aload_n 0, 1) := by decide +kernel
theorem dX3_isAhead_6 : decode cX3_isAhead 6 = .ok (.iload_n 2, 1) := by decide +kernel
theorem dX3_isAhead_7 : decode cX3_isAhead 7 = .ok (.invokevirtual 79, 3) := by decide +kernel
theorem dX3_isAhead_10 : decode cX3_isAhead 10 = .ok (.if_icmp .eq 22, 3) := by decide +kernel
theorem dX3_isAhead_13 : decode cX3_isAhead 13 = .ok (.aload_n 0, 1) := by decide +kernel
theorem dX3_isAhead_14 : decode cX3_isAhead 14 = .ok (.iload_n 1, 1) := by decide +kernel
theorem dX3_isAhead_15 : decode cX3_isAhead 15 = .ok (.invokevirtual 79, 3) := by decide +kernel
theorem dX3_isAhead_18 : decode cX3_isAhead 18 = .ok (.aload_n 0, 1) := by decide +kernel
theorem dX3_isAhead_19 : decode cX3_isAhead 19 = .ok (.iload_n 2, 1) := by decide +kernel
theorem dX3_isAhead_20 : decode cX3_isAhead 20 = .ok (.invokevirtual 79, 3) := by decide +kernel
theorem dX3_isAhead_23 : decode cX3_isAhead 23 = .ok (.if_icmp .le 7, 3) := by decide +kernel
theorem dX3_isAhead_26 : decode cX3_isAhead 26 = .ok (.iconst 1, 1) := by decide +kernel
theorem dX3_isAhead_27 : decode cX3_isAhead 27 = .ok (.goto 4, 3) := by decide +kernel
theorem dX3_isAhead_30 : decode cX3_isAhead 30 = .ok (.iconst 0, 1) := by decide +kernel
theorem dX3_isAhead_31 : decode cX3_isAhead 31 = .ok (.ireturn, 1) := by decide +kernel
theorem dX3_isAhead_32 : decode cX3_isAhead 32 = .ok (.aload_n 0, 1) := by decide +kernel
theorem dX3_isAhead_33 : decode cX3_isAhead 33 = .ok (.iload_n 1, 1) := by decide +kernel
theorem dX3_isAhead_34 : decode cX3_isAhead 34 = .ok (.invokevirtual 69, 3) := by decide +kernel
theorem dX3_isAhead_37 : decode cX3_isAhead 37 = .ok (.aload_n 0, 1) := by decide +kernel
theorem dX3_isAhead_38 : decode cX3_isAhead 38 = .ok (.iload_n 2, 1) := by decide +kernel
theorem dX3_isAhead_39 : decode cX3_isAhead 39 = .ok (.invokevirtual 69, 3) := by decide +kernel
theorem dX3_isAhead_42 : decode cX3_isAhead 42 = .ok (.if_icmp .eq 22, 3) := by decide +kernel
theorem dX3_isAhead_45 : decode cX3_isAhead 45 = .ok (.aload_n 0, 1) := by decide +kernel
theorem dX3_isAhead_46 : decode cX3_isAhead 46 = .ok (.iload_n 1, 1) := by decide +kernel
theorem dX3_isAhead_47 : decode cX3_isAhead 47 = .ok (.invokevirtual 69, 3) := by decide +kernel
theorem dX3_isAhead_50 : decode cX3_isAhead 50 = .ok (.aload_n 0, 1) := by decide +kernel
theorem dX3_isAhead_51 : decode cX3_isAhead 51 = .ok (.iload_n 2, 1) := by decide +kernel
theorem dX3_isAhead_52 : decode cX3_isAhead 52 = .ok (.invokevirtual 69, 3) := by decide +kernel
theorem dX3_isAhead_55 : decode cX3_isAhead 55 = .ok (.if_icmp .le 7, 3) := by decide +kernel
theorem dX3_isAhead_58 : decode cX3_isAhead 58 = .ok (.iconst 1, 1) := by decide +kernel
theorem dX3_isAhead_59 : decode cX3_isAhead 59 = .ok (.goto 4, 3) := by decide +kernel
theorem dX3_isAhead_62 : decode cX3_isAhead 62 = .ok (.iconst 0, 1) := by decide +kernel
theorem dX3_isAhead_63 : decode cX3_isAhead 63 = .ok (.ireturn, 1) := by decide +kernel
theorem dX3_isAhead_64 : decode cX3_isAhead 64 = .ok (.iload_n 1, 1) := by decide +kernel
theorem dX3_isAhead_65 : decode cX3_isAhead 65 = .ok (.iload_n 2, 1) := by decide +kernel
theorem dX3_isAhead_66 : decode cX3_isAhead 66 = .ok (.if_icmp .ge 7, 3) := by decide +kernel
theorem dX3_isAhead_69 : decode cX3_isAhead 69 = .ok (.iconst 1, 1) := by decide +kernel
theorem dX3_isAhead_70 : decode cX3_isAhead 70 = .ok (.goto 4, 3) := by decide +kernel
theorem dX3_isAhead_73 : decode cX3_isAhead 73 = .ok (.iconst 0, 1) := by decide +kernel
theorem dX3_isAhead_74 : decode cX3_isAhead 74 = .ok (.ireturn, 1) := by decide +kernel
theorem dX3_oldestOfKind_0 : decode cX3_oldestOfKind 0 = .ok (.bipush (-15), 2) := by decide +kernel
theorem dX3_oldestOfKind_2 : decode cX3_oldestOfKind 2 = .ok (.istore_n 2, 1) := by decide +kernel
theorem dX3_oldestOfKind_3 : decode cX3_oldestOfKind 3 = .ok (.iconst 0, 1) := by decide +kernel
theorem dX3_oldestOfKind_4 : decode cX3_oldestOfKind 4 = .ok (.istore_n 3, 1) := by decide +kernel
theorem dX3_oldestOfKind_5 : decode cX3_oldestOfKind 5 = .ok (.iload_n 3, 1) := by decide +kernel
theorem dX3_oldestOfKind_6 : decode cX3_oldestOfKind 6 = .ok (.bipush 32, 2) := by decide +kernel
theorem dX3_oldestOfKind_8 : decode cX3_oldestOfKind 8 = .ok (.if_icmp .ge 47, 3) := by decide +kernel
theorem dX3_oldestOfKind_11 : decode cX3_oldestOfKind 11 = .ok (.aload_n 0, 1) := by decide +kernel
theorem dX3_oldestOfKind_12 : decode cX3_oldestOfKind 12 = .ok (.iload_n 3, 1) := by decide +kernel
theorem dX3_oldestOfKind_13 : decode cX3_oldestOfKind 13 = .ok (.invokevirtual 50, 3) := by decide +kernel
end
section
theorem dX3_oldestOfKind_16 : decode cX3_oldestOfKind 16 = .ok (.ifCond .ne 33, 3) := by decide +kernel
theorem dX3_oldestOfKind_19 : decode cX3_oldestOfKind 19 = .ok (.aload_n 0, 1) := by decide +kernel
theorem dX3_oldestOfKind_20 : decode cX3_oldestOfKind 20 = .ok (.iload_n 3, 1) := by decide +kernel
theorem dX3_oldestOfKind_21 : decode cX3_oldestOfKind 21 = .ok (.invokevirtual 76, 3) := by decide +kernel
theorem dX3_oldestOfKind_24 : decode cX3_oldestOfKind 24 = .ok (.iload_n 1, 1) := by decide +kernel
theorem dX3_oldestOfKind_25 : decode cX3_oldestOfKind 25 = .ok (.if_icmp .ne 24, 3) := by decide +kernel
theorem dX3_oldestOfKind_28 : decode cX3_oldestOfKind 28 = .ok (.iload_n 2, 1) := by decide +kernel
theorem dX3_oldestOfKind_29 : decode cX3_oldestOfKind 29 = .ok (.bipush (-15), 2) := by decide +kernel
theorem dX3_oldestOfKind_31 : decode cX3_oldestOfKind 31 = .ok (.if_icmp .eq 16, 3) := by decide +kernel
theorem dX3_oldestOfKind_34 : decode cX3_oldestOfKind 34 = .ok (.aload_n 0, 1) := by decide +kernel
theorem dX3_oldestOfKind_35 : decode cX3_oldestOfKind 35 = .ok (.iload_n 3, 1) := by decide +kernel
theorem dX3_oldestOfKind_36 : decode cX3_oldestOfKind 36 = .ok (.invokevirtual 79, 3) := by decide +kernel
theorem dX3_oldestOfKind_39 : decode cX3_oldestOfKind 39 = .ok (.aload_n 0, 1) := by decide +kernel
theorem dX3_oldestOfKind_40 : decode cX3_oldestOfKind 40 = .ok (.iload_n 2, 1) := by decide +kernel
theorem dX3_oldestOfKind_41 : decode cX3_oldestOfKind 41 = .ok (.invokevirtual 79, 3) := by decide +kernel
theorem dX3_oldestOfKind_44 : decode cX3_oldestOfKind 44 = .ok (.if_icmp .le 5, 3) := by decide +kernel
theorem dX3_oldestOfKind_47 : decode cX3_oldestOfKind 47 = .ok (.iload_n 3, 1) := by decide +kernel
theorem dX3_oldestOfKind_48 : decode cX3_oldestOfKind 48 = .ok (.istore_n 2, 1) := by decide +kernel
theorem dX3_oldestOfKind_49 : decode cX3_oldestOfKind 49 = .ok (.iinc 3 1, 3) := by decide +kernel
theorem dX3_oldestOfKind_52 : decode cX3_oldestOfKind 52 = .ok (.goto (-47), 3) := by decide +kernel
theorem dX3_oldestOfKind_55 : decode cX3_oldestOfKind 55 = .ok (.iload_n 2, 1) := by decide +kernel
theorem dX3_oldestOfKind_56 : decode cX3_oldestOfKind 56 = .ok (.ireturn, 1) := by decide +kernel
theorem dX3_spoilingAt_0 : decode cX3_spoilingAt 0 = .ok (.iload_n 2, 1) := by decide +kernel
theorem dX3_spoilingAt_1 : decode cX3_spoilingAt 1 = .ok (.getstatic 86, 3) := by decide +kernel
theorem dX3_spoilingAt_4 : decode cX3_spoilingAt 4 = .ok (.aload_n 0, 1) := by decide +kernel
theorem dX3_spoilingAt_5 : decode cX3_spoilingAt 5 = .ok (.iload_n 1, 1) := by decide +kernel
theorem dX3_spoilingAt_6 : decode cX3_spoilingAt 6 = .ok (.invokevirtual 76, 3) := by decide +kernel
theorem dX3_spoilingAt_9 : decode cX3_spoilingAt 9 = .ok (.invokestatic 34, 3) := by decide +kernel
theorem dX3_spoilingAt_12 : decode cX3_spoilingAt 12 = .ok (.if_icmp .le 17, 3) := by decide +kernel
theorem dX3_spoilingAt_15 : decode cX3_spoilingAt 15 = .ok (.aload_n 0, 1) := by decide +kernel
theorem dX3_spoilingAt_16 : decode cX3_spoilingAt 16 = .ok (.iload_n 1, 1) := by decide +kernel
theorem dX3_spoilingAt_17 : decode cX3_spoilingAt 17 = .ok (.invokevirtual 69, 3) := by decide +kernel
theorem dX3_spoilingAt_20 : decode cX3_spoilingAt 20 = .ok (.bipush 9, 2) := by decide +kernel
theorem dX3_spoilingAt_22 : decode cX3_spoilingAt 22 = .ok (.iadd, 1) := by decide +kernel
theorem dX3_spoilingAt_23 : decode cX3_spoilingAt 23 = .ok (.bipush 10, 2) := by decide +kernel
theorem dX3_spoilingAt_25 : decode cX3_spoilingAt 25 = .ok (.idiv, 1) := by decide +kernel
theorem dX3_spoilingAt_26 : decode cX3_spoilingAt 26 = .ok (.goto 4, 3) := by decide +kernel
theorem dX3_spoilingAt_29 : decode cX3_spoilingAt 29 = .ok (.iconst 0, 1) := by decide +kernel
theorem dX3_spoilingAt_30 : decode cX3_spoilingAt 30 = .ok (.ireturn, 1) := by decide +kernel
theorem dX3_growOlder_0 : decode cX3_growOlder 0 = .ok (.iconst 0, 1) := by decide +kernel
theorem dX3_growOlder_1 : decode cX3_growOlder 1 = .ok (.istore_n 1, 1) := by decide +kernel
theorem dX3_growOlder_2 : decode cX3_growOlder 2 = .ok (.iconst 0, 1) := by decide +kernel
theorem dX3_growOlder_3 : decode cX3_growOlder 3 = .ok (.istore_n 2, 1) := by decide +kernel
theorem dX3_growOlder_4 : decode cX3_growOlder 4 = .ok (.iload_n 2, 1) := by decide +kernel
theorem dX3_growOlder_5 : decode cX3_growOlder 5 = .ok (.bipush 32, 2) := by decide +kernel
theorem dX3_growOlder_7 : decode cX3_growOlder 7 = .ok (.if_icmp .ge 53, 3) := by decide +kernel
theorem dX3_growOlder_10 : decode cX3_growOlder 10 = .ok (.aload_n 0, 1) := by decide +kernel
theorem dX3_growOlder_11 : decode cX3_growOlder 11 = .ok (.iload_n 2, 1) := by decide +kernel
theorem dX3_growOlder_12 : decode cX3_growOlder 12 = .ok (.invokevirtual 50, 3) := by decide +kernel
theorem dX3_growOlder_15 : decode cX3_growOlder 15 = .ok (.ifCond .ne 39, 3) := by decide +kernel
theorem dX3_growOlder_18 : decode cX3_growOlder 18 = .ok (.aload_n 0, 1) := by decide +kernel
theorem dX3_growOlder_19 : decode cX3_growOlder 19 = .ok (.getfield 18, 3) := by decide +kernel
theorem dX3_growOlder_22 : decode cX3_growOlder 22 = .ok (.iload_n 2, 1) := by decide +kernel
theorem dX3_growOlder_23 : decode cX3_growOlder 23 = .ok (.aload_n 0, 1) := by decide +kernel
theorem dX3_growOlder_24 : decode cX3_growOlder 24 = .ok (.iload_n 2, 1) := by decide +kernel
theorem dX3_growOlder_25 : decode cX3_growOlder 25 = .ok (.invokevirtual 79, 3) := by decide +kernel
theorem dX3_growOlder_28 : decode cX3_growOlder 28 = .ok (.iconst 1, 1) := by decide +kernel
theorem dX3_growOlder_29 : decode cX3_growOlder 29 = .ok (.iadd, 1) := by decide +kernel
theorem dX3_growOlder_30 : decode cX3_growOlder 30 = .ok (.invokestatic 38, 3) := by decide +kernel
theorem dX3_growOlder_33 : decode cX3_growOlder 33 = .ok (.aload_n 0, 1) := by decide +kernel
theorem dX3_growOlder_34 : decode cX3_growOlder 34 = .ok (.iload_n 2, 1) := by decide +kernel
theorem dX3_growOlder_35 : decode cX3_growOlder 35 = .ok (.aload_n 0, 1) := by decide +kernel
theorem dX3_growOlder_36 : decode cX3_growOlder 36 = .ok (.iload_n 2, 1) := by decide +kernel
theorem dX3_growOlder_37 : decode cX3_growOlder 37 = .ok (.invokevirtual 79, 3) := by decide +kernel
theorem dX3_growOlder_40 : decode cX3_growOlder 40 = .ok (.invokevirtual 89, 3) := by decide +kernel
theorem dX3_growOlder_43 : decode cX3_growOlder 43 = .ok (.istore_n 3, 1) := by decide +kernel
theorem dX3_growOlder_44 : decode cX3_growOlder 44 = .ok (.aload_n 0, 1) := by decide +kernel
theorem dX3_growOlder_45 : decode cX3_growOlder 45 = .ok (.iload_n 2, 1) := by decide +kernel
theorem dX3_growOlder_46 : decode cX3_growOlder 46 = .ok (.iload_n 3, 1) := by decide +kernel
theorem dX3_growOlder_47 : decode cX3_growOlder 47 = .ok (.invokevirtual 92, 3) := by decide +kernel
theorem dX3_growOlder_50 : decode cX3_growOlder 50 = .ok (.iload_n 1, 1) := by decide +kernel
theorem dX3_growOlder_51 : decode cX3_growOlder 51 = .ok (.iload_n 3, 1) := by decide +kernel
theorem dX3_growOlder_52 : decode cX3_growOlder 52 = .ok (.iadd, 1) := by decide +kernel
theorem dX3_growOlder_53 : decode cX3_growOlder 53 = .ok (.istore_n 1, 1) := by decide +kernel
theorem dX3_growOlder_54 : decode cX3_growOlder 54 = .ok (.iinc 2 1, 3) := by decide +kernel
theorem dX3_growOlder_57 : decode cX3_growOlder 57 = .ok (.goto (-53), 3) := by decide +kernel
theorem dX3_growOlder_60 : decode cX3_growOlder 60 = .ok (.iload_n 1, 1) := by decide +kernel
theorem dX3_growOlder_61 : decode cX3_growOlder 61 = .ok (.ireturn, 1) := by decide +kernel
theorem dX4_init_0 : decode cX4_init 0 = .ok (.aload_n 0, 1) := by decide +kernel
theorem dX4_init_1 : decode cX4_init 1 = .ok (.invokespecial 1, 3) := by decide +kernel
theorem dX4_init_4 : decode cX4_init 4 = .ok (.aload_n 0, 1) := by decide +kernel
theorem dX4_init_5 : decode cX4_init 5 = .ok (.new 7, 3) := by decide +kernel
theorem dX4_init_8 : decode cX4_init 8 = .ok (.dup, 1) := by decide +kernel
theorem dX4_init_9 : decode cX4_init 9 = .ok (.invokespecial 9, 3) := by decide +kernel
theorem dX4_init_12 : decode cX4_init 12 = .ok (.putfield 10, 3) := by decide +kernel
theorem dX4_init_15 : decode cX4_init 15 = .ok (.aload_n 0, 1) := by decide +kernel
theorem dX4_init_16 : decode cX4_init 16 = .ok (.new 7, 3) := by decide +kernel
theorem dX4_init_19 : decode cX4_init 19 = .ok (.dup, 1) := by decide +kernel
theorem dX4_init_20 : decode cX4_init 20 = .ok (.invokespecial 9, 3) := by decide +kernel
theorem dX4_init_23 : decode cX4_init 23 = .ok (.putfield 16, 3) := by decide +kernel
theorem dX4_init_26 : decode cX4_init 26 = .ok (.aload_n 0, 1) := by decide +kernel
theorem dX4_init_27 : decode cX4_init 27 = .ok (.new 7, 3) := by decide +kernel
theorem dX4_init_30 : decode cX4_init 30 = .ok (.dup, 1) := by decide +kernel
theorem dX4_init_31 : decode cX4_init 31 = .ok (.invokespecial 9, 3) := by decide +kernel
theorem dX4_init_34 : decode cX4_init 34 = .ok (.putfield 19, 3) := by decide +kernel
theorem dX4_init_37 : decode cX4_init 37 = .ok (.aload_n 0, 1) := by decide +kernel
theorem dX4_init_38 : decode cX4_init 38 = .ok (.iconst 0, 1) := by decide +kernel
theorem dX4_init_39 : decode cX4_init 39 = .ok (.putfield 22, 3) := by decide +kernel
theorem dX4_init_42 : decode cX4_init 42 = .ok (.aload_n 0, 1) := by decide +kernel
theorem dX4_init_43 : decode cX4_init 43 = .ok (.new 26, 3) := by decide +kernel
theorem dX4_init_46 : decode cX4_init 46 = .ok (.dup, 1) := by decide +kernel
theorem dX4_init_47 : decode cX4_init 47 = .ok (.invokespecial 28, 3) := by decide +kernel
theorem dX4_init_50 : decode cX4_init 50 = .ok (.putfield 29, 3) := by decide +kernel
theorem dX4_init_53 : decode cX4_init 53 = .ok (.aload_n 0, 1) := by decide +kernel
theorem dX4_init_54 : decode cX4_init 54 = .ok (.new 33, 3) := by decide +kernel
theorem dX4_init_57 : decode cX4_init 57 = .ok (.dup, 1) := by decide +kernel
theorem dX4_init_58 : decode cX4_init 58 = .ok (.invokespecial 35, 3) := by decide +kernel
theorem dX4_init_61 : decode cX4_init 61 = .ok (.putfield 36, 3) := by decide +kernel
theorem dX4_init_64 : decode cX4_init 64 = .ok (.aload_n 0, 1) := by decide +kernel
theorem dX4_init_65 : decode cX4_init 65 = .ok (.new 40, 3) := by decide +kernel
theorem dX4_init_68 : decode cX4_init 68 = .ok (.dup, 1) := by decide +kernel
theorem dX4_init_69 : decode cX4_init 69 = .ok (.invokespecial 42, 3) := by decide +kernel
theorem dX4_init_72 : decode cX4_init 72 = .ok (.putfield 43, 3) := by decide +kernel
theorem dX4_init_75 : decode cX4_init 75 = .ok (.aload_n 0, 1) := by decide +kernel
theorem dX4_init_76 : decode cX4_init 76 = .ok (.iconst 0, 1) := by decide +kernel
theorem dX4_init_77 : decode cX4_init 77 = .ok (.putfield 47, 3) := by decide +kernel
theorem dX4_init_80 : decode cX4_init 80 = .ok (.aload_n 0, 1) := by decide +kernel
theorem dX4_init_81 : decode cX4_init 81 = .ok (.iconst 0, 1) := by decide +kernel
theorem dX4_init_82 : decode cX4_init 82 = .ok (.putfield 51, 3) := by decide +kernel
theorem dX4_init_85 : decode cX4_init 85 = .ok (.aload_n 0, 1) := by decide +kernel
theorem dX4_init_86 : decode cX4_init 86 = .ok (.bipush 33, 2) := by decide +kernel
theorem dX4_init_88 : decode cX4_init 88 = .ok (.newarray .int, 2) := by decide +kernel
theorem dX4_init_90 : decode cX4_init 90 = .ok (.putfield 54, 3) := by decide +kernel
theorem dX4_init_93 : decode cX4_init 93 = .ok (.return_, 1) := by decide +kernel
theorem dX4_store_0 : decode cX4_store 0 = .ok (.aload_n 0, 1) := by decide +kernel
theorem dX4_store_1 : decode cX4_store 1 = .ok (.getfield 16, 3) := by decide +kernel
theorem dX4_store_4 : decode cX4_store 4 = .ok (.aload_n 0, 1) := by decide +kernel
theorem dX4_store_5 : decode cX4_store 5 = .ok (.getfield 10, 3) := by decide +kernel
theorem dX4_store_8 : decode cX4_store 8 = .ok (.invokevirtual 58, 3) := by decide +kernel
theorem dX4_store_11 : decode cX4_store 11 = .ok (.aload_n 0, 1) := by decide +kernel
theorem dX4_store_12 : decode cX4_store 12 = .ok (.aload_n 0, 1) := by decide +kernel
theorem dX4_store_13 : decode cX4_store 13 = .ok (.iload_n 1, 1) := by decide +kernel
theorem dX4_store_14 : decode cX4_store 14 = .ok (.iload_n 2, 1) := by decide +kernel
theorem dX4_store_15 : decode cX4_store 15 = .ok (.iload_n 3, 1) := by decide +kernel
theorem dX4_store_16 : decode cX4_store 16 = .ok (.invokevirtual 62, 3) := by decide +kernel
theorem dX4_store_19 : decode cX4_store 19 = .ok (.invokevirtual 66, 3) := by decide +kernel
theorem dX4_store_22 : decode cX4_store 22 = .ok (.ireturn, 1) := by decide +kernel
theorem dX4_take_0 : decode cX4_take 0 = .ok (.aload_n 0, 1) := by decide +kernel
theorem dX4_take_1 : decode cX4_take 1 = .ok (.getfield 16, 3) := by decide +kernel
theorem dX4_take_4 : decode cX4_take 4 = .ok (.aload_n 0, 1) := by decide +kernel
theorem dX4_take_5 : decode cX4_take 5 = .ok (.getfield 10, 3) := by decide +kernel
theorem dX4_take_8 : decode cX4_take 8 = .ok (.invokevirtual 58, 3) := by decide +kernel
theorem dX4_take_11 : decode cX4_take 11 = .ok (.aload_n 0, 1) := by decide +kernel
theorem dX4_take_12 : decode cX4_take 12 = .ok (.aload_n 0, 1) := by decide +kernel
theorem dX4_take_13 : decode cX4_take 13 = .ok (.iload_n 1, 1) := by decide +kernel
theorem dX4_take_14 : decode cX4_take 14 = .ok (.iload_n 2, 1) := by decide +kernel
theorem dX4_take_15 : decode cX4_take 15 = .ok (.invokevirtual 70, 3) := by decide +kernel
theorem dX4_take_18 : decode cX4_take 18 = .ok (.invokevirtual 66, 3) := by decide +kernel
theorem dX4_take_21 : decode cX4_take 21 = .ok (.ireturn, 1) := by decide +kernel
theorem dX4_move_0 : decode cX4_move 0 = .ok (.aload_n 0, 1) := by decide +kernel
theorem dX4_move_1 : decode cX4_move 1 = .ok (.getfield 16, 3) := by decide +kernel
theorem dX4_move_4 : decode cX4_move 4 = .ok (.aload_n 0, 1) := by decide +kernel
theorem dX4_move_5 : decode cX4_move 5 = .ok (.getfield 10, 3) := by decide +kernel
theorem dX4_move_8 : decode cX4_move 8 = .ok (.invokevirtual 58, 3) := by decide +kernel
theorem dX4_move_11 : decode cX4_move 11 = .ok (.aload_n 0, 1) := by decide +kernel
theorem dX4_move_12 : decode cX4_move 12 = .ok (.aload_n 0, 1) := by decide +kernel
theorem dX4_move_13 : decode cX4_move 13 = .ok (.iload_n 1, 1) := by decide +kernel
theorem dX4_move_14 : decode cX4_move 14 = .ok (.iload_n 2, 1) := by decide +kernel
theorem dX4_move_15 : decode cX4_move 15 = .ok (.iload_n 3, 1) := by decide +kernel
theorem dX4_move_16 : decode cX4_move 16 = .ok (.invokevirtual 74, 3) := by decide +kernel
theorem dX4_move_19 : decode cX4_move 19 = .ok (.invokevirtual 66, 3) := by decide +kernel
theorem dX4_move_22 : decode cX4_move 22 = .ok (.ireturn, 1) := by decide +kernel
theorem dX4_order_0 : decode cX4_order 0 = .ok (.aload_n 0, 1) := by decide +kernel
theorem dX4_order_1 : decode cX4_order 1 = .ok (.getfield 16, 3) := by decide +kernel
theorem dX4_order_4 : decode cX4_order 4 = .ok (.aload_n 0, 1) := by decide +kernel
theorem dX4_order_5 : decode cX4_order 5 = .ok (.getfield 10, 3) := by decide +kernel
theorem dX4_order_8 : decode cX4_order 8 = .ok (.invokevirtual 58, 3) := by decide +kernel
theorem dX4_order_11 : decode cX4_order 11 = .ok (.aload_n 0, 1) := by decide +kernel
theorem dX4_order_12 : decode cX4_order 12 = .ok (.aload_n 0, 1) := by decide +kernel
theorem dX4_order_13 : decode cX4_order 13 = .ok (.iload_n 1, 1) := by decide +kernel
theorem dX4_order_14 : decode cX4_order 14 = .ok (.iload_n 2, 1) := by decide +kernel
theorem dX4_order_15 : decode cX4_order 15 = .ok (.invokevirtual 77, 3) := by decide +kernel
theorem dX4_order_18 : decode cX4_order 18 = .ok (.invokevirtual 66, 3) := by decide +kernel
theorem dX4_order_21 : decode cX4_order 21 = .ok (.ireturn, 1) := by decide +kernel
theorem dX4_fix_0 : decode cX4_fix 0 = .ok (.aload_n 0, 1) := by decide +kernel
theorem dX4_fix_1 : decode cX4_fix 1 = .ok (.getfield 16, 3) := by decide +kernel
theorem dX4_fix_4 : decode cX4_fix 4 = .ok (.aload_n 0, 1) := by decide +kernel
theorem dX4_fix_5 : decode cX4_fix 5 = .ok (.getfield 10, 3) := by decide +kernel
theorem dX4_fix_8 : decode cX4_fix 8 = .ok (.invokevirtual 58, 3) := by decide +kernel
theorem dX4_fix_11 : decode cX4_fix 11 = .ok (.aload_n 0, 1) := by decide +kernel
theorem dX4_fix_12 : decode cX4_fix 12 = .ok (.aload_n 0, 1) := by decide +kernel
theorem dX4_fix_13 : decode cX4_fix 13 = .ok (.iload_n 1, 1) := by decide +kernel
theorem dX4_fix_14 : decode cX4_fix 14 = .ok (.invokevirtual 80, 3) := by decide +kernel
theorem dX4_fix_17 : decode cX4_fix 17 = .ok (.invokevirtual 66, 3) := by decide +kernel
theorem dX4_fix_20 : decode cX4_fix 20 = .ok (.ireturn, 1) := by decide +kernel
theorem dX4_pass_0 : decode cX4_pass 0 = .ok (.aload_n 0, 1) := by decide +kernel
theorem dX4_pass_1 : decode cX4_pass 1 = .ok (.getfield 16, 3) := by decide +kernel
theorem dX4_pass_4 : decode cX4_pass 4 = .ok (.aload_n 0, 1) := by decide +kernel
theorem dX4_pass_5 : decode cX4_pass 5 = .ok (.getfield 10, 3) := by decide +kernel
theorem dX4_pass_8 : decode cX4_pass 8 = .ok (.invokevirtual 58, 3) := by decide +kernel
theorem dX4_pass_11 : decode cX4_pass 11 = .ok (.aload_n 0, 1) := by decide +kernel
theorem dX4_pass_12 : decode cX4_pass 12 = .ok (.aload_n 0, 1) := by decide +kernel
theorem dX4_pass_13 : decode cX4_pass 13 = .ok (.iload_n 1, 1) := by decide +kernel
theorem dX4_pass_14 : decode cX4_pass 14 = .ok (.invokevirtual 83, 3) := by decide +kernel
theorem dX4_pass_17 : decode cX4_pass 17 = .ok (.invokevirtual 66, 3) := by decide +kernel
theorem dX4_pass_20 : decode cX4_pass 20 = .ok (.ireturn, 1) := by decide +kernel
theorem dX4_bayOf_0 : decode cX4_bayOf 0 = .ok (.iload_n 1, 1) := by decide +kernel
theorem dX4_bayOf_1 : decode cX4_bayOf 1 = .ok (.invokestatic 86, 3) := by decide +kernel
theorem dX4_bayOf_4 : decode cX4_bayOf 4 = .ok (.ifCond .ne 6, 3) := by decide +kernel
theorem dX4_bayOf_7 : decode cX4_bayOf 7 = .ok (.bipush (-11), 2) := by decide +kernel
theorem dX4_bayOf_9 : decode cX4_bayOf 9 = .ok (.ireturn, 1) := by decide +kernel
theorem dX4_bayOf_10 : decode cX4_bayOf 10 = .ok (.iload_n 2, 1) := by decide +kernel
theorem dX4_bayOf_11 : decode cX4_bayOf 11 = .ok (.tableswitch 117 0 5 #[37, 62, 71, 80, 99, 108], 37) := by decide +kernel
theorem dX4_bayOf_48 : decode cX4_bayOf 48 = .ok (.aload_n 0, 1) := by decide +kernel
theorem dX4_bayOf_49 : decode cX4_bayOf 49 = .ok (.getfield 10, 3) := by decide +kernel
theorem dX4_bayOf_52 : decode cX4_bayOf 52 = .ok (.iload_n 1, 1) := by decide +kernel
theorem dX4_bayOf_53 : decode cX4_bayOf 53 = .ok (.invokevirtual 90, 3) := by decide +kernel
theorem dX4_bayOf_56 : decode cX4_bayOf 56 = .ok (.ifCond .eq 8, 3) := by decide +kernel
theorem dX4_bayOf_59 : decode cX4_bayOf 59 = .ok (.bipush (-15), 2) := by decide +kernel
theorem dX4_bayOf_61 : decode cX4_bayOf 61 = .ok (.goto 11, 3) := by decide +kernel
theorem dX4_bayOf_64 : decode cX4_bayOf 64 = .ok (.aload_n 0, 1) := by decide +kernel
theorem dX4_bayOf_65 : decode cX4_bayOf 65 = .ok (.getfield 10, 3) := by decide +kernel
theorem dX4_bayOf_68 : decode cX4_bayOf 68 = .ok (.iload_n 1, 1) := by decide +kernel
theorem dX4_bayOf_69 : decode cX4_bayOf 69 = .ok (.invokevirtual 93, 3) := by decide +kernel
theorem dX4_bayOf_72 : decode cX4_bayOf 72 = .ok (.ireturn, 1) := by decide +kernel
theorem dX4_bayOf_73 : decode cX4_bayOf 73 = .ok (.aload_n 0, 1) := by decide +kernel
theorem dX4_bayOf_74 : decode cX4_bayOf 74 = .ok (.getfield 10, 3) := by decide +kernel
theorem dX4_bayOf_77 : decode cX4_bayOf 77 = .ok (.iload_n 1, 1) := by decide +kernel
theorem dX4_bayOf_78 : decode cX4_bayOf 78 = .ok (.invokevirtual 96, 3) := by decide +kernel
theorem dX4_bayOf_81 : decode cX4_bayOf 81 = .ok (.ireturn, 1) := by decide +kernel
theorem dX4_bayOf_82 : decode cX4_bayOf 82 = .ok (.aload_n 0, 1) := by decide +kernel
theorem dX4_bayOf_83 : decode cX4_bayOf 83 = .ok (.getfield 10, 3) := by decide +kernel
theorem dX4_bayOf_86 : decode cX4_bayOf 86 = .ok (.iload_n 1, 1) := by decide +kernel
theorem dX4_bayOf_87 : decode cX4_bayOf 87 = .ok (.invokevirtual 99, 3) := by decide +kernel
theorem dX4_bayOf_90 : decode cX4_bayOf 90 = .ok (.ireturn, 1) := by decide +kernel
theorem dX4_bayOf_91 : decode cX4_bayOf 91 = .ok (.aload_n 0, 1) := by decide +kernel
theorem dX4_bayOf_92 : decode cX4_bayOf 92 = .ok (.getfield 10, 3) := by decide +kernel
theorem dX4_bayOf_95 : decode cX4_bayOf 95 = .ok (.iload_n 1, 1) := by decide +kernel
theorem dX4_bayOf_96 : decode cX4_bayOf 96 = .ok (.aload_n 0, 1) := by decide +kernel
theorem dX4_bayOf_97 : decode cX4_bayOf 97 = .ok (.getfield 10, 3) := by decide +kernel
theorem dX4_bayOf_100 : decode cX4_bayOf 100 = .ok (.iload_n 1, 1) := by decide +kernel
theorem dX4_bayOf_101 : decode cX4_bayOf 101 = .ok (.invokevirtual 99, 3) := by decide +kernel
theorem dX4_bayOf_104 : decode cX4_bayOf 104 = .ok (.iconst 1, 1) := by decide +kernel
theorem dX4_bayOf_105 : decode cX4_bayOf 105 = .ok (.iadd, 1) := by decide +kernel
theorem dX4_bayOf_106 : decode cX4_bayOf 106 = .ok (.invokevirtual 102, 3) := by decide +kernel
theorem dX4_bayOf_109 : decode cX4_bayOf 109 = .ok (.ireturn, 1) := by decide +kernel
theorem dX4_bayOf_110 : decode cX4_bayOf 110 = .ok (.aload_n 0, 1) := by decide +kernel
theorem dX4_bayOf_111 : decode cX4_bayOf 111 = .ok (.getfield 10, 3) := by decide +kernel
theorem dX4_bayOf_114 : decode cX4_bayOf 114 = .ok (.iload_n 1, 1) := by decide +kernel
theorem dX4_bayOf_115 : decode cX4_bayOf 115 = .ok (.invokevirtual 105, 3) := by decide +kernel
theorem dX4_bayOf_118 : decode cX4_bayOf 118 = .ok (.ireturn, 1) := by decide +kernel
theorem dX4_bayOf_119 : decode cX4_bayOf 119 = .ok (.aload_n 0, 1) := by decide +kernel
theorem dX4_bayOf_120 : decode cX4_bayOf 120 = .ok (.getfield 10, 3) := by decide +kernel
theorem dX4_bayOf_123 : decode cX4_bayOf 123 = .ok (.iload_n 1, 1) := by decide +kernel
theorem dX4_bayOf_124 : decode cX4_bayOf 124 = .ok (.invokevirtual 108, 3) := by decide +kernel
theorem dX4_bayOf_127 : decode cX4_bayOf 127 = .ok (.ireturn, 1) := by decide +kernel
theorem dX4_bayOf_128 : decode cX4_bayOf 128 = .ok (.bipush (-12), 2) := by decide +kernel
theorem dX4_bayOf_130 : decode cX4_bayOf 130 = .ok (.ireturn, 1) := by decide +kernel
theorem dX4_rungOf_0 : decode cX4_rungOf 0 = .ok (.iload_n 1, 1) := by decide +kernel
theorem dX4_rungOf_1 : decode cX4_rungOf 1 = .ok (.invokestatic 111, 3) := by decide +kernel
theorem dX4_rungOf_4 : decode cX4_rungOf 4 = .ok (.ifCond .ne 6, 3) := by decide +kernel
theorem dX4_rungOf_7 : decode cX4_rungOf 7 = .ok (.bipush (-11), 2) := by decide +kernel
theorem dX4_rungOf_9 : decode cX4_rungOf 9 = .ok (.ireturn, 1) := by decide +kernel
theorem dX4_rungOf_10 : decode cX4_rungOf 10 = .ok (.iload_n 2, 1) := by decide +kernel
theorem dX4_rungOf_11 : decode cX4_rungOf 11 = .ok (.tableswitch 83 0 5 #[37, 42, 51, 56, 73, 78], 37) := by decide +kernel
theorem dX4_rungOf_48 : decode cX4_rungOf 48 = .ok (.iload_n 1, 1) := by decide +kernel
theorem dX4_rungOf_49 : decode cX4_rungOf 49 = .ok (.invokestatic 114, 3) := by decide +kernel
theorem dX4_rungOf_52 : decode cX4_rungOf 52 = .ok (.ireturn, 1) := by decide +kernel
theorem dX4_rungOf_53 : decode cX4_rungOf 53 = .ok (.aload_n 0, 1) := by decide +kernel
theorem dX4_rungOf_54 : decode cX4_rungOf 54 = .ok (.getfield 10, 3) := by decide +kernel
theorem dX4_rungOf_57 : decode cX4_rungOf 57 = .ok (.iload_n 1, 1) := by decide +kernel
theorem dX4_rungOf_58 : decode cX4_rungOf 58 = .ok (.invokevirtual 117, 3) := by decide +kernel
theorem dX4_rungOf_61 : decode cX4_rungOf 61 = .ok (.ireturn, 1) := by decide +kernel
theorem dX4_rungOf_62 : decode cX4_rungOf 62 = .ok (.iload_n 1, 1) := by decide +kernel
theorem dX4_rungOf_63 : decode cX4_rungOf 63 = .ok (.invokestatic 120, 3) := by decide +kernel
theorem dX4_rungOf_66 : decode cX4_rungOf 66 = .ok (.ireturn, 1) := by decide +kernel
theorem dX4_rungOf_67 : decode cX4_rungOf 67 = .ok (.aload_n 0, 1) := by decide +kernel
theorem dX4_rungOf_68 : decode cX4_rungOf 68 = .ok (.getfield 10, 3) := by decide +kernel
theorem dX4_rungOf_71 : decode cX4_rungOf 71 = .ok (.iload_n 1, 1) := by decide +kernel
theorem dX4_rungOf_72 : decode cX4_rungOf 72 = .ok (.invokevirtual 123, 3) := by decide +kernel
theorem dX4_rungOf_75 : decode cX4_rungOf 75 = .ok (.ifCond .eq 7, 3) := by decide +kernel
theorem dX4_rungOf_78 : decode cX4_rungOf 78 = .ok (.iconst 1, 1) := by decide +kernel
theorem dX4_rungOf_79 : decode cX4_rungOf 79 = .ok (.goto 4, 3) := by decide +kernel
theorem dX4_rungOf_82 : decode cX4_rungOf 82 = .ok (.iconst 0, 1) := by decide +kernel
theorem dX4_rungOf_83 : decode cX4_rungOf 83 = .ok (.ireturn, 1) := by decide +kernel
theorem dX4_rungOf_84 : decode cX4_rungOf 84 = .ok (.iload_n 1, 1) := by decide +kernel
theorem dX4_rungOf_85 : decode cX4_rungOf 85 = .ok (.invokestatic 126, 3) := by decide +kernel
theorem dX4_rungOf_88 : decode cX4_rungOf 88 = .ok (.ireturn, 1) := by decide +kernel
theorem dX4_rungOf_89 : decode cX4_rungOf 89 = .ok (.iload_n 1, 1) := by decide +kernel
theorem dX4_rungOf_90 : decode cX4_rungOf 90 = .ok (.invokestatic 129, 3) := by decide +kernel
theorem dX4_rungOf_93 : decode cX4_rungOf 93 = .ok (.ireturn, 1) := by decide +kernel
theorem dX4_rungOf_94 : decode cX4_rungOf 94 = .ok (.bipush (-12), 2) := by decide +kernel
theorem dX4_rungOf_96 : decode cX4_rungOf 96 = .ok (.ireturn, 1) := by decide +kernel
theorem dX4_sum_0 : decode cX4_sum 0 = .ok (.iload_n 1, 1) := by decide +kernel
theorem dX4_sum_1 : decode cX4_sum 1 = .ok (.invokestatic 86, 3) := by decide +kernel
theorem dX4_sum_4 : decode cX4_sum 4 = .ok (.ifCond .eq 10, 3) := by decide +kernel
theorem dX4_sum_7 : decode cX4_sum 7 = .ok (.iload_n 2, 1) := by decide +kernel
theorem dX4_sum_8 : decode cX4_sum 8 = .ok (.invokestatic 86, 3) := by decide +kernel
theorem dX4_sum_11 : decode cX4_sum 11 = .ok (.ifCond .ne 6, 3) := by decide +kernel
theorem dX4_sum_14 : decode cX4_sum 14 = .ok (.bipush (-11), 2) := by decide +kernel
theorem dX4_sum_16 : decode cX4_sum 16 = .ok (.ireturn, 1) := by decide +kernel
theorem dX4_sum_17 : decode cX4_sum 17 = .ok (.iload_n 2, 1) := by decide +kernel
theorem dX4_sum_18 : decode cX4_sum 18 = .ok (.iload_n 1, 1) := by decide +kernel
theorem dX4_sum_19 : decode cX4_sum 19 = .ok (.if_icmp .ge 6, 3) := by decide +kernel
theorem dX4_sum_22 : decode cX4_sum 22 = .ok (.bipush (-12), 2) := by decide +kernel
theorem dX4_sum_24 : decode cX4_sum 24 = .ok (.ireturn, 1) := by decide +kernel
theorem dX4_sum_25 : decode cX4_sum 25 = .ok (.aload_n 0, 1) := by decide +kernel
theorem dX4_sum_26 : decode cX4_sum 26 = .ok (.getfield 10, 3) := by decide +kernel
theorem dX4_sum_29 : decode cX4_sum 29 = .ok (.iload_n 2, 1) := by decide +kernel
theorem dX4_sum_30 : decode cX4_sum 30 = .ok (.invokevirtual 132, 3) := by decide +kernel
theorem dX4_sum_33 : decode cX4_sum 33 = .ok (.aload_n 0, 1) := by decide +kernel
theorem dX4_sum_34 : decode cX4_sum 34 = .ok (.getfield 10, 3) := by decide +kernel
theorem dX4_sum_37 : decode cX4_sum 37 = .ok (.iload_n 1, 1) := by decide +kernel
theorem dX4_sum_38 : decode cX4_sum 38 = .ok (.iconst 1, 1) := by decide +kernel
theorem dX4_sum_39 : decode cX4_sum 39 = .ok (.isub, 1) := by decide +kernel
theorem dX4_sum_40 : decode cX4_sum 40 = .ok (.invokevirtual 132, 3) := by decide +kernel
theorem dX4_sum_43 : decode cX4_sum 43 = .ok (.isub, 1) := by decide +kernel
theorem dX4_sum_44 : decode cX4_sum 44 = .ok (.ireturn, 1) := by decide +kernel
theorem dX4_sumAgain_0 : decode cX4_sumAgain 0 = .ok (.iload_n 1, 1) := by decide +kernel
theorem dX4_sumAgain_1 : decode cX4_sumAgain 1 = .ok (.invokestatic 86, 3) := by decide +kernel
theorem dX4_sumAgain_4 : decode cX4_sumAgain 4 = .ok (.ifCond .eq 10, 3) := by decide +kernel
theorem dX4_sumAgain_7 : decode cX4_sumAgain 7 = .ok (.iload_n 2, 1) := by decide +kernel
theorem dX4_sumAgain_8 : decode cX4_sumAgain 8 = .ok (.invokestatic 86, 3) := by decide +kernel
theorem dX4_sumAgain_11 : decode cX4_sumAgain 11 = .ok (.ifCond .ne 6, 3) := by decide +kernel
theorem dX4_sumAgain_14 : decode cX4_sumAgain 14 = .ok (.bipush (-11), 2) := by decide +kernel
theorem dX4_sumAgain_16 : decode cX4_sumAgain 16 = .ok (.ireturn, 1) := by decide +kernel
theorem dX4_sumAgain_17 : decode cX4_sumAgain 17 = .ok (.iload_n 2, 1) := by decide +kernel
theorem dX4_sumAgain_18 : decode cX4_sumAgain 18 = .ok (.iload_n 1, 1) := by decide +kernel
theorem dX4_sumAgain_19 : decode cX4_sumAgain 19 = .ok (.if_icmp .ge 6, 3) := by decide +kernel
theorem dX4_sumAgain_22 : decode cX4_sumAgain 22 = .ok (.bipush (-12), 2) := by decide +kernel
theorem dX4_sumAgain_24 : decode cX4_sumAgain 24 = .ok (.ireturn, 1) := by decide +kernel
theorem dX4_sumAgain_25 : decode cX4_sumAgain 25 = .ok (.aload_n 0, 1) := by decide +kernel
theorem dX4_sumAgain_26 : decode cX4_sumAgain 26 = .ok (.getfield 10, 3) := by decide +kernel
theorem dX4_sumAgain_29 : decode cX4_sumAgain 29 = .ok (.iload_n 1, 1) := by decide +kernel
theorem dX4_sumAgain_30 : decode cX4_sumAgain 30 = .ok (.iload_n 2, 1) := by decide +kernel
theorem dX4_sumAgain_31 : decode cX4_sumAgain 31 = .ok (.invokevirtual 135, 3) := by decide +kernel
theorem dX4_sumAgain_34 : decode cX4_sumAgain 34 = .ok (.ireturn, 1) := by decide +kernel
theorem dX4_reach_0 : decode cX4_reach 0 = .ok (.iload_n 1, 1) := by decide +kernel
theorem dX4_reach_1 : decode cX4_reach 1 = .ok (.iconst 1, 1) := by decide +kernel
theorem dX4_reach_2 : decode cX4_reach 2 = .ok (.sipush 9999, 3) := by decide +kernel
theorem dX4_reach_5 : decode cX4_reach 5 = .ok (.invokestatic 138, 3) := by decide +kernel
theorem dX4_reach_8 : decode cX4_reach 8 = .ok (.ifCond .ne 6, 3) := by decide +kernel
theorem dX4_reach_11 : decode cX4_reach 11 = .ok (.bipush (-12), 2) := by decide +kernel
theorem dX4_reach_13 : decode cX4_reach 13 = .ok (.ireturn, 1) := by decide +kernel
theorem dX4_reach_14 : decode cX4_reach 14 = .ok (.iconst 0, 1) := by decide +kernel
theorem dX4_reach_15 : decode cX4_reach 15 = .ok (.istore_n 2, 1) := by decide +kernel
theorem dX4_reach_16 : decode cX4_reach 16 = .ok (.iload_n 1, 1) := by decide +kernel
theorem dX4_reach_17 : decode cX4_reach 17 = .ok (.istore_n 3, 1) := by decide +kernel
theorem dX4_reach_18 : decode cX4_reach 18 = .ok (.bipush 32, 2) := by decide +kernel
theorem dX4_reach_20 : decode cX4_reach 20 = .ok (.istore 4, 2) := by decide +kernel
theorem dX4_reach_22 : decode cX4_reach 22 = .ok (.iload 4, 2) := by decide +kernel
theorem dX4_reach_24 : decode cX4_reach 24 = .ok (.iconst 1, 1) := by decide +kernel
theorem dX4_reach_25 : decode cX4_reach 25 = .ok (.if_icmp .lt 53, 3) := by decide +kernel
theorem dX4_reach_28 : decode cX4_reach 28 = .ok (.iload_n 2, 1) := by decide +kernel
theorem dX4_reach_29 : decode cX4_reach 29 = .ok (.iload 4, 2) := by decide +kernel
theorem dX4_reach_31 : decode cX4_reach 31 = .ok (.iadd, 1) := by decide +kernel
theorem dX4_reach_32 : decode cX4_reach 32 = .ok (.istore 5, 2) := by decide +kernel
theorem dX4_reach_34 : decode cX4_reach 34 = .ok (.iload 5, 2) := by decide +kernel
theorem dX4_reach_36 : decode cX4_reach 36 = .ok (.bipush 32, 2) := by decide +kernel
theorem dX4_reach_38 : decode cX4_reach 38 = .ok (.if_icmp .gt 31, 3) := by decide +kernel
theorem dX4_reach_41 : decode cX4_reach 41 = .ok (.aload_n 0, 1) := by decide +kernel
theorem dX4_reach_42 : decode cX4_reach 42 = .ok (.getfield 10, 3) := by decide +kernel
theorem dX4_reach_45 : decode cX4_reach 45 = .ok (.iload 5, 2) := by decide +kernel
theorem dX4_reach_47 : decode cX4_reach 47 = .ok (.invokevirtual 117, 3) := by decide +kernel
theorem dX4_reach_50 : decode cX4_reach 50 = .ok (.iload_n 3, 1) := by decide +kernel
theorem dX4_reach_51 : decode cX4_reach 51 = .ok (.if_icmp .ge 18, 3) := by decide +kernel
theorem dX4_reach_54 : decode cX4_reach 54 = .ok (.iload_n 3, 1) := by decide +kernel
theorem dX4_reach_55 : decode cX4_reach 55 = .ok (.aload_n 0, 1) := by decide +kernel
theorem dX4_reach_56 : decode cX4_reach 56 = .ok (.getfield 10, 3) := by decide +kernel
theorem dX4_reach_59 : decode cX4_reach 59 = .ok (.iload 5, 2) := by decide +kernel
theorem dX4_reach_61 : decode cX4_reach 61 = .ok (.invokevirtual 117, 3) := by decide +kernel
theorem dX4_reach_64 : decode cX4_reach 64 = .ok (.isub, 1) := by decide +kernel
theorem dX4_reach_65 : decode cX4_reach 65 = .ok (.istore_n 3, 1) := by decide +kernel
theorem dX4_reach_66 : decode cX4_reach 66 = .ok (.iload 5, 2) := by decide +kernel
theorem dX4_reach_68 : decode cX4_reach 68 = .ok (.istore_n 2, 1) := by decide +kernel
theorem dX4_reach_69 : decode cX4_reach 69 = .ok (.iload 4, 2) := by decide +kernel
theorem dX4_reach_71 : decode cX4_reach 71 = .ok (.iconst 2, 1) := by decide +kernel
theorem dX4_reach_72 : decode cX4_reach 72 = .ok (.idiv, 1) := by decide +kernel
theorem dX4_reach_73 : decode cX4_reach 73 = .ok (.istore 4, 2) := by decide +kernel
theorem dX4_reach_75 : decode cX4_reach 75 = .ok (.goto (-53), 3) := by decide +kernel
theorem dX4_reach_78 : decode cX4_reach 78 = .ok (.iload_n 2, 1) := by decide +kernel
theorem dX4_reach_79 : decode cX4_reach 79 = .ok (.bipush 32, 2) := by decide +kernel
theorem dX4_reach_81 : decode cX4_reach 81 = .ok (.if_icmp .ge 7, 3) := by decide +kernel
theorem dX4_reach_84 : decode cX4_reach 84 = .ok (.iload_n 2, 1) := by decide +kernel
theorem dX4_reach_85 : decode cX4_reach 85 = .ok (.goto 5, 3) := by decide +kernel
theorem dX4_reach_88 : decode cX4_reach 88 = .ok (.bipush (-15), 2) := by decide +kernel
theorem dX4_reach_90 : decode cX4_reach 90 = .ok (.ireturn, 1) := by decide +kernel
theorem dX4_reachAgain_0 : decode cX4_reachAgain 0 = .ok (.iload_n 1, 1) := by decide +kernel
theorem dX4_reachAgain_1 : decode cX4_reachAgain 1 = .ok (.iconst 1, 1) := by decide +kernel
theorem dX4_reachAgain_2 : decode cX4_reachAgain 2 = .ok (.sipush 9999, 3) := by decide +kernel
theorem dX4_reachAgain_5 : decode cX4_reachAgain 5 = .ok (.invokestatic 138, 3) := by decide +kernel
theorem dX4_reachAgain_8 : decode cX4_reachAgain 8 = .ok (.ifCond .ne 6, 3) := by decide +kernel
theorem dX4_reachAgain_11 : decode cX4_reachAgain 11 = .ok (.bipush (-12), 2) := by decide +kernel
theorem dX4_reachAgain_13 : decode cX4_reachAgain 13 = .ok (.ireturn, 1) := by decide +kernel
theorem dX4_reachAgain_14 : decode cX4_reachAgain 14 = .ok (.iconst 0, 1) := by decide +kernel
theorem dX4_reachAgain_15 : decode cX4_reachAgain 15 = .ok (.istore_n 2, 1) := by decide +kernel
theorem dX4_reachAgain_16 : decode cX4_reachAgain 16 = .ok (.iconst 0, 1) := by decide +kernel
theorem dX4_reachAgain_17 : decode cX4_reachAgain 17 = .ok (.istore_n 3, 1) := by decide +kernel
theorem dX4_reachAgain_18 : decode cX4_reachAgain 18 = .ok (.iload_n 3, 1) := by decide +kernel
theorem dX4_reachAgain_19 : decode cX4_reachAgain 19 = .ok (.bipush 32, 2) := by decide +kernel
theorem dX4_reachAgain_21 : decode cX4_reachAgain 21 = .ok (.if_icmp .ge 27, 3) := by decide +kernel
theorem dX4_reachAgain_24 : decode cX4_reachAgain 24 = .ok (.iload_n 2, 1) := by decide +kernel
theorem dX4_reachAgain_25 : decode cX4_reachAgain 25 = .ok (.aload_n 0, 1) := by decide +kernel
theorem dX4_reachAgain_26 : decode cX4_reachAgain 26 = .ok (.getfield 10, 3) := by decide +kernel
theorem dX4_reachAgain_29 : decode cX4_reachAgain 29 = .ok (.iload_n 3, 1) := by decide +kernel
theorem dX4_reachAgain_30 : decode cX4_reachAgain 30 = .ok (.invokevirtual 96, 3) := by decide +kernel
theorem dX4_reachAgain_33 : decode cX4_reachAgain 33 = .ok (.iadd, 1) := by decide +kernel
theorem dX4_reachAgain_34 : decode cX4_reachAgain 34 = .ok (.istore_n 2, 1) := by decide +kernel
theorem dX4_reachAgain_35 : decode cX4_reachAgain 35 = .ok (.iload_n 2, 1) := by decide +kernel
theorem dX4_reachAgain_36 : decode cX4_reachAgain 36 = .ok (.iload_n 1, 1) := by decide +kernel
theorem dX4_reachAgain_37 : decode cX4_reachAgain 37 = .ok (.if_icmp .lt 5, 3) := by decide +kernel
theorem dX4_reachAgain_40 : decode cX4_reachAgain 40 = .ok (.iload_n 3, 1) := by decide +kernel
theorem dX4_reachAgain_41 : decode cX4_reachAgain 41 = .ok (.ireturn, 1) := by decide +kernel
theorem dX4_reachAgain_42 : decode cX4_reachAgain 42 = .ok (.iinc 3 1, 3) := by decide +kernel
theorem dX4_reachAgain_45 : decode cX4_reachAgain 45 = .ok (.goto (-27), 3) := by decide +kernel
theorem dX4_reachAgain_48 : decode cX4_reachAgain 48 = .ok (.bipush (-15), 2) := by decide +kernel
theorem dX4_reachAgain_50 : decode cX4_reachAgain 50 = .ok (.ireturn, 1) := by decide +kernel
theorem dX4_steps_0 : decode cX4_steps 0 = .ok (.iload_n 1, 1) := by decide +kernel
theorem dX4_steps_1 : decode cX4_steps 1 = .ok (.invokestatic 86, 3) := by decide +kernel
theorem dX4_steps_4 : decode cX4_steps 4 = .ok (.ifCond .ne 6, 3) := by decide +kernel
theorem dX4_steps_7 : decode cX4_steps 7 = .ok (.bipush (-11), 2) := by decide +kernel
theorem dX4_steps_9 : decode cX4_steps 9 = .ok (.ireturn, 1) := by decide +kernel
theorem dX4_steps_10 : decode cX4_steps 10 = .ok (.iconst 0, 1) := by decide +kernel
theorem dX4_steps_11 : decode cX4_steps 11 = .ok (.istore_n 2, 1) := by decide +kernel
theorem dX4_steps_12 : decode cX4_steps 12 = .ok (.iload_n 1, 1) := by decide +kernel
theorem dX4_steps_13 : decode cX4_steps 13 = .ok (.iconst 1, 1) := by decide +kernel
theorem dX4_steps_14 : decode cX4_steps 14 = .ok (.iadd, 1) := by decide +kernel
theorem dX4_steps_15 : decode cX4_steps 15 = .ok (.istore_n 3, 1) := by decide +kernel
theorem dX4_steps_16 : decode cX4_steps 16 = .ok (.iconst 0, 1) := by decide +kernel
theorem dX4_steps_17 : decode cX4_steps 17 = .ok (.istore 4, 2) := by decide +kernel
theorem dX4_steps_19 : decode cX4_steps 19 = .ok (.iload 4, 2) := by decide +kernel
theorem dX4_steps_21 : decode cX4_steps 21 = .ok (.bipush 32, 2) := by decide +kernel
theorem dX4_steps_23 : decode cX4_steps 23 = .ok (.if_icmp .ge 32, 3) := by decide +kernel
theorem dX4_steps_26 : decode cX4_steps 26 = .ok (.iload_n 3, 1) := by decide +kernel
theorem dX4_steps_27 : decode cX4_steps 27 = .ok (.ifCond .le 28, 3) := by decide +kernel
theorem dX4_steps_30 : decode cX4_steps 30 = .ok (.iload_n 2, 1) := by decide +kernel
theorem dX4_steps_31 : decode cX4_steps 31 = .ok (.aload_n 0, 1) := by decide +kernel
theorem dX4_steps_32 : decode cX4_steps 32 = .ok (.getfield 10, 3) := by decide +kernel
theorem dX4_steps_35 : decode cX4_steps 35 = .ok (.iload_n 3, 1) := by decide +kernel
theorem dX4_steps_36 : decode cX4_steps 36 = .ok (.iconst 0, 1) := by decide +kernel
theorem dX4_steps_37 : decode cX4_steps 37 = .ok (.invokestatic 142, 3) := by decide +kernel
theorem dX4_steps_40 : decode cX4_steps 40 = .ok (.iadd, 1) := by decide +kernel
theorem dX4_steps_41 : decode cX4_steps 41 = .ok (.istore_n 2, 1) := by decide +kernel
theorem dX4_steps_42 : decode cX4_steps 42 = .ok (.iload_n 3, 1) := by decide +kernel
theorem dX4_steps_43 : decode cX4_steps 43 = .ok (.iload_n 3, 1) := by decide +kernel
theorem dX4_steps_44 : decode cX4_steps 44 = .ok (.invokestatic 114, 3) := by decide +kernel
theorem dX4_steps_47 : decode cX4_steps 47 = .ok (.isub, 1) := by decide +kernel
theorem dX4_steps_48 : decode cX4_steps 48 = .ok (.istore_n 3, 1) := by decide +kernel
theorem dX4_steps_49 : decode cX4_steps 49 = .ok (.iinc 4 1, 3) := by decide +kernel
theorem dX4_steps_52 : decode cX4_steps 52 = .ok (.goto (-33), 3) := by decide +kernel
theorem dX4_steps_55 : decode cX4_steps 55 = .ok (.iload_n 2, 1) := by decide +kernel
theorem dX4_steps_56 : decode cX4_steps 56 = .ok (.ireturn, 1) := by decide +kernel
theorem dX4_stepsAgain_0 : decode cX4_stepsAgain 0 = .ok (.iload_n 1, 1) := by decide +kernel
theorem dX4_stepsAgain_1 : decode cX4_stepsAgain 1 = .ok (.invokestatic 86, 3) := by decide +kernel
theorem dX4_stepsAgain_4 : decode cX4_stepsAgain 4 = .ok (.ifCond .ne 6, 3) := by decide +kernel
theorem dX4_stepsAgain_7 : decode cX4_stepsAgain 7 = .ok (.bipush (-11), 2) := by decide +kernel
theorem dX4_stepsAgain_9 : decode cX4_stepsAgain 9 = .ok (.ireturn, 1) := by decide +kernel
theorem dX4_stepsAgain_10 : decode cX4_stepsAgain 10 = .ok (.iconst 1, 1) := by decide +kernel
theorem dX4_stepsAgain_11 : decode cX4_stepsAgain 11 = .ok (.istore_n 2, 1) := by decide +kernel
theorem dX4_stepsAgain_12 : decode cX4_stepsAgain 12 = .ok (.iload_n 2, 1) := by decide +kernel
theorem dX4_stepsAgain_13 : decode cX4_stepsAgain 13 = .ok (.iload_n 1, 1) := by decide +kernel
theorem dX4_stepsAgain_14 : decode cX4_stepsAgain 14 = .ok (.iconst 1, 1) := by decide +kernel
theorem dX4_stepsAgain_15 : decode cX4_stepsAgain 15 = .ok (.iadd, 1) := by decide +kernel
theorem dX4_stepsAgain_16 : decode cX4_stepsAgain 16 = .ok (.if_icmp .gt 22, 3) := by decide +kernel
theorem dX4_stepsAgain_19 : decode cX4_stepsAgain 19 = .ok (.aload_n 0, 1) := by decide +kernel
theorem dX4_stepsAgain_20 : decode cX4_stepsAgain 20 = .ok (.getfield 54, 3) := by decide +kernel
theorem dX4_stepsAgain_23 : decode cX4_stepsAgain 23 = .ok (.iload_n 2, 1) := by decide +kernel
theorem dX4_stepsAgain_24 : decode cX4_stepsAgain 24 = .ok (.aload_n 0, 1) := by decide +kernel
theorem dX4_stepsAgain_25 : decode cX4_stepsAgain 25 = .ok (.iload_n 2, 1) := by decide +kernel
theorem dX4_stepsAgain_26 : decode cX4_stepsAgain 26 = .ok (.invokevirtual 146, 3) := by decide +kernel
theorem dX4_stepsAgain_29 : decode cX4_stepsAgain 29 = .ok (.invokestatic 149, 3) := by decide +kernel
theorem dX4_stepsAgain_32 : decode cX4_stepsAgain 32 = .ok (.iinc 2 1, 3) := by decide +kernel
theorem dX4_stepsAgain_35 : decode cX4_stepsAgain 35 = .ok (.goto (-23), 3) := by decide +kernel
theorem dX4_stepsAgain_38 : decode cX4_stepsAgain 38 = .ok (.aload_n 0, 1) := by decide +kernel
theorem dX4_stepsAgain_39 : decode cX4_stepsAgain 39 = .ok (.iload_n 1, 1) := by decide +kernel
theorem dX4_stepsAgain_40 : decode cX4_stepsAgain 40 = .ok (.iconst 1, 1) := by decide +kernel
theorem dX4_stepsAgain_41 : decode cX4_stepsAgain 41 = .ok (.iadd, 1) := by decide +kernel
theorem dX4_stepsAgain_42 : decode cX4_stepsAgain 42 = .ok (.iconst 0, 1) := by decide +kernel
theorem dX4_stepsAgain_43 : decode cX4_stepsAgain 43 = .ok (.invokevirtual 153, 3) := by decide +kernel
theorem dX4_stepsAgain_46 : decode cX4_stepsAgain 46 = .ok (.ireturn, 1) := by decide +kernel
theorem dX4_oldest_0 : decode cX4_oldest 0 = .ok (.iconst 0, 1) := by decide +kernel
theorem dX4_oldest_1 : decode cX4_oldest 1 = .ok (.istore_n 2, 1) := by decide +kernel
theorem dX4_oldest_2 : decode cX4_oldest 2 = .ok (.iload_n 2, 1) := by decide +kernel
theorem dX4_oldest_3 : decode cX4_oldest 3 = .ok (.bipush 32, 2) := by decide +kernel
theorem dX4_oldest_5 : decode cX4_oldest 5 = .ok (.if_icmp .ge 34, 3) := by decide +kernel
theorem dX4_oldest_8 : decode cX4_oldest 8 = .ok (.aload_n 0, 1) := by decide +kernel
theorem dX4_oldest_9 : decode cX4_oldest 9 = .ok (.getfield 10, 3) := by decide +kernel
theorem dX4_oldest_12 : decode cX4_oldest 12 = .ok (.iload_n 2, 1) := by decide +kernel
theorem dX4_oldest_13 : decode cX4_oldest 13 = .ok (.invokevirtual 90, 3) := by decide +kernel
theorem dX4_oldest_16 : decode cX4_oldest 16 = .ok (.ifCond .ne 17, 3) := by decide +kernel
theorem dX4_oldest_19 : decode cX4_oldest 19 = .ok (.aload_n 0, 1) := by decide +kernel
theorem dX4_oldest_20 : decode cX4_oldest 20 = .ok (.getfield 10, 3) := by decide +kernel
theorem dX4_oldest_23 : decode cX4_oldest 23 = .ok (.iload_n 2, 1) := by decide +kernel
theorem dX4_oldest_24 : decode cX4_oldest 24 = .ok (.invokevirtual 156, 3) := by decide +kernel
theorem dX4_oldest_27 : decode cX4_oldest 27 = .ok (.iload_n 1, 1) := by decide +kernel
theorem dX4_oldest_28 : decode cX4_oldest 28 = .ok (.if_icmp .ne 5, 3) := by decide +kernel
theorem dX4_oldest_31 : decode cX4_oldest 31 = .ok (.iload_n 2, 1) := by decide +kernel
theorem dX4_oldest_32 : decode cX4_oldest 32 = .ok (.ireturn, 1) := by decide +kernel
theorem dX4_oldest_33 : decode cX4_oldest 33 = .ok (.iinc 2 1, 3) := by decide +kernel
theorem dX4_oldest_36 : decode cX4_oldest 36 = .ok (.goto (-34), 3) := by decide +kernel
theorem dX4_oldest_39 : decode cX4_oldest 39 = .ok (.bipush (-11), 2) := by decide +kernel
theorem dX4_oldest_41 : decode cX4_oldest 41 = .ok (.ireturn, 1) := by decide +kernel
theorem dX4_commonAge_0 : decode cX4_commonAge 0 = .ok (.bipush (-15), 2) := by decide +kernel
theorem dX4_commonAge_2 : decode cX4_commonAge 2 = .ok (.istore_n 1, 1) := by decide +kernel
theorem dX4_commonAge_3 : decode cX4_commonAge 3 = .ok (.iconst 0, 1) := by decide +kernel
theorem dX4_commonAge_4 : decode cX4_commonAge 4 = .ok (.istore_n 2, 1) := by decide +kernel
theorem dX4_commonAge_5 : decode cX4_commonAge 5 = .ok (.iconst 0, 1) := by decide +kernel
theorem dX4_commonAge_6 : decode cX4_commonAge 6 = .ok (.istore_n 3, 1) := by decide +kernel
theorem dX4_commonAge_7 : decode cX4_commonAge 7 = .ok (.iload_n 3, 1) := by decide +kernel
theorem dX4_commonAge_8 : decode cX4_commonAge 8 = .ok (.bipush 32, 2) := by decide +kernel
theorem dX4_commonAge_10 : decode cX4_commonAge 10 = .ok (.if_icmp .ge 65, 3) := by decide +kernel
theorem dX4_commonAge_13 : decode cX4_commonAge 13 = .ok (.aload_n 0, 1) := by decide +kernel
theorem dX4_commonAge_14 : decode cX4_commonAge 14 = .ok (.getfield 10, 3) := by decide +kernel
theorem dX4_commonAge_17 : decode cX4_commonAge 17 = .ok (.iload_n 3, 1) := by decide +kernel
theorem dX4_commonAge_18 : decode cX4_commonAge 18 = .ok (.invokevirtual 99, 3) := by decide +kernel
theorem dX4_commonAge_21 : decode cX4_commonAge 21 = .ok (.istore 4, 2) := by decide +kernel
theorem dX4_commonAge_23 : decode cX4_commonAge 23 = .ok (.aload_n 0, 1) := by decide +kernel
theorem dX4_commonAge_24 : decode cX4_commonAge 24 = .ok (.getfield 10, 3) := by decide +kernel
theorem dX4_commonAge_27 : decode cX4_commonAge 27 = .ok (.iload 4, 2) := by decide +kernel
theorem dX4_commonAge_29 : decode cX4_commonAge 29 = .ok (.invokevirtual 159, 3) := by decide +kernel
theorem dX4_commonAge_32 : decode cX4_commonAge 32 = .ok (.istore 5, 2) := by decide +kernel
theorem dX4_commonAge_34 : decode cX4_commonAge 34 = .ok (.aload_n 0, 1) := by decide +kernel
theorem dX4_commonAge_35 : decode cX4_commonAge 35 = .ok (.getfield 10, 3) := by decide +kernel
theorem dX4_commonAge_38 : decode cX4_commonAge 38 = .ok (.iload_n 3, 1) := by decide +kernel
theorem dX4_commonAge_39 : decode cX4_commonAge 39 = .ok (.invokevirtual 90, 3) := by decide +kernel
theorem dX4_commonAge_42 : decode cX4_commonAge 42 = .ok (.ifCond .ne 27, 3) := by decide +kernel
theorem dX4_commonAge_45 : decode cX4_commonAge 45 = .ok (.iload 5, 2) := by decide +kernel
theorem dX4_commonAge_47 : decode cX4_commonAge 47 = .ok (.iload_n 2, 1) := by decide +kernel
theorem dX4_commonAge_48 : decode cX4_commonAge 48 = .ok (.if_icmp .gt 15, 3) := by decide +kernel
theorem dX4_commonAge_51 : decode cX4_commonAge 51 = .ok (.iload 5, 2) := by decide +kernel
theorem dX4_commonAge_53 : decode cX4_commonAge 53 = .ok (.iload_n 2, 1) := by decide +kernel
theorem dX4_commonAge_54 : decode cX4_commonAge 54 = .ok (.if_icmp .ne 15, 3) := by decide +kernel
theorem dX4_commonAge_57 : decode cX4_commonAge 57 = .ok (.iload 4, 2) := by decide +kernel
theorem dX4_commonAge_59 : decode cX4_commonAge 59 = .ok (.iload_n 1, 1) := by decide +kernel
theorem dX4_commonAge_60 : decode cX4_commonAge 60 = .ok (.if_icmp .ge 9, 3) := by decide +kernel
theorem dX4_commonAge_63 : decode cX4_commonAge 63 = .ok (.iload 5, 2) := by decide +kernel
theorem dX4_commonAge_65 : decode cX4_commonAge 65 = .ok (.istore_n 2, 1) := by decide +kernel
theorem dX4_commonAge_66 : decode cX4_commonAge 66 = .ok (.iload 4, 2) := by decide +kernel
theorem dX4_commonAge_68 : decode cX4_commonAge 68 = .ok (.istore_n 1, 1) := by decide +kernel
theorem dX4_commonAge_69 : decode cX4_commonAge 69 = .ok (.iinc 3 1, 3) := by decide +kernel
theorem dX4_commonAge_72 : decode cX4_commonAge 72 = .ok (.goto (-65), 3) := by decide +kernel
theorem dX4_commonAge_75 : decode cX4_commonAge 75 = .ok (.iload_n 1, 1) := by decide +kernel
theorem dX4_commonAge_76 : decode cX4_commonAge 76 = .ok (.ireturn, 1) := by decide +kernel
theorem dX4_tightest_0 : decode cX4_tightest 0 = .ok (.bipush (-15), 2) := by decide +kernel
theorem dX4_tightest_2 : decode cX4_tightest 2 = .ok (.istore_n 1, 1) := by decide +kernel
theorem dX4_tightest_3 : decode cX4_tightest 3 = .ok (.iconst 0, 1) := by decide +kernel
theorem dX4_tightest_4 : decode cX4_tightest 4 = .ok (.istore_n 2, 1) := by decide +kernel
theorem dX4_tightest_5 : decode cX4_tightest 5 = .ok (.iconst 1, 1) := by decide +kernel
theorem dX4_tightest_6 : decode cX4_tightest 6 = .ok (.istore_n 3, 1) := by decide +kernel
theorem dX4_tightest_7 : decode cX4_tightest 7 = .ok (.iload_n 3, 1) := by decide +kernel
theorem dX4_tightest_8 : decode cX4_tightest 8 = .ok (.bipush 32, 2) := by decide +kernel
theorem dX4_tightest_10 : decode cX4_tightest 10 = .ok (.if_icmp .gt 52, 3) := by decide +kernel
theorem dX4_tightest_13 : decode cX4_tightest 13 = .ok (.iload_n 3, 1) := by decide +kernel
theorem dX4_tightest_14 : decode cX4_tightest 14 = .ok (.invokestatic 120, 3) := by decide +kernel
theorem dX4_tightest_17 : decode cX4_tightest 17 = .ok (.aload_n 0, 1) := by decide +kernel
theorem dX4_tightest_18 : decode cX4_tightest 18 = .ok (.getfield 10, 3) := by decide +kernel
theorem dX4_tightest_21 : decode cX4_tightest 21 = .ok (.iload_n 3, 1) := by decide +kernel
theorem dX4_tightest_22 : decode cX4_tightest 22 = .ok (.invokevirtual 117, 3) := by decide +kernel
theorem dX4_tightest_25 : decode cX4_tightest 25 = .ok (.isub, 1) := by decide +kernel
theorem dX4_tightest_26 : decode cX4_tightest 26 = .ok (.istore 4, 2) := by decide +kernel
theorem dX4_tightest_28 : decode cX4_tightest 28 = .ok (.aload_n 0, 1) := by decide +kernel
theorem dX4_tightest_29 : decode cX4_tightest 29 = .ok (.getfield 10, 3) := by decide +kernel
theorem dX4_tightest_32 : decode cX4_tightest 32 = .ok (.iload_n 3, 1) := by decide +kernel
theorem dX4_tightest_33 : decode cX4_tightest 33 = .ok (.invokevirtual 123, 3) := by decide +kernel
theorem dX4_tightest_36 : decode cX4_tightest 36 = .ok (.ifCond .ne 20, 3) := by decide +kernel
theorem dX4_tightest_39 : decode cX4_tightest 39 = .ok (.iload_n 1, 1) := by decide +kernel
theorem dX4_tightest_40 : decode cX4_tightest 40 = .ok (.bipush (-15), 2) := by decide +kernel
theorem dX4_tightest_42 : decode cX4_tightest 42 = .ok (.if_icmp .eq 9, 3) := by decide +kernel
theorem dX4_tightest_45 : decode cX4_tightest 45 = .ok (.iload 4, 2) := by decide +kernel
theorem dX4_tightest_47 : decode cX4_tightest 47 = .ok (.iload_n 2, 1) := by decide +kernel
theorem dX4_tightest_48 : decode cX4_tightest 48 = .ok (.if_icmp .ge 8, 3) := by decide +kernel
theorem dX4_tightest_51 : decode cX4_tightest 51 = .ok (.iload_n 3, 1) := by decide +kernel
theorem dX4_tightest_52 : decode cX4_tightest 52 = .ok (.istore_n 1, 1) := by decide +kernel
theorem dX4_tightest_53 : decode cX4_tightest 53 = .ok (.iload 4, 2) := by decide +kernel
theorem dX4_tightest_55 : decode cX4_tightest 55 = .ok (.istore_n 2, 1) := by decide +kernel
theorem dX4_tightest_56 : decode cX4_tightest 56 = .ok (.iinc 3 1, 3) := by decide +kernel
theorem dX4_tightest_59 : decode cX4_tightest 59 = .ok (.goto (-52), 3) := by decide +kernel
theorem dX4_tightest_62 : decode cX4_tightest 62 = .ok (.iload_n 1, 1) := by decide +kernel
theorem dX4_tightest_63 : decode cX4_tightest 63 = .ok (.ireturn, 1) := by decide +kernel
theorem dX4_bestBay_0 : decode cX4_bestBay 0 = .ok (.iload_n 1, 1) := by decide +kernel
theorem dX4_bestBay_1 : decode cX4_bestBay 1 = .ok (.invokestatic 162, 3) := by decide +kernel
theorem dX4_bestBay_4 : decode cX4_bestBay 4 = .ok (.ifCond .eq 14, 3) := by decide +kernel
theorem dX4_bestBay_7 : decode cX4_bestBay 7 = .ok (.iload_n 2, 1) := by decide +kernel
theorem dX4_bestBay_8 : decode cX4_bestBay 8 = .ok (.iconst 1, 1) := by decide +kernel
theorem dX4_bestBay_9 : decode cX4_bestBay 9 = .ok (.sipush 200, 3) := by decide +kernel
theorem dX4_bestBay_12 : decode cX4_bestBay 12 = .ok (.invokestatic 138, 3) := by decide +kernel
theorem dX4_bestBay_15 : decode cX4_bestBay 15 = .ok (.ifCond .ne 6, 3) := by decide +kernel
theorem dX4_bestBay_18 : decode cX4_bestBay 18 = .ok (.bipush (-12), 2) := by decide +kernel
theorem dX4_bestBay_20 : decode cX4_bestBay 20 = .ok (.ireturn, 1) := by decide +kernel
theorem dX4_bestBay_21 : decode cX4_bestBay 21 = .ok (.bipush (-15), 2) := by decide +kernel
theorem dX4_bestBay_23 : decode cX4_bestBay 23 = .ok (.istore_n 3, 1) := by decide +kernel
theorem dX4_bestBay_24 : decode cX4_bestBay 24 = .ok (.iconst 0, 1) := by decide +kernel
theorem dX4_bestBay_25 : decode cX4_bestBay 25 = .ok (.istore 4, 2) := by decide +kernel
theorem dX4_bestBay_27 : decode cX4_bestBay 27 = .ok (.iload 4, 2) := by decide +kernel
theorem dX4_bestBay_29 : decode cX4_bestBay 29 = .ok (.bipush 32, 2) := by decide +kernel
theorem dX4_bestBay_31 : decode cX4_bestBay 31 = .ok (.if_icmp .ge 74, 3) := by decide +kernel
theorem dX4_bestBay_34 : decode cX4_bestBay 34 = .ok (.aload_n 0, 1) := by decide +kernel
theorem dX4_bestBay_35 : decode cX4_bestBay 35 = .ok (.iload 4, 2) := by decide +kernel
theorem dX4_bestBay_37 : decode cX4_bestBay 37 = .ok (.iload_n 1, 1) := by decide +kernel
theorem dX4_bestBay_38 : decode cX4_bestBay 38 = .ok (.iload_n 2, 1) := by decide +kernel
theorem dX4_bestBay_39 : decode cX4_bestBay 39 = .ok (.invokevirtual 165, 3) := by decide +kernel
theorem dX4_bestBay_42 : decode cX4_bestBay 42 = .ok (.ifCond .eq 20, 3) := by decide +kernel
theorem dX4_bestBay_45 : decode cX4_bestBay 45 = .ok (.aload_n 0, 1) := by decide +kernel
theorem dX4_bestBay_46 : decode cX4_bestBay 46 = .ok (.getfield 10, 3) := by decide +kernel
theorem dX4_bestBay_49 : decode cX4_bestBay 49 = .ok (.iload 4, 2) := by decide +kernel
theorem dX4_bestBay_51 : decode cX4_bestBay 51 = .ok (.iload_n 2, 1) := by decide +kernel
theorem dX4_bestBay_52 : decode cX4_bestBay 52 = .ok (.invokevirtual 168, 3) := by decide +kernel
theorem dX4_bestBay_55 : decode cX4_bestBay 55 = .ok (.ifCond .ne 7, 3) := by decide +kernel
theorem dX4_bestBay_58 : decode cX4_bestBay 58 = .ok (.iconst 1, 1) := by decide +kernel
theorem dX4_bestBay_59 : decode cX4_bestBay 59 = .ok (.goto 4, 3) := by decide +kernel
theorem dX4_bestBay_62 : decode cX4_bestBay 62 = .ok (.iconst 0, 1) := by decide +kernel
theorem dX4_bestBay_63 : decode cX4_bestBay 63 = .ok (.istore 5, 2) := by decide +kernel
theorem dX4_bestBay_65 : decode cX4_bestBay 65 = .ok (.iload 5, 2) := by decide +kernel
theorem dX4_bestBay_67 : decode cX4_bestBay 67 = .ok (.ifCond .eq 18, 3) := by decide +kernel
theorem dX4_bestBay_70 : decode cX4_bestBay 70 = .ok (.aload_n 0, 1) := by decide +kernel
theorem dX4_bestBay_71 : decode cX4_bestBay 71 = .ok (.getfield 10, 3) := by decide +kernel
theorem dX4_bestBay_74 : decode cX4_bestBay 74 = .ok (.iload 4, 2) := by decide +kernel
theorem dX4_bestBay_76 : decode cX4_bestBay 76 = .ok (.invokevirtual 90, 3) := by decide +kernel
theorem dX4_bestBay_79 : decode cX4_bestBay 79 = .ok (.ifCond .ne 6, 3) := by decide +kernel
theorem dX4_bestBay_82 : decode cX4_bestBay 82 = .ok (.iload 4, 2) := by decide +kernel
theorem dX4_bestBay_84 : decode cX4_bestBay 84 = .ok (.ireturn, 1) := by decide +kernel
theorem dX4_bestBay_85 : decode cX4_bestBay 85 = .ok (.iload 5, 2) := by decide +kernel
theorem dX4_bestBay_87 : decode cX4_bestBay 87 = .ok (.ifCond .eq 12, 3) := by decide +kernel
theorem dX4_bestBay_90 : decode cX4_bestBay 90 = .ok (.iload_n 3, 1) := by decide +kernel
theorem dX4_bestBay_91 : decode cX4_bestBay 91 = .ok (.bipush (-15), 2) := by decide +kernel
theorem dX4_bestBay_93 : decode cX4_bestBay 93 = .ok (.if_icmp .ne 6, 3) := by decide +kernel
theorem dX4_bestBay_96 : decode cX4_bestBay 96 = .ok (.iload 4, 2) := by decide +kernel
theorem dX4_bestBay_98 : decode cX4_bestBay 98 = .ok (.istore_n 3, 1) := by decide +kernel
theorem dX4_bestBay_99 : decode cX4_bestBay 99 = .ok (.iinc 4 1, 3) := by decide +kernel
theorem dX4_bestBay_102 : decode cX4_bestBay 102 = .ok (.goto (-75), 3) := by decide +kernel
theorem dX4_bestBay_105 : decode cX4_bestBay 105 = .ok (.iload_n 3, 1) := by decide +kernel
theorem dX4_bestBay_106 : decode cX4_bestBay 106 = .ok (.ireturn, 1) := by decide +kernel
theorem dX4_price_0 : decode cX4_price 0 = .ok (.iload_n 1, 1) := by decide +kernel
theorem dX4_price_1 : decode cX4_price 1 = .ok (.invokestatic 162, 3) := by decide +kernel
theorem dX4_price_4 : decode cX4_price 4 = .ok (.ifCond .eq 14, 3) := by decide +kernel
theorem dX4_price_7 : decode cX4_price 7 = .ok (.iload_n 2, 1) := by decide +kernel
theorem dX4_price_8 : decode cX4_price 8 = .ok (.iconst 1, 1) := by decide +kernel
theorem dX4_price_9 : decode cX4_price 9 = .ok (.sipush 999, 3) := by decide +kernel
theorem dX4_price_12 : decode cX4_price 12 = .ok (.invokestatic 138, 3) := by decide +kernel
theorem dX4_price_15 : decode cX4_price 15 = .ok (.ifCond .ne 6, 3) := by decide +kernel
theorem dX4_price_18 : decode cX4_price 18 = .ok (.bipush (-12), 2) := by decide +kernel
theorem dX4_price_20 : decode cX4_price 20 = .ok (.ireturn, 1) := by decide +kernel
theorem dX4_price_21 : decode cX4_price 21 = .ok (.iload_n 1, 1) := by decide +kernel
theorem dX4_price_22 : decode cX4_price 22 = .ok (.iload_n 2, 1) := by decide +kernel
theorem dX4_price_23 : decode cX4_price 23 = .ok (.invokestatic 172, 3) := by decide +kernel
theorem dX4_price_26 : decode cX4_price 26 = .ok (.ireturn, 1) := by decide +kernel
theorem dX4_append_0 : decode cX4_append 0 = .ok (.iload_n 1, 1) := by decide +kernel
theorem dX4_append_1 : decode cX4_append 1 = .ok (.bipush 32, 2) := by decide +kernel
theorem dX4_append_3 : decode cX4_append 3 = .ok (.bipush 126, 2) := by decide +kernel
theorem dX4_append_5 : decode cX4_append 5 = .ok (.invokestatic 138, 3) := by decide +kernel
theorem dX4_append_8 : decode cX4_append 8 = .ok (.ifCond .ne 6, 3) := by decide +kernel
theorem dX4_append_11 : decode cX4_append 11 = .ok (.bipush (-12), 2) := by decide +kernel
theorem dX4_append_13 : decode cX4_append 13 = .ok (.ireturn, 1) := by decide +kernel
theorem dX4_append_14 : decode cX4_append 14 = .ok (.aload_n 0, 1) := by decide +kernel
theorem dX4_append_15 : decode cX4_append 15 = .ok (.getfield 36, 3) := by decide +kernel
theorem dX4_append_18 : decode cX4_append 18 = .ok (.iload_n 1, 1) := by decide +kernel
theorem dX4_append_19 : decode cX4_append 19 = .ok (.invokevirtual 175, 3) := by decide +kernel
theorem dX4_append_22 : decode cX4_append 22 = .ok (.ireturn, 1) := by decide +kernel
theorem dX4_run_0 : decode cX4_run 0 = .ok (.aload_n 0, 1) := by decide +kernel
theorem dX4_run_1 : decode cX4_run 1 = .ok (.getfield 36, 3) := by decide +kernel
theorem dX4_run_4 : decode cX4_run 4 = .ok (.invokevirtual 178, 3) := by decide +kernel
theorem dX4_run_7 : decode cX4_run 7 = .ok (.istore_n 1, 1) := by decide +kernel
theorem dX4_run_8 : decode cX4_run 8 = .ok (.aload_n 0, 1) := by decide +kernel
theorem dX4_run_9 : decode cX4_run 9 = .ok (.getfield 36, 3) := by decide +kernel
theorem dX4_run_12 : decode cX4_run 12 = .ok (.invokevirtual 182, 3) := by decide +kernel
theorem dX4_run_15 : decode cX4_run 15 = .ok (.iload_n 1, 1) := by decide +kernel
theorem dX4_run_16 : decode cX4_run 16 = .ok (.ifCond .ne 15, 3) := by decide +kernel
theorem dX4_run_19 : decode cX4_run 19 = .ok (.sipush (-1000), 3) := by decide +kernel
theorem dX4_run_22 : decode cX4_run 22 = .ok (.aload_n 0, 1) := by decide +kernel
theorem dX4_run_23 : decode cX4_run 23 = .ok (.getfield 36, 3) := by decide +kernel
theorem dX4_run_26 : decode cX4_run 26 = .ok (.invokevirtual 185, 3) := by decide +kernel
theorem dX4_run_29 : decode cX4_run 29 = .ok (.isub, 1) := by decide +kernel
theorem dX4_run_30 : decode cX4_run 30 = .ok (.ireturn, 1) := by decide +kernel
theorem dX4_run_31 : decode cX4_run 31 = .ok (.aload_n 0, 1) := by decide +kernel
theorem dX4_run_32 : decode cX4_run 32 = .ok (.getfield 16, 3) := by decide +kernel
theorem dX4_run_35 : decode cX4_run 35 = .ok (.aload_n 0, 1) := by decide +kernel
theorem dX4_run_36 : decode cX4_run 36 = .ok (.getfield 10, 3) := by decide +kernel
theorem dX4_run_39 : decode cX4_run 39 = .ok (.invokevirtual 58, 3) := by decide +kernel
theorem dX4_run_42 : decode cX4_run 42 = .ok (.aload_n 0, 1) := by decide +kernel
theorem dX4_run_43 : decode cX4_run 43 = .ok (.getfield 36, 3) := by decide +kernel
theorem dX4_run_46 : decode cX4_run 46 = .ok (.invokevirtual 189, 3) := by decide +kernel
theorem dX4_run_49 : decode cX4_run 49 = .ok (.istore_n 2, 1) := by decide +kernel
theorem dX4_run_50 : decode cX4_run 50 = .ok (.iconst 0, 1) := by decide +kernel
theorem dX4_run_51 : decode cX4_run 51 = .ok (.istore_n 3, 1) := by decide +kernel
theorem dX4_run_52 : decode cX4_run 52 = .ok (.iload_n 3, 1) := by decide +kernel
theorem dX4_run_53 : decode cX4_run 53 = .ok (.iload_n 2, 1) := by decide +kernel
theorem dX4_run_54 : decode cX4_run 54 = .ok (.if_icmp .ge 36, 3) := by decide +kernel
theorem dX4_run_57 : decode cX4_run 57 = .ok (.aload_n 0, 1) := by decide +kernel
theorem dX4_run_58 : decode cX4_run 58 = .ok (.iload_n 3, 1) := by decide +kernel
theorem dX4_run_59 : decode cX4_run 59 = .ok (.invokevirtual 192, 3) := by decide +kernel
theorem dX4_run_62 : decode cX4_run 62 = .ok (.ifCond .ge 22, 3) := by decide +kernel
theorem dX4_run_65 : decode cX4_run 65 = .ok (.aload_n 0, 1) := by decide +kernel
theorem dX4_run_66 : decode cX4_run 66 = .ok (.getfield 10, 3) := by decide +kernel
theorem dX4_run_69 : decode cX4_run 69 = .ok (.aload_n 0, 1) := by decide +kernel
theorem dX4_run_70 : decode cX4_run 70 = .ok (.getfield 16, 3) := by decide +kernel
theorem dX4_run_73 : decode cX4_run 73 = .ok (.invokevirtual 58, 3) := by decide +kernel
theorem dX4_run_76 : decode cX4_run 76 = .ok (.aload_n 0, 1) := by decide +kernel
theorem dX4_run_77 : decode cX4_run 77 = .ok (.bipush 9, 2) := by decide +kernel
theorem dX4_run_79 : decode cX4_run 79 = .ok (.iload_n 3, 1) := by decide +kernel
theorem dX4_run_80 : decode cX4_run 80 = .ok (.invokevirtual 195, 3) := by decide +kernel
theorem dX4_run_83 : decode cX4_run 83 = .ok (.ireturn, 1) := by decide +kernel
theorem dX4_run_84 : decode cX4_run 84 = .ok (.iinc 3 1, 3) := by decide +kernel
theorem dX4_run_87 : decode cX4_run 87 = .ok (.goto (-35), 3) := by decide +kernel
theorem dX4_run_90 : decode cX4_run 90 = .ok (.aload_n 0, 1) := by decide +kernel
theorem dX4_run_91 : decode cX4_run 91 = .ok (.iload_n 2, 1) := by decide +kernel
theorem dX4_run_92 : decode cX4_run 92 = .ok (.invokevirtual 66, 3) := by decide +kernel
theorem dX4_run_95 : decode cX4_run 95 = .ok (.ireturn, 1) := by decide +kernel
theorem dX4_tellRung_0 : decode cX4_tellRung 0 = .ok (.iload_n 1, 1) := by decide +kernel
theorem dX4_tellRung_1 : decode cX4_tellRung 1 = .ok (.invokestatic 111, 3) := by decide +kernel
theorem dX4_tellRung_4 : decode cX4_tellRung 4 = .ok (.ifCond .ne 6, 3) := by decide +kernel
theorem dX4_tellRung_7 : decode cX4_tellRung 7 = .ok (.bipush (-11), 2) := by decide +kernel
theorem dX4_tellRung_9 : decode cX4_tellRung 9 = .ok (.ireturn, 1) := by decide +kernel
theorem dX4_tellRung_10 : decode cX4_tellRung 10 = .ok (.aload_n 0, 1) := by decide +kernel
theorem dX4_tellRung_11 : decode cX4_tellRung 11 = .ok (.getfield 43, 3) := by decide +kernel
theorem dX4_tellRung_14 : decode cX4_tellRung 14 = .ok (.invokevirtual 198, 3) := by decide +kernel
theorem dX4_tellRung_17 : decode cX4_tellRung 17 = .ok (.aload_n 0, 1) := by decide +kernel
theorem dX4_tellRung_18 : decode cX4_tellRung 18 = .ok (.getfield 43, 3) := by decide +kernel
theorem dX4_tellRung_21 : decode cX4_tellRung 21 = .ok (.iload_n 1, 1) := by decide +kernel
theorem dX4_tellRung_22 : decode cX4_tellRung 22 = .ok (.invokevirtual 209, 3) := by decide +kernel
theorem dX4_tellRung_25 : decode cX4_tellRung 25 = .ok (.aload_n 0, 1) := by decide +kernel
theorem dX4_tellRung_26 : decode cX4_tellRung 26 = .ok (.getfield 43, 3) := by decide +kernel
theorem dX4_tellRung_29 : decode cX4_tellRung 29 = .ok (.bipush 58, 2) := by decide +kernel
theorem dX4_tellRung_31 : decode cX4_tellRung 31 = .ok (.invokevirtual 199, 3) := by decide +kernel
theorem dX4_tellRung_34 : decode cX4_tellRung 34 = .ok (.aload_n 0, 1) := by decide +kernel
theorem dX4_tellRung_35 : decode cX4_tellRung 35 = .ok (.getfield 43, 3) := by decide +kernel
theorem dX4_tellRung_38 : decode cX4_tellRung 38 = .ok (.iload_n 1, 1) := by decide +kernel
theorem dX4_tellRung_39 : decode cX4_tellRung 39 = .ok (.invokestatic 126, 3) := by decide +kernel
theorem dX4_tellRung_42 : decode cX4_tellRung 42 = .ok (.invokevirtual 209, 3) := by decide +kernel
theorem dX4_tellRung_45 : decode cX4_tellRung 45 = .ok (.aload_n 0, 1) := by decide +kernel
theorem dX4_tellRung_46 : decode cX4_tellRung 46 = .ok (.getfield 43, 3) := by decide +kernel
theorem dX4_tellRung_49 : decode cX4_tellRung 49 = .ok (.bipush 45, 2) := by decide +kernel
theorem dX4_tellRung_51 : decode cX4_tellRung 51 = .ok (.invokevirtual 199, 3) := by decide +kernel
theorem dX4_tellRung_54 : decode cX4_tellRung 54 = .ok (.aload_n 0, 1) := by decide +kernel
theorem dX4_tellRung_55 : decode cX4_tellRung 55 = .ok (.getfield 43, 3) := by decide +kernel
theorem dX4_tellRung_58 : decode cX4_tellRung 58 = .ok (.iload_n 1, 1) := by decide +kernel
theorem dX4_tellRung_59 : decode cX4_tellRung 59 = .ok (.iconst 1, 1) := by decide +kernel
theorem dX4_tellRung_60 : decode cX4_tellRung 60 = .ok (.isub, 1) := by decide +kernel
theorem dX4_tellRung_61 : decode cX4_tellRung 61 = .ok (.invokevirtual 209, 3) := by decide +kernel
theorem dX4_tellRung_64 : decode cX4_tellRung 64 = .ok (.aload_n 0, 1) := by decide +kernel
theorem dX4_tellRung_65 : decode cX4_tellRung 65 = .ok (.getfield 43, 3) := by decide +kernel
theorem dX4_tellRung_68 : decode cX4_tellRung 68 = .ok (.bipush 61, 2) := by decide +kernel
theorem dX4_tellRung_70 : decode cX4_tellRung 70 = .ok (.invokevirtual 199, 3) := by decide +kernel
theorem dX4_tellRung_73 : decode cX4_tellRung 73 = .ok (.aload_n 0, 1) := by decide +kernel
theorem dX4_tellRung_74 : decode cX4_tellRung 74 = .ok (.getfield 43, 3) := by decide +kernel
theorem dX4_tellRung_77 : decode cX4_tellRung 77 = .ok (.aload_n 0, 1) := by decide +kernel
theorem dX4_tellRung_78 : decode cX4_tellRung 78 = .ok (.getfield 10, 3) := by decide +kernel
theorem dX4_tellRung_81 : decode cX4_tellRung 81 = .ok (.iload_n 1, 1) := by decide +kernel
theorem dX4_tellRung_82 : decode cX4_tellRung 82 = .ok (.invokevirtual 117, 3) := by decide +kernel
theorem dX4_tellRung_85 : decode cX4_tellRung 85 = .ok (.invokevirtual 209, 3) := by decide +kernel
theorem dX4_tellRung_88 : decode cX4_tellRung 88 = .ok (.aload_n 0, 1) := by decide +kernel
theorem dX4_tellRung_89 : decode cX4_tellRung 89 = .ok (.getfield 10, 3) := by decide +kernel
theorem dX4_tellRung_92 : decode cX4_tellRung 92 = .ok (.iload_n 1, 1) := by decide +kernel
theorem dX4_tellRung_93 : decode cX4_tellRung 93 = .ok (.invokevirtual 123, 3) := by decide +kernel
theorem dX4_tellRung_96 : decode cX4_tellRung 96 = .ok (.ifCond .eq 12, 3) := by decide +kernel
theorem dX4_tellRung_99 : decode cX4_tellRung 99 = .ok (.aload_n 0, 1) := by decide +kernel
theorem dX4_tellRung_100 : decode cX4_tellRung 100 = .ok (.getfield 43, 3) := by decide +kernel
theorem dX4_tellRung_103 : decode cX4_tellRung 103 = .ok (.bipush 33, 2) := by decide +kernel
theorem dX4_tellRung_105 : decode cX4_tellRung 105 = .ok (.invokevirtual 199, 3) := by decide +kernel
theorem dX4_tellRung_108 : decode cX4_tellRung 108 = .ok (.aload_n 0, 1) := by decide +kernel
theorem dX4_tellRung_109 : decode cX4_tellRung 109 = .ok (.getfield 43, 3) := by decide +kernel
theorem dX4_tellRung_112 : decode cX4_tellRung 112 = .ok (.invokevirtual 212, 3) := by decide +kernel
theorem dX4_tellRung_115 : decode cX4_tellRung 115 = .ok (.ireturn, 1) := by decide +kernel
theorem dX4_character_0 : decode cX4_character 0 = .ok (.aload_n 0, 1) := by decide +kernel
theorem dX4_character_1 : decode cX4_character 1 = .ok (.getfield 43, 3) := by decide +kernel
theorem dX4_character_4 : decode cX4_character 4 = .ok (.iload_n 1, 1) := by decide +kernel
theorem dX4_character_5 : decode cX4_character 5 = .ok (.invokevirtual 215, 3) := by decide +kernel
theorem dX4_character_8 : decode cX4_character 8 = .ok (.ireturn, 1) := by decide +kernel
theorem dX4_reason_0 : decode cX4_reason 0 = .ok (.aload_n 0, 1) := by decide +kernel
theorem dX4_reason_1 : decode cX4_reason 1 = .ok (.getfield 47, 3) := by decide +kernel
theorem dX4_reason_4 : decode cX4_reason 4 = .ok (.ifCond .ne 6, 3) := by decide +kernel
theorem dX4_reason_7 : decode cX4_reason 7 = .ok (.bipush (-15), 2) := by decide +kernel
theorem dX4_reason_9 : decode cX4_reason 9 = .ok (.ireturn, 1) := by decide +kernel
theorem dX4_reason_10 : decode cX4_reason 10 = .ok (.iload_n 1, 1) := by decide +kernel
theorem dX4_reason_11 : decode cX4_reason 11 = .ok (.ifCond .eq 10, 3) := by decide +kernel
theorem dX4_reason_14 : decode cX4_reason 14 = .ok (.aload_n 0, 1) := by decide +kernel
theorem dX4_reason_15 : decode cX4_reason 15 = .ok (.getfield 51, 3) := by decide +kernel
theorem dX4_reason_18 : decode cX4_reason 18 = .ok (.goto 7, 3) := by decide +kernel
theorem dX4_reason_21 : decode cX4_reason 21 = .ok (.aload_n 0, 1) := by decide +kernel
theorem dX4_reason_22 : decode cX4_reason 22 = .ok (.getfield 47, 3) := by decide +kernel
theorem dX4_reason_25 : decode cX4_reason 25 = .ok (.ireturn, 1) := by decide +kernel
theorem dX4_account_0 : decode cX4_account 0 = .ok (.iload_n 1, 1) := by decide +kernel
theorem dX4_account_1 : decode cX4_account 1 = .ok (.tableswitch 130 2 17 #[79, 87, 95, 95, 95, 95, 130, 130, 130, 130, 130, 106, 130, 130, 114, 122], 79) := by decide +kernel
theorem dX4_account_80 : decode cX4_account 80 = .ok (.aload_n 0, 1) := by decide +kernel
theorem dX4_account_81 : decode cX4_account 81 = .ok (.getfield 10, 3) := by decide +kernel
theorem dX4_account_84 : decode cX4_account 84 = .ok (.invokevirtual 218, 3) := by decide +kernel
theorem dX4_account_87 : decode cX4_account 87 = .ok (.ireturn, 1) := by decide +kernel
theorem dX4_account_88 : decode cX4_account 88 = .ok (.aload_n 0, 1) := by decide +kernel
theorem dX4_account_89 : decode cX4_account 89 = .ok (.getfield 10, 3) := by decide +kernel
theorem dX4_account_92 : decode cX4_account 92 = .ok (.invokevirtual 221, 3) := by decide +kernel
theorem dX4_account_95 : decode cX4_account 95 = .ok (.ireturn, 1) := by decide +kernel
theorem dX4_account_96 : decode cX4_account 96 = .ok (.aload_n 0, 1) := by decide +kernel
theorem dX4_account_97 : decode cX4_account 97 = .ok (.getfield 10, 3) := by decide +kernel
theorem dX4_account_100 : decode cX4_account 100 = .ok (.iload_n 1, 1) := by decide +kernel
theorem dX4_account_101 : decode cX4_account 101 = .ok (.iconst 4, 1) := by decide +kernel
theorem dX4_account_102 : decode cX4_account 102 = .ok (.isub, 1) := by decide +kernel
theorem dX4_account_103 : decode cX4_account 103 = .ok (.invokevirtual 224, 3) := by decide +kernel
theorem dX4_account_106 : decode cX4_account 106 = .ok (.ireturn, 1) := by decide +kernel
theorem dX4_account_107 : decode cX4_account 107 = .ok (.aload_n 0, 1) := by decide +kernel
theorem dX4_account_108 : decode cX4_account 108 = .ok (.getfield 10, 3) := by decide +kernel
theorem dX4_account_111 : decode cX4_account 111 = .ok (.invokevirtual 227, 3) := by decide +kernel
theorem dX4_account_114 : decode cX4_account 114 = .ok (.ireturn, 1) := by decide +kernel
theorem dX4_account_115 : decode cX4_account 115 = .ok (.aload_n 0, 1) := by decide +kernel
theorem dX4_account_116 : decode cX4_account 116 = .ok (.getfield 36, 3) := by decide +kernel
theorem dX4_account_119 : decode cX4_account 119 = .ok (.invokevirtual 230, 3) := by decide +kernel
theorem dX4_account_122 : decode cX4_account 122 = .ok (.ireturn, 1) := by decide +kernel
theorem dX4_account_123 : decode cX4_account 123 = .ok (.aload_n 0, 1) := by decide +kernel
theorem dX4_account_124 : decode cX4_account 124 = .ok (.getfield 29, 3) := by decide +kernel
theorem dX4_account_127 : decode cX4_account 127 = .ok (.invokevirtual 231, 3) := by decide +kernel
theorem dX4_account_130 : decode cX4_account 130 = .ok (.ireturn, 1) := by decide +kernel
theorem dX4_account_131 : decode cX4_account 131 = .ok (.iload_n 1, 1) := by decide +kernel
theorem dX4_account_132 : decode cX4_account 132 = .ok (.iconst 0, 1) := by decide +kernel
theorem dX4_account_133 : decode cX4_account 133 = .ok (.bipush 15, 2) := by decide +kernel
theorem dX4_account_135 : decode cX4_account 135 = .ok (.invokestatic 138, 3) := by decide +kernel
theorem dX4_account_138 : decode cX4_account 138 = .ok (.ifCond .eq 14, 3) := by decide +kernel
theorem dX4_account_141 : decode cX4_account 141 = .ok (.aload_n 0, 1) := by decide +kernel
theorem dX4_account_142 : decode cX4_account 142 = .ok (.getfield 10, 3) := by decide +kernel
theorem dX4_account_145 : decode cX4_account 145 = .ok (.iload_n 1, 1) := by decide +kernel
theorem dX4_account_146 : decode cX4_account 146 = .ok (.invokevirtual 232, 3) := by decide +kernel
theorem dX4_account_149 : decode cX4_account 149 = .ok (.goto 5, 3) := by decide +kernel
theorem dX4_account_152 : decode cX4_account 152 = .ok (.bipush (-12), 2) := by decide +kernel
theorem dX4_account_154 : decode cX4_account 154 = .ok (.ireturn, 1) := by decide +kernel
theorem dX4_isBalanced_0 : decode cX4_isBalanced 0 = .ok (.iconst 1, 1) := by decide +kernel
theorem dX4_isBalanced_1 : decode cX4_isBalanced 1 = .ok (.istore_n 1, 1) := by decide +kernel
theorem dX4_isBalanced_2 : decode cX4_isBalanced 2 = .ok (.iload_n 1, 1) := by decide +kernel
theorem dX4_isBalanced_3 : decode cX4_isBalanced 3 = .ok (.bipush 32, 2) := by decide +kernel
theorem dX4_isBalanced_5 : decode cX4_isBalanced 5 = .ok (.if_icmp .gt 36, 3) := by decide +kernel
theorem dX4_isBalanced_8 : decode cX4_isBalanced 8 = .ok (.aload_n 0, 1) := by decide +kernel
theorem dX4_isBalanced_9 : decode cX4_isBalanced 9 = .ok (.getfield 10, 3) := by decide +kernel
theorem dX4_isBalanced_12 : decode cX4_isBalanced 12 = .ok (.iload_n 1, 1) := by decide +kernel
theorem dX4_isBalanced_13 : decode cX4_isBalanced 13 = .ok (.invokevirtual 117, 3) := by decide +kernel
theorem dX4_isBalanced_16 : decode cX4_isBalanced 16 = .ok (.aload_n 0, 1) := by decide +kernel
theorem dX4_isBalanced_17 : decode cX4_isBalanced 17 = .ok (.getfield 10, 3) := by decide +kernel
theorem dX4_isBalanced_20 : decode cX4_isBalanced 20 = .ok (.iload_n 1, 1) := by decide +kernel
theorem dX4_isBalanced_21 : decode cX4_isBalanced 21 = .ok (.invokestatic 126, 3) := by decide +kernel
theorem dX4_isBalanced_24 : decode cX4_isBalanced 24 = .ok (.iload_n 1, 1) := by decide +kernel
theorem dX4_isBalanced_25 : decode cX4_isBalanced 25 = .ok (.iconst 1, 1) := by decide +kernel
theorem dX4_isBalanced_26 : decode cX4_isBalanced 26 = .ok (.isub, 1) := by decide +kernel
theorem dX4_isBalanced_27 : decode cX4_isBalanced 27 = .ok (.invokevirtual 135, 3) := by decide +kernel
theorem dX4_isBalanced_30 : decode cX4_isBalanced 30 = .ok (.if_icmp .eq 5, 3) := by decide +kernel
theorem dX4_isBalanced_33 : decode cX4_isBalanced 33 = .ok (.iconst 0, 1) := by decide +kernel
theorem dX4_isBalanced_34 : decode cX4_isBalanced 34 = .ok (.ireturn, 1) := by decide +kernel
theorem dX4_isBalanced_35 : decode cX4_isBalanced 35 = .ok (.iinc 1 1, 3) := by decide +kernel
theorem dX4_isBalanced_38 : decode cX4_isBalanced 38 = .ok (.goto (-36), 3) := by decide +kernel
theorem dX4_isBalanced_41 : decode cX4_isBalanced 41 = .ok (.aload_n 0, 1) := by decide +kernel
theorem dX4_isBalanced_42 : decode cX4_isBalanced 42 = .ok (.getfield 10, 3) := by decide +kernel
theorem dX4_isBalanced_45 : decode cX4_isBalanced 45 = .ok (.bipush 9, 2) := by decide +kernel
theorem dX4_isBalanced_47 : decode cX4_isBalanced 47 = .ok (.invokevirtual 232, 3) := by decide +kernel
theorem dX4_isBalanced_50 : decode cX4_isBalanced 50 = .ok (.aload_n 0, 1) := by decide +kernel
theorem dX4_isBalanced_51 : decode cX4_isBalanced 51 = .ok (.getfield 10, 3) := by decide +kernel
theorem dX4_isBalanced_54 : decode cX4_isBalanced 54 = .ok (.bipush 10, 2) := by decide +kernel
theorem dX4_isBalanced_56 : decode cX4_isBalanced 56 = .ok (.invokevirtual 232, 3) := by decide +kernel
theorem dX4_isBalanced_59 : decode cX4_isBalanced 59 = .ok (.iadd, 1) := by decide +kernel
theorem dX4_isBalanced_60 : decode cX4_isBalanced 60 = .ok (.aload_n 0, 1) := by decide +kernel
theorem dX4_isBalanced_61 : decode cX4_isBalanced 61 = .ok (.getfield 10, 3) := by decide +kernel
theorem dX4_isBalanced_64 : decode cX4_isBalanced 64 = .ok (.bipush 11, 2) := by decide +kernel
theorem dX4_isBalanced_66 : decode cX4_isBalanced 66 = .ok (.invokevirtual 232, 3) := by decide +kernel
theorem dX4_isBalanced_69 : decode cX4_isBalanced 69 = .ok (.iadd, 1) := by decide +kernel
theorem dX4_isBalanced_70 : decode cX4_isBalanced 70 = .ok (.istore_n 1, 1) := by decide +kernel
theorem dX4_isBalanced_71 : decode cX4_isBalanced 71 = .ok (.aload_n 0, 1) := by decide +kernel
theorem dX4_isBalanced_72 : decode cX4_isBalanced 72 = .ok (.getfield 10, 3) := by decide +kernel
theorem dX4_isBalanced_75 : decode cX4_isBalanced 75 = .ok (.invokevirtual 221, 3) := by decide +kernel
theorem dX4_isBalanced_78 : decode cX4_isBalanced 78 = .ok (.aload_n 0, 1) := by decide +kernel
theorem dX4_isBalanced_79 : decode cX4_isBalanced 79 = .ok (.getfield 10, 3) := by decide +kernel
theorem dX4_isBalanced_82 : decode cX4_isBalanced 82 = .ok (.bipush 8, 2) := by decide +kernel
theorem dX4_isBalanced_84 : decode cX4_isBalanced 84 = .ok (.invokevirtual 232, 3) := by decide +kernel
theorem dX4_isBalanced_87 : decode cX4_isBalanced 87 = .ok (.iload_n 1, 1) := by decide +kernel
theorem dX4_isBalanced_88 : decode cX4_isBalanced 88 = .ok (.isub, 1) := by decide +kernel
theorem dX4_isBalanced_89 : decode cX4_isBalanced 89 = .ok (.if_icmp .ne 7, 3) := by decide +kernel
theorem dX4_isBalanced_92 : decode cX4_isBalanced 92 = .ok (.iconst 1, 1) := by decide +kernel
theorem dX4_isBalanced_93 : decode cX4_isBalanced 93 = .ok (.goto 4, 3) := by decide +kernel
theorem dX4_isBalanced_96 : decode cX4_isBalanced 96 = .ok (.iconst 0, 1) := by decide +kernel
theorem dX4_isBalanced_97 : decode cX4_isBalanced 97 = .ok (.ireturn, 1) := by decide +kernel
theorem dX4_meanSacks_0 : decode cX4_meanSacks 0 = .ok (.aload_n 0, 1) := by decide +kernel
theorem dX4_meanSacks_1 : decode cX4_meanSacks 1 = .ok (.getfield 10, 3) := by decide +kernel
theorem dX4_meanSacks_4 : decode cX4_meanSacks 4 = .ok (.invokevirtual 218, 3) := by decide +kernel
theorem dX4_meanSacks_7 : decode cX4_meanSacks 7 = .ok (.istore_n 1, 1) := by decide +kernel
theorem dX4_meanSacks_8 : decode cX4_meanSacks 8 = .ok (.iload_n 1, 1) := by decide +kernel
theorem dX4_meanSacks_9 : decode cX4_meanSacks 9 = .ok (.ifCond .ne 5, 3) := by decide +kernel
theorem dX4_meanSacks_12 : decode cX4_meanSacks 12 = .ok (.dconst 0, 1) := by decide +kernel
theorem dX4_meanSacks_13 : decode cX4_meanSacks 13 = .ok (.dreturn, 1) := by decide +kernel
theorem dX4_meanSacks_14 : decode cX4_meanSacks 14 = .ok (.aload_n 0, 1) := by decide +kernel
theorem dX4_meanSacks_15 : decode cX4_meanSacks 15 = .ok (.getfield 10, 3) := by decide +kernel
theorem dX4_meanSacks_18 : decode cX4_meanSacks 18 = .ok (.invokevirtual 221, 3) := by decide +kernel
theorem dX4_meanSacks_21 : decode cX4_meanSacks 21 = .ok (.i2d, 1) := by decide +kernel
theorem dX4_meanSacks_22 : decode cX4_meanSacks 22 = .ok (.iload_n 1, 1) := by decide +kernel
theorem dX4_meanSacks_23 : decode cX4_meanSacks 23 = .ok (.i2d, 1) := by decide +kernel
theorem dX4_meanSacks_24 : decode cX4_meanSacks 24 = .ok (.ddiv, 1) := by decide +kernel
theorem dX4_meanSacks_25 : decode cX4_meanSacks 25 = .ok (.dreturn, 1) := by decide +kernel
theorem dX4_soundShare_0 : decode cX4_soundShare 0 = .ok (.bipush 32, 2) := by decide +kernel
theorem dX4_soundShare_2 : decode cX4_soundShare 2 = .ok (.aload_n 0, 1) := by decide +kernel
theorem dX4_soundShare_3 : decode cX4_soundShare 3 = .ok (.getfield 10, 3) := by decide +kernel
theorem dX4_soundShare_6 : decode cX4_soundShare 6 = .ok (.invokevirtual 227, 3) := by decide +kernel
theorem dX4_soundShare_9 : decode cX4_soundShare 9 = .ok (.isub, 1) := by decide +kernel
theorem dX4_soundShare_10 : decode cX4_soundShare 10 = .ok (.i2f, 1) := by decide +kernel
theorem dX4_soundShare_11 : decode cX4_soundShare 11 = .ok (.ldc 235, 2) := by decide +kernel
theorem dX4_soundShare_13 : decode cX4_soundShare 13 = .ok (.fdiv, 1) := by decide +kernel
theorem dX4_soundShare_14 : decode cX4_soundShare 14 = .ok (.freturn, 1) := by decide +kernel
theorem dX4_undo_0 : decode cX4_undo 0 = .ok (.aload_n 0, 1) := by decide +kernel
theorem dX4_undo_1 : decode cX4_undo 1 = .ok (.getfield 29, 3) := by decide +kernel
theorem dX4_undo_4 : decode cX4_undo 4 = .ok (.invokevirtual 231, 3) := by decide +kernel
theorem dX4_undo_7 : decode cX4_undo 7 = .ok (.ifCond .ne 6, 3) := by decide +kernel
theorem dX4_undo_10 : decode cX4_undo 10 = .ok (.bipush (-15), 2) := by decide +kernel
theorem dX4_undo_12 : decode cX4_undo 12 = .ok (.ireturn, 1) := by decide +kernel
theorem dX4_undo_13 : decode cX4_undo 13 = .ok (.aload_n 0, 1) := by decide +kernel
theorem dX4_undo_14 : decode cX4_undo 14 = .ok (.getfield 29, 3) := by decide +kernel
theorem dX4_undo_17 : decode cX4_undo 17 = .ok (.aload_n 0, 1) := by decide +kernel
theorem dX4_undo_18 : decode cX4_undo 18 = .ok (.getfield 10, 3) := by decide +kernel
theorem dX4_undo_21 : decode cX4_undo 21 = .ok (.invokevirtual 236, 3) := by decide +kernel
theorem dX4_undo_24 : decode cX4_undo 24 = .ok (.aload_n 0, 1) := by decide +kernel
theorem dX4_undo_25 : decode cX4_undo 25 = .ok (.getfield 29, 3) := by decide +kernel
theorem dX4_undo_28 : decode cX4_undo 28 = .ok (.invokevirtual 231, 3) := by decide +kernel
theorem dX4_undo_31 : decode cX4_undo 31 = .ok (.ireturn, 1) := by decide +kernel
theorem dX4_save_0 : decode cX4_save 0 = .ok (.aload_n 0, 1) := by decide +kernel
theorem dX4_save_1 : decode cX4_save 1 = .ok (.getfield 19, 3) := by decide +kernel
theorem dX4_save_4 : decode cX4_save 4 = .ok (.aload_n 0, 1) := by decide +kernel
theorem dX4_save_5 : decode cX4_save 5 = .ok (.getfield 10, 3) := by decide +kernel
theorem dX4_save_8 : decode cX4_save 8 = .ok (.invokevirtual 58, 3) := by decide +kernel
theorem dX4_save_11 : decode cX4_save 11 = .ok (.aload_n 0, 1) := by decide +kernel
theorem dX4_save_12 : decode cX4_save 12 = .ok (.iconst 1, 1) := by decide +kernel
theorem dX4_save_13 : decode cX4_save 13 = .ok (.putfield 22, 3) := by decide +kernel
theorem dX4_save_16 : decode cX4_save 16 = .ok (.aload_n 0, 1) := by decide +kernel
theorem dX4_save_17 : decode cX4_save 17 = .ok (.getfield 10, 3) := by decide +kernel
theorem dX4_save_20 : decode cX4_save 20 = .ok (.invokevirtual 221, 3) := by decide +kernel
theorem dX4_save_23 : decode cX4_save 23 = .ok (.ireturn, 1) := by decide +kernel
theorem dX4_restore_0 : decode cX4_restore 0 = .ok (.aload_n 0, 1) := by decide +kernel
theorem dX4_restore_1 : decode cX4_restore 1 = .ok (.getfield 22, 3) := by decide +kernel
theorem dX4_restore_4 : decode cX4_restore 4 = .ok (.ifCond .ne 6, 3) := by decide +kernel
theorem dX4_restore_7 : decode cX4_restore 7 = .ok (.bipush (-15), 2) := by decide +kernel
theorem dX4_restore_9 : decode cX4_restore 9 = .ok (.ireturn, 1) := by decide +kernel
theorem dX4_restore_10 : decode cX4_restore 10 = .ok (.aload_n 0, 1) := by decide +kernel
theorem dX4_restore_11 : decode cX4_restore 11 = .ok (.getfield 10, 3) := by decide +kernel
theorem dX4_restore_14 : decode cX4_restore 14 = .ok (.aload_n 0, 1) := by decide +kernel
theorem dX4_restore_15 : decode cX4_restore 15 = .ok (.getfield 19, 3) := by decide +kernel
theorem dX4_restore_18 : decode cX4_restore 18 = .ok (.invokevirtual 58, 3) := by decide +kernel
theorem dX4_restore_21 : decode cX4_restore 21 = .ok (.aload_n 0, 1) := by decide +kernel
theorem dX4_restore_22 : decode cX4_restore 22 = .ok (.getfield 29, 3) := by decide +kernel
theorem dX4_restore_25 : decode cX4_restore 25 = .ok (.invokevirtual 239, 3) := by decide +kernel
theorem dX4_restore_28 : decode cX4_restore 28 = .ok (.aload_n 0, 1) := by decide +kernel
theorem dX4_restore_29 : decode cX4_restore 29 = .ok (.getfield 10, 3) := by decide +kernel
theorem dX4_restore_32 : decode cX4_restore 32 = .ok (.invokevirtual 221, 3) := by decide +kernel
theorem dX4_restore_35 : decode cX4_restore 35 = .ok (.ireturn, 1) := by decide +kernel
theorem dX4_storeSacks_0 : decode cX4_storeSacks 0 = .ok (.iload_n 1, 1) := by decide +kernel
theorem dX4_storeSacks_1 : decode cX4_storeSacks 1 = .ok (.invokestatic 86, 3) := by decide +kernel
theorem dX4_storeSacks_4 : decode cX4_storeSacks 4 = .ok (.ifCond .ne 6, 3) := by decide +kernel
theorem dX4_storeSacks_7 : decode cX4_storeSacks 7 = .ok (.bipush (-11), 2) := by decide +kernel
theorem dX4_storeSacks_9 : decode cX4_storeSacks 9 = .ok (.ireturn, 1) := by decide +kernel
theorem dX4_storeSacks_10 : decode cX4_storeSacks 10 = .ok (.iload_n 2, 1) := by decide +kernel
theorem dX4_storeSacks_11 : decode cX4_storeSacks 11 = .ok (.invokestatic 162, 3) := by decide +kernel
theorem dX4_storeSacks_14 : decode cX4_storeSacks 14 = .ok (.ifCond .eq 14, 3) := by decide +kernel
theorem dX4_storeSacks_17 : decode cX4_storeSacks 17 = .ok (.iload_n 3, 1) := by decide +kernel
theorem dX4_storeSacks_18 : decode cX4_storeSacks 18 = .ok (.iconst 1, 1) := by decide +kernel
theorem dX4_storeSacks_19 : decode cX4_storeSacks 19 = .ok (.sipush 200, 3) := by decide +kernel
theorem dX4_storeSacks_22 : decode cX4_storeSacks 22 = .ok (.invokestatic 138, 3) := by decide +kernel
theorem dX4_storeSacks_25 : decode cX4_storeSacks 25 = .ok (.ifCond .ne 6, 3) := by decide +kernel
theorem dX4_storeSacks_28 : decode cX4_storeSacks 28 = .ok (.bipush (-12), 2) := by decide +kernel
theorem dX4_storeSacks_30 : decode cX4_storeSacks 30 = .ok (.ireturn, 1) := by decide +kernel
theorem dX4_storeSacks_31 : decode cX4_storeSacks 31 = .ok (.aload_n 0, 1) := by decide +kernel
theorem dX4_storeSacks_32 : decode cX4_storeSacks 32 = .ok (.iload_n 1, 1) := by decide +kernel
theorem dX4_storeSacks_33 : decode cX4_storeSacks 33 = .ok (.iload_n 2, 1) := by decide +kernel
theorem dX4_storeSacks_34 : decode cX4_storeSacks 34 = .ok (.iload_n 3, 1) := by decide +kernel
theorem dX4_storeSacks_35 : decode cX4_storeSacks 35 = .ok (.invokevirtual 165, 3) := by decide +kernel
theorem dX4_storeSacks_38 : decode cX4_storeSacks 38 = .ok (.ifCond .ne 11, 3) := by decide +kernel
theorem dX4_storeSacks_41 : decode cX4_storeSacks 41 = .ok (.aload_n 0, 1) := by decide +kernel
theorem dX4_storeSacks_42 : decode cX4_storeSacks 42 = .ok (.iload_n 1, 1) := by decide +kernel
theorem dX4_storeSacks_43 : decode cX4_storeSacks 43 = .ok (.iload_n 2, 1) := by decide +kernel
theorem dX4_storeSacks_44 : decode cX4_storeSacks 44 = .ok (.iload_n 3, 1) := by decide +kernel
theorem dX4_storeSacks_45 : decode cX4_storeSacks 45 = .ok (.invokevirtual 242, 3) := by decide +kernel
theorem dX4_storeSacks_48 : decode cX4_storeSacks 48 = .ok (.ireturn, 1) := by decide +kernel
theorem dX4_storeSacks_49 : decode cX4_storeSacks 49 = .ok (.aload_n 0, 1) := by decide +kernel
theorem dX4_storeSacks_50 : decode cX4_storeSacks 50 = .ok (.getfield 10, 3) := by decide +kernel
theorem dX4_storeSacks_53 : decode cX4_storeSacks 53 = .ok (.bipush 8, 2) := by decide +kernel
theorem dX4_storeSacks_55 : decode cX4_storeSacks 55 = .ok (.iload_n 3, 1) := by decide +kernel
theorem dX4_storeSacks_56 : decode cX4_storeSacks 56 = .ok (.invokevirtual 245, 3) := by decide +kernel
theorem dX4_storeSacks_59 : decode cX4_storeSacks 59 = .ok (.aload_n 0, 1) := by decide +kernel
theorem dX4_storeSacks_60 : decode cX4_storeSacks 60 = .ok (.getfield 10, 3) := by decide +kernel
theorem dX4_storeSacks_63 : decode cX4_storeSacks 63 = .ok (.iload_n 1, 1) := by decide +kernel
theorem dX4_storeSacks_64 : decode cX4_storeSacks 64 = .ok (.iload_n 2, 1) := by decide +kernel
theorem dX4_storeSacks_65 : decode cX4_storeSacks 65 = .ok (.iload_n 3, 1) := by decide +kernel
theorem dX4_storeSacks_66 : decode cX4_storeSacks 66 = .ok (.aload_n 0, 1) := by decide +kernel
theorem dX4_storeSacks_67 : decode cX4_storeSacks 67 = .ok (.getfield 10, 3) := by decide +kernel
theorem dX4_storeSacks_70 : decode cX4_storeSacks 70 = .ok (.iload_n 1, 1) := by decide +kernel
theorem dX4_storeSacks_71 : decode cX4_storeSacks 71 = .ok (.invokevirtual 99, 3) := by decide +kernel
theorem dX4_storeSacks_74 : decode cX4_storeSacks 74 = .ok (.invokevirtual 249, 3) := by decide +kernel
theorem dX4_storeSacks_77 : decode cX4_storeSacks 77 = .ok (.ireturn, 1) := by decide +kernel
theorem dX4_takeSacks_0 : decode cX4_takeSacks 0 = .ok (.iload_n 1, 1) := by decide +kernel
theorem dX4_takeSacks_1 : decode cX4_takeSacks 1 = .ok (.invokestatic 86, 3) := by decide +kernel
theorem dX4_takeSacks_4 : decode cX4_takeSacks 4 = .ok (.ifCond .ne 6, 3) := by decide +kernel
theorem dX4_takeSacks_7 : decode cX4_takeSacks 7 = .ok (.bipush (-11), 2) := by decide +kernel
theorem dX4_takeSacks_9 : decode cX4_takeSacks 9 = .ok (.ireturn, 1) := by decide +kernel
theorem dX4_takeSacks_10 : decode cX4_takeSacks 10 = .ok (.iload_n 2, 1) := by decide +kernel
theorem dX4_takeSacks_11 : decode cX4_takeSacks 11 = .ok (.iconst 1, 1) := by decide +kernel
theorem dX4_takeSacks_12 : decode cX4_takeSacks 12 = .ok (.sipush 200, 3) := by decide +kernel
theorem dX4_takeSacks_15 : decode cX4_takeSacks 15 = .ok (.invokestatic 138, 3) := by decide +kernel
theorem dX4_takeSacks_18 : decode cX4_takeSacks 18 = .ok (.ifCond .ne 6, 3) := by decide +kernel
theorem dX4_takeSacks_21 : decode cX4_takeSacks 21 = .ok (.bipush (-12), 2) := by decide +kernel
theorem dX4_takeSacks_23 : decode cX4_takeSacks 23 = .ok (.ireturn, 1) := by decide +kernel
theorem dX4_takeSacks_24 : decode cX4_takeSacks 24 = .ok (.aload_n 0, 1) := by decide +kernel
theorem dX4_takeSacks_25 : decode cX4_takeSacks 25 = .ok (.iload_n 1, 1) := by decide +kernel
theorem dX4_takeSacks_26 : decode cX4_takeSacks 26 = .ok (.iload_n 2, 1) := by decide +kernel
theorem dX4_takeSacks_27 : decode cX4_takeSacks 27 = .ok (.invokevirtual 253, 3) := by decide +kernel
theorem dX4_takeSacks_30 : decode cX4_takeSacks 30 = .ok (.ifCond .ne 9, 3) := by decide +kernel
theorem dX4_takeSacks_33 : decode cX4_takeSacks 33 = .ok (.aload_n 0, 1) := by decide +kernel
theorem dX4_takeSacks_34 : decode cX4_takeSacks 34 = .ok (.iload_n 1, 1) := by decide +kernel
theorem dX4_takeSacks_35 : decode cX4_takeSacks 35 = .ok (.invokevirtual 256, 3) := by decide +kernel
theorem dX4_takeSacks_38 : decode cX4_takeSacks 38 = .ok (.ireturn, 1) := by decide +kernel
theorem dX4_takeSacks_39 : decode cX4_takeSacks 39 = .ok (.aload_n 0, 1) := by decide +kernel
theorem dX4_takeSacks_40 : decode cX4_takeSacks 40 = .ok (.getfield 10, 3) := by decide +kernel
theorem dX4_takeSacks_43 : decode cX4_takeSacks 43 = .ok (.iload_n 1, 1) := by decide +kernel
theorem dX4_takeSacks_44 : decode cX4_takeSacks 44 = .ok (.iload_n 2, 1) := by decide +kernel
theorem dX4_takeSacks_45 : decode cX4_takeSacks 45 = .ok (.invokevirtual 259, 3) := by decide +kernel
theorem dX4_takeSacks_48 : decode cX4_takeSacks 48 = .ok (.aload_n 0, 1) := by decide +kernel
theorem dX4_takeSacks_49 : decode cX4_takeSacks 49 = .ok (.getfield 10, 3) := by decide +kernel
theorem dX4_takeSacks_52 : decode cX4_takeSacks 52 = .ok (.bipush 9, 2) := by decide +kernel
theorem dX4_takeSacks_54 : decode cX4_takeSacks 54 = .ok (.iload_n 2, 1) := by decide +kernel
theorem dX4_takeSacks_55 : decode cX4_takeSacks 55 = .ok (.invokevirtual 245, 3) := by decide +kernel
theorem dX4_takeSacks_58 : decode cX4_takeSacks 58 = .ok (.aload_n 0, 1) := by decide +kernel
theorem dX4_takeSacks_59 : decode cX4_takeSacks 59 = .ok (.getfield 10, 3) := by decide +kernel
theorem dX4_takeSacks_62 : decode cX4_takeSacks 62 = .ok (.iload_n 1, 1) := by decide +kernel
theorem dX4_takeSacks_63 : decode cX4_takeSacks 63 = .ok (.invokevirtual 96, 3) := by decide +kernel
theorem dX4_takeSacks_66 : decode cX4_takeSacks 66 = .ok (.ireturn, 1) := by decide +kernel
theorem dX4_moveSacks_0 : decode cX4_moveSacks 0 = .ok (.iload_n 1, 1) := by decide +kernel
theorem dX4_moveSacks_1 : decode cX4_moveSacks 1 = .ok (.invokestatic 86, 3) := by decide +kernel
theorem dX4_moveSacks_4 : decode cX4_moveSacks 4 = .ok (.ifCond .eq 10, 3) := by decide +kernel
theorem dX4_moveSacks_7 : decode cX4_moveSacks 7 = .ok (.iload_n 2, 1) := by decide +kernel
theorem dX4_moveSacks_8 : decode cX4_moveSacks 8 = .ok (.invokestatic 86, 3) := by decide +kernel
theorem dX4_moveSacks_11 : decode cX4_moveSacks 11 = .ok (.ifCond .ne 6, 3) := by decide +kernel
theorem dX4_moveSacks_14 : decode cX4_moveSacks 14 = .ok (.bipush (-11), 2) := by decide +kernel
theorem dX4_moveSacks_16 : decode cX4_moveSacks 16 = .ok (.ireturn, 1) := by decide +kernel
theorem dX4_moveSacks_17 : decode cX4_moveSacks 17 = .ok (.iload_n 3, 1) := by decide +kernel
theorem dX4_moveSacks_18 : decode cX4_moveSacks 18 = .ok (.iconst 1, 1) := by decide +kernel
theorem dX4_moveSacks_19 : decode cX4_moveSacks 19 = .ok (.sipush 200, 3) := by decide +kernel
theorem dX4_moveSacks_22 : decode cX4_moveSacks 22 = .ok (.invokestatic 138, 3) := by decide +kernel
theorem dX4_moveSacks_25 : decode cX4_moveSacks 25 = .ok (.ifCond .ne 6, 3) := by decide +kernel
theorem dX4_moveSacks_28 : decode cX4_moveSacks 28 = .ok (.bipush (-12), 2) := by decide +kernel
theorem dX4_moveSacks_30 : decode cX4_moveSacks 30 = .ok (.ireturn, 1) := by decide +kernel
theorem dX4_moveSacks_31 : decode cX4_moveSacks 31 = .ok (.iload_n 1, 1) := by decide +kernel
theorem dX4_moveSacks_32 : decode cX4_moveSacks 32 = .ok (.iload_n 2, 1) := by decide +kernel
theorem dX4_moveSacks_33 : decode cX4_moveSacks 33 = .ok (.if_icmp .ne 10, 3) := by decide +kernel
theorem dX4_moveSacks_36 : decode cX4_moveSacks 36 = .ok (.aload_n 0, 1) := by decide +kernel
theorem dX4_moveSacks_37 : decode cX4_moveSacks 37 = .ok (.iconst 4, 1) := by decide +kernel
theorem dX4_moveSacks_38 : decode cX4_moveSacks 38 = .ok (.iload_n 1, 1) := by decide +kernel
theorem dX4_moveSacks_39 : decode cX4_moveSacks 39 = .ok (.invokevirtual 195, 3) := by decide +kernel
theorem dX4_moveSacks_42 : decode cX4_moveSacks 42 = .ok (.ireturn, 1) := by decide +kernel
theorem dX4_moveSacks_43 : decode cX4_moveSacks 43 = .ok (.aload_n 0, 1) := by decide +kernel
theorem dX4_moveSacks_44 : decode cX4_moveSacks 44 = .ok (.iload_n 1, 1) := by decide +kernel
theorem dX4_moveSacks_45 : decode cX4_moveSacks 45 = .ok (.iload_n 3, 1) := by decide +kernel
theorem dX4_moveSacks_46 : decode cX4_moveSacks 46 = .ok (.invokevirtual 253, 3) := by decide +kernel
theorem dX4_moveSacks_49 : decode cX4_moveSacks 49 = .ok (.ifCond .ne 9, 3) := by decide +kernel
theorem dX4_moveSacks_52 : decode cX4_moveSacks 52 = .ok (.aload_n 0, 1) := by decide +kernel
theorem dX4_moveSacks_53 : decode cX4_moveSacks 53 = .ok (.iload_n 1, 1) := by decide +kernel
theorem dX4_moveSacks_54 : decode cX4_moveSacks 54 = .ok (.invokevirtual 256, 3) := by decide +kernel
theorem dX4_moveSacks_57 : decode cX4_moveSacks 57 = .ok (.ireturn, 1) := by decide +kernel
theorem dX4_moveSacks_58 : decode cX4_moveSacks 58 = .ok (.aload_n 0, 1) := by decide +kernel
theorem dX4_moveSacks_59 : decode cX4_moveSacks 59 = .ok (.getfield 10, 3) := by decide +kernel
theorem dX4_moveSacks_62 : decode cX4_moveSacks 62 = .ok (.iload_n 1, 1) := by decide +kernel
theorem dX4_moveSacks_63 : decode cX4_moveSacks 63 = .ok (.invokevirtual 93, 3) := by decide +kernel
theorem dX4_moveSacks_66 : decode cX4_moveSacks 66 = .ok (.istore 4, 2) := by decide +kernel
theorem dX4_moveSacks_68 : decode cX4_moveSacks 68 = .ok (.aload_n 0, 1) := by decide +kernel
theorem dX4_moveSacks_69 : decode cX4_moveSacks 69 = .ok (.iload_n 2, 1) := by decide +kernel
theorem dX4_moveSacks_70 : decode cX4_moveSacks 70 = .ok (.iload 4, 2) := by decide +kernel
end
section
theorem dX4_moveSacks_72 : decode cX4_moveSacks 72 = .ok (.iload_n 3, 1) := by decide +kernel
theorem dX4_moveSacks_73 : decode cX4_moveSacks 73 = .ok (.invokevirtual 165, 3) := by decide +kernel
theorem dX4_moveSacks_76 : decode cX4_moveSacks 76 = .ok (.ifCond .ne 12, 3) := by decide +kernel
theorem dX4_moveSacks_79 : decode cX4_moveSacks 79 = .ok (.aload_n 0, 1) := by decide +kernel
theorem dX4_moveSacks_80 : decode cX4_moveSacks 80 = .ok (.iload_n 2, 1) := by decide +kernel
theorem dX4_moveSacks_81 : decode cX4_moveSacks 81 = .ok (.iload 4, 2) := by decide +kernel
theorem dX4_moveSacks_83 : decode cX4_moveSacks 83 = .ok (.iload_n 3, 1) := by decide +kernel
theorem dX4_moveSacks_84 : decode cX4_moveSacks 84 = .ok (.invokevirtual 242, 3) := by decide +kernel
theorem dX4_moveSacks_87 : decode cX4_moveSacks 87 = .ok (.ireturn, 1) := by decide +kernel
theorem dX4_moveSacks_88 : decode cX4_moveSacks 88 = .ok (.aload_n 0, 1) := by decide +kernel
theorem dX4_moveSacks_89 : decode cX4_moveSacks 89 = .ok (.getfield 10, 3) := by decide +kernel
theorem dX4_moveSacks_92 : decode cX4_moveSacks 92 = .ok (.iload_n 1, 1) := by decide +kernel
theorem dX4_moveSacks_93 : decode cX4_moveSacks 93 = .ok (.invokevirtual 99, 3) := by decide +kernel
theorem dX4_moveSacks_96 : decode cX4_moveSacks 96 = .ok (.aload_n 0, 1) := by decide +kernel
theorem dX4_moveSacks_97 : decode cX4_moveSacks 97 = .ok (.getfield 10, 3) := by decide +kernel
theorem dX4_moveSacks_100 : decode cX4_moveSacks 100 = .ok (.iload_n 2, 1) := by decide +kernel
theorem dX4_moveSacks_101 : decode cX4_moveSacks 101 = .ok (.invokevirtual 99, 3) := by decide +kernel
theorem dX4_moveSacks_104 : decode cX4_moveSacks 104 = .ok (.invokestatic 262, 3) := by decide +kernel
theorem dX4_moveSacks_107 : decode cX4_moveSacks 107 = .ok (.istore 5, 2) := by decide +kernel
theorem dX4_moveSacks_109 : decode cX4_moveSacks 109 = .ok (.aload_n 0, 1) := by decide +kernel
theorem dX4_moveSacks_110 : decode cX4_moveSacks 110 = .ok (.getfield 10, 3) := by decide +kernel
theorem dX4_moveSacks_113 : decode cX4_moveSacks 113 = .ok (.iload_n 1, 1) := by decide +kernel
theorem dX4_moveSacks_114 : decode cX4_moveSacks 114 = .ok (.iload_n 3, 1) := by decide +kernel
theorem dX4_moveSacks_115 : decode cX4_moveSacks 115 = .ok (.invokevirtual 259, 3) := by decide +kernel
theorem dX4_moveSacks_118 : decode cX4_moveSacks 118 = .ok (.aload_n 0, 1) := by decide +kernel
theorem dX4_moveSacks_119 : decode cX4_moveSacks 119 = .ok (.getfield 10, 3) := by decide +kernel
theorem dX4_moveSacks_122 : decode cX4_moveSacks 122 = .ok (.bipush 12, 2) := by decide +kernel
theorem dX4_moveSacks_124 : decode cX4_moveSacks 124 = .ok (.iload_n 3, 1) := by decide +kernel
theorem dX4_moveSacks_125 : decode cX4_moveSacks 125 = .ok (.invokevirtual 245, 3) := by decide +kernel
theorem dX4_moveSacks_128 : decode cX4_moveSacks 128 = .ok (.aload_n 0, 1) := by decide +kernel
theorem dX4_moveSacks_129 : decode cX4_moveSacks 129 = .ok (.getfield 10, 3) := by decide +kernel
theorem dX4_moveSacks_132 : decode cX4_moveSacks 132 = .ok (.iload_n 2, 1) := by decide +kernel
theorem dX4_moveSacks_133 : decode cX4_moveSacks 133 = .ok (.iload 4, 2) := by decide +kernel
theorem dX4_moveSacks_135 : decode cX4_moveSacks 135 = .ok (.iload_n 3, 1) := by decide +kernel
theorem dX4_moveSacks_136 : decode cX4_moveSacks 136 = .ok (.iload 5, 2) := by decide +kernel
theorem dX4_moveSacks_138 : decode cX4_moveSacks 138 = .ok (.invokevirtual 249, 3) := by decide +kernel
theorem dX4_moveSacks_141 : decode cX4_moveSacks 141 = .ok (.ireturn, 1) := by decide +kernel
theorem dX4_fillOrder_0 : decode cX4_fillOrder 0 = .ok (.iload_n 1, 1) := by decide +kernel
theorem dX4_fillOrder_1 : decode cX4_fillOrder 1 = .ok (.invokestatic 162, 3) := by decide +kernel
theorem dX4_fillOrder_4 : decode cX4_fillOrder 4 = .ok (.ifCond .eq 14, 3) := by decide +kernel
theorem dX4_fillOrder_7 : decode cX4_fillOrder 7 = .ok (.iload_n 2, 1) := by decide +kernel
theorem dX4_fillOrder_8 : decode cX4_fillOrder 8 = .ok (.iconst 1, 1) := by decide +kernel
theorem dX4_fillOrder_9 : decode cX4_fillOrder 9 = .ok (.sipush 999, 3) := by decide +kernel
theorem dX4_fillOrder_12 : decode cX4_fillOrder 12 = .ok (.invokestatic 138, 3) := by decide +kernel
theorem dX4_fillOrder_15 : decode cX4_fillOrder 15 = .ok (.ifCond .ne 6, 3) := by decide +kernel
theorem dX4_fillOrder_18 : decode cX4_fillOrder 18 = .ok (.bipush (-12), 2) := by decide +kernel
theorem dX4_fillOrder_20 : decode cX4_fillOrder 20 = .ok (.ireturn, 1) := by decide +kernel
theorem dX4_fillOrder_21 : decode cX4_fillOrder 21 = .ok (.aload_n 0, 1) := by decide +kernel
theorem dX4_fillOrder_22 : decode cX4_fillOrder 22 = .ok (.getfield 10, 3) := by decide +kernel
theorem dX4_fillOrder_25 : decode cX4_fillOrder 25 = .ok (.iload_n 1, 1) := by decide +kernel
theorem dX4_fillOrder_26 : decode cX4_fillOrder 26 = .ok (.invokevirtual 224, 3) := by decide +kernel
theorem dX4_fillOrder_29 : decode cX4_fillOrder 29 = .ok (.istore_n 3, 1) := by decide +kernel
theorem dX4_fillOrder_30 : decode cX4_fillOrder 30 = .ok (.iload_n 3, 1) := by decide +kernel
theorem dX4_fillOrder_31 : decode cX4_fillOrder 31 = .ok (.iload_n 2, 1) := by decide +kernel
theorem dX4_fillOrder_32 : decode cX4_fillOrder 32 = .ok (.if_icmp .ge 10, 3) := by decide +kernel
theorem dX4_fillOrder_35 : decode cX4_fillOrder 35 = .ok (.aload_n 0, 1) := by decide +kernel
theorem dX4_fillOrder_36 : decode cX4_fillOrder 36 = .ok (.iconst 3, 1) := by decide +kernel
theorem dX4_fillOrder_37 : decode cX4_fillOrder 37 = .ok (.iload_n 3, 1) := by decide +kernel
theorem dX4_fillOrder_38 : decode cX4_fillOrder 38 = .ok (.invokevirtual 195, 3) := by decide +kernel
theorem dX4_fillOrder_41 : decode cX4_fillOrder 41 = .ok (.ireturn, 1) := by decide +kernel
theorem dX4_fillOrder_42 : decode cX4_fillOrder 42 = .ok (.iload_n 2, 1) := by decide +kernel
theorem dX4_fillOrder_43 : decode cX4_fillOrder 43 = .ok (.istore 4, 2) := by decide +kernel
theorem dX4_fillOrder_45 : decode cX4_fillOrder 45 = .ok (.iconst 0, 1) := by decide +kernel
theorem dX4_fillOrder_46 : decode cX4_fillOrder 46 = .ok (.istore 5, 2) := by decide +kernel
theorem dX4_fillOrder_48 : decode cX4_fillOrder 48 = .ok (.iload 5, 2) := by decide +kernel
theorem dX4_fillOrder_50 : decode cX4_fillOrder 50 = .ok (.bipush 32, 2) := by decide +kernel
theorem dX4_fillOrder_52 : decode cX4_fillOrder 52 = .ok (.if_icmp .ge 58, 3) := by decide +kernel
theorem dX4_fillOrder_55 : decode cX4_fillOrder 55 = .ok (.iload 4, 2) := by decide +kernel
theorem dX4_fillOrder_57 : decode cX4_fillOrder 57 = .ok (.ifCond .le 53, 3) := by decide +kernel
theorem dX4_fillOrder_60 : decode cX4_fillOrder 60 = .ok (.aload_n 0, 1) := by decide +kernel
theorem dX4_fillOrder_61 : decode cX4_fillOrder 61 = .ok (.getfield 10, 3) := by decide +kernel
theorem dX4_fillOrder_64 : decode cX4_fillOrder 64 = .ok (.iload_n 1, 1) := by decide +kernel
theorem dX4_fillOrder_65 : decode cX4_fillOrder 65 = .ok (.invokevirtual 267, 3) := by decide +kernel
theorem dX4_fillOrder_68 : decode cX4_fillOrder 68 = .ok (.istore 6, 2) := by decide +kernel
theorem dX4_fillOrder_70 : decode cX4_fillOrder 70 = .ok (.iload 4, 2) := by decide +kernel
theorem dX4_fillOrder_72 : decode cX4_fillOrder 72 = .ok (.aload_n 0, 1) := by decide +kernel
theorem dX4_fillOrder_73 : decode cX4_fillOrder 73 = .ok (.getfield 10, 3) := by decide +kernel
theorem dX4_fillOrder_76 : decode cX4_fillOrder 76 = .ok (.iload 6, 2) := by decide +kernel
theorem dX4_fillOrder_78 : decode cX4_fillOrder 78 = .ok (.invokevirtual 96, 3) := by decide +kernel
theorem dX4_fillOrder_81 : decode cX4_fillOrder 81 = .ok (.invokestatic 270, 3) := by decide +kernel
theorem dX4_fillOrder_84 : decode cX4_fillOrder 84 = .ok (.istore 7, 2) := by decide +kernel
theorem dX4_fillOrder_86 : decode cX4_fillOrder 86 = .ok (.aload_n 0, 1) := by decide +kernel
theorem dX4_fillOrder_87 : decode cX4_fillOrder 87 = .ok (.getfield 10, 3) := by decide +kernel
theorem dX4_fillOrder_90 : decode cX4_fillOrder 90 = .ok (.iload 6, 2) := by decide +kernel
theorem dX4_fillOrder_92 : decode cX4_fillOrder 92 = .ok (.iload 7, 2) := by decide +kernel
theorem dX4_fillOrder_94 : decode cX4_fillOrder 94 = .ok (.invokevirtual 259, 3) := by decide +kernel
theorem dX4_fillOrder_97 : decode cX4_fillOrder 97 = .ok (.iload 4, 2) := by decide +kernel
theorem dX4_fillOrder_99 : decode cX4_fillOrder 99 = .ok (.iload 7, 2) := by decide +kernel
theorem dX4_fillOrder_101 : decode cX4_fillOrder 101 = .ok (.isub, 1) := by decide +kernel
theorem dX4_fillOrder_102 : decode cX4_fillOrder 102 = .ok (.istore 4, 2) := by decide +kernel
theorem dX4_fillOrder_104 : decode cX4_fillOrder 104 = .ok (.iinc 5 1, 3) := by decide +kernel
theorem dX4_fillOrder_107 : decode cX4_fillOrder 107 = .ok (.goto (-59), 3) := by decide +kernel
theorem dX4_fillOrder_110 : decode cX4_fillOrder 110 = .ok (.aload_n 0, 1) := by decide +kernel
theorem dX4_fillOrder_111 : decode cX4_fillOrder 111 = .ok (.getfield 10, 3) := by decide +kernel
theorem dX4_fillOrder_114 : decode cX4_fillOrder 114 = .ok (.bipush 10, 2) := by decide +kernel
theorem dX4_fillOrder_116 : decode cX4_fillOrder 116 = .ok (.iload_n 2, 1) := by decide +kernel
theorem dX4_fillOrder_117 : decode cX4_fillOrder 117 = .ok (.invokevirtual 245, 3) := by decide +kernel
theorem dX4_fillOrder_120 : decode cX4_fillOrder 120 = .ok (.aload_n 0, 1) := by decide +kernel
theorem dX4_fillOrder_121 : decode cX4_fillOrder 121 = .ok (.getfield 10, 3) := by decide +kernel
theorem dX4_fillOrder_124 : decode cX4_fillOrder 124 = .ok (.iconst 1, 1) := by decide +kernel
theorem dX4_fillOrder_125 : decode cX4_fillOrder 125 = .ok (.iload_n 1, 1) := by decide +kernel
theorem dX4_fillOrder_126 : decode cX4_fillOrder 126 = .ok (.iload_n 2, 1) := by decide +kernel
theorem dX4_fillOrder_127 : decode cX4_fillOrder 127 = .ok (.invokestatic 172, 3) := by decide +kernel
theorem dX4_fillOrder_130 : decode cX4_fillOrder 130 = .ok (.invokevirtual 245, 3) := by decide +kernel
theorem dX4_fillOrder_133 : decode cX4_fillOrder 133 = .ok (.iload_n 1, 1) := by decide +kernel
theorem dX4_fillOrder_134 : decode cX4_fillOrder 134 = .ok (.iload_n 2, 1) := by decide +kernel
theorem dX4_fillOrder_135 : decode cX4_fillOrder 135 = .ok (.invokestatic 172, 3) := by decide +kernel
theorem dX4_fillOrder_138 : decode cX4_fillOrder 138 = .ok (.ireturn, 1) := by decide +kernel
theorem dX4_mend_0 : decode cX4_mend 0 = .ok (.iload_n 1, 1) := by decide +kernel
theorem dX4_mend_1 : decode cX4_mend 1 = .ok (.invokestatic 111, 3) := by decide +kernel
theorem dX4_mend_4 : decode cX4_mend 4 = .ok (.ifCond .ne 6, 3) := by decide +kernel
theorem dX4_mend_7 : decode cX4_mend 7 = .ok (.bipush (-11), 2) := by decide +kernel
theorem dX4_mend_9 : decode cX4_mend 9 = .ok (.ireturn, 1) := by decide +kernel
theorem dX4_mend_10 : decode cX4_mend 10 = .ok (.aload_n 0, 1) := by decide +kernel
theorem dX4_mend_11 : decode cX4_mend 11 = .ok (.getfield 10, 3) := by decide +kernel
theorem dX4_mend_14 : decode cX4_mend 14 = .ok (.iload_n 1, 1) := by decide +kernel
theorem dX4_mend_15 : decode cX4_mend 15 = .ok (.invokevirtual 123, 3) := by decide +kernel
theorem dX4_mend_18 : decode cX4_mend 18 = .ok (.ifCond .ne 11, 3) := by decide +kernel
theorem dX4_mend_21 : decode cX4_mend 21 = .ok (.aload_n 0, 1) := by decide +kernel
theorem dX4_mend_22 : decode cX4_mend 22 = .ok (.bipush 6, 2) := by decide +kernel
theorem dX4_mend_24 : decode cX4_mend 24 = .ok (.iload_n 1, 1) := by decide +kernel
theorem dX4_mend_25 : decode cX4_mend 25 = .ok (.invokevirtual 195, 3) := by decide +kernel
theorem dX4_mend_28 : decode cX4_mend 28 = .ok (.ireturn, 1) := by decide +kernel
theorem dX4_mend_29 : decode cX4_mend 29 = .ok (.aload_n 0, 1) := by decide +kernel
theorem dX4_mend_30 : decode cX4_mend 30 = .ok (.getfield 10, 3) := by decide +kernel
theorem dX4_mend_33 : decode cX4_mend 33 = .ok (.iload_n 1, 1) := by decide +kernel
theorem dX4_mend_34 : decode cX4_mend 34 = .ok (.invokevirtual 117, 3) := by decide +kernel
theorem dX4_mend_37 : decode cX4_mend 37 = .ok (.iload_n 1, 1) := by decide +kernel
theorem dX4_mend_38 : decode cX4_mend 38 = .ok (.invokestatic 120, 3) := by decide +kernel
theorem dX4_mend_41 : decode cX4_mend 41 = .ok (.if_icmp .le 23, 3) := by decide +kernel
theorem dX4_mend_44 : decode cX4_mend 44 = .ok (.aload_n 0, 1) := by decide +kernel
theorem dX4_mend_45 : decode cX4_mend 45 = .ok (.bipush 7, 2) := by decide +kernel
theorem dX4_mend_47 : decode cX4_mend 47 = .ok (.aload_n 0, 1) := by decide +kernel
theorem dX4_mend_48 : decode cX4_mend 48 = .ok (.getfield 10, 3) := by decide +kernel
theorem dX4_mend_51 : decode cX4_mend 51 = .ok (.iload_n 1, 1) := by decide +kernel
theorem dX4_mend_52 : decode cX4_mend 52 = .ok (.invokevirtual 117, 3) := by decide +kernel
theorem dX4_mend_55 : decode cX4_mend 55 = .ok (.iload_n 1, 1) := by decide +kernel
theorem dX4_mend_56 : decode cX4_mend 56 = .ok (.invokestatic 120, 3) := by decide +kernel
theorem dX4_mend_59 : decode cX4_mend 59 = .ok (.isub, 1) := by decide +kernel
theorem dX4_mend_60 : decode cX4_mend 60 = .ok (.invokevirtual 195, 3) := by decide +kernel
theorem dX4_mend_63 : decode cX4_mend 63 = .ok (.ireturn, 1) := by decide +kernel
theorem dX4_mend_64 : decode cX4_mend 64 = .ok (.iload_n 1, 1) := by decide +kernel
theorem dX4_mend_65 : decode cX4_mend 65 = .ok (.invokestatic 114, 3) := by decide +kernel
theorem dX4_mend_68 : decode cX4_mend 68 = .ok (.iconst 1, 1) := by decide +kernel
theorem dX4_mend_69 : decode cX4_mend 69 = .ok (.iadd, 1) := by decide +kernel
theorem dX4_mend_70 : decode cX4_mend 70 = .ok (.istore_n 2, 1) := by decide +kernel
theorem dX4_mend_71 : decode cX4_mend 71 = .ok (.aload_n 0, 1) := by decide +kernel
theorem dX4_mend_72 : decode cX4_mend 72 = .ok (.getfield 10, 3) := by decide +kernel
theorem dX4_mend_75 : decode cX4_mend 75 = .ok (.iconst 1, 1) := by decide +kernel
theorem dX4_mend_76 : decode cX4_mend 76 = .ok (.invokevirtual 232, 3) := by decide +kernel
theorem dX4_mend_79 : decode cX4_mend 79 = .ok (.iload_n 2, 1) := by decide +kernel
theorem dX4_mend_80 : decode cX4_mend 80 = .ok (.if_icmp .ge 19, 3) := by decide +kernel
theorem dX4_mend_83 : decode cX4_mend 83 = .ok (.aload_n 0, 1) := by decide +kernel
theorem dX4_mend_84 : decode cX4_mend 84 = .ok (.iconst 5, 1) := by decide +kernel
theorem dX4_mend_85 : decode cX4_mend 85 = .ok (.iload_n 2, 1) := by decide +kernel
theorem dX4_mend_86 : decode cX4_mend 86 = .ok (.aload_n 0, 1) := by decide +kernel
theorem dX4_mend_87 : decode cX4_mend 87 = .ok (.getfield 10, 3) := by decide +kernel
theorem dX4_mend_90 : decode cX4_mend 90 = .ok (.iconst 1, 1) := by decide +kernel
theorem dX4_mend_91 : decode cX4_mend 91 = .ok (.invokevirtual 232, 3) := by decide +kernel
theorem dX4_mend_94 : decode cX4_mend 94 = .ok (.isub, 1) := by decide +kernel
theorem dX4_mend_95 : decode cX4_mend 95 = .ok (.invokevirtual 195, 3) := by decide +kernel
theorem dX4_mend_98 : decode cX4_mend 98 = .ok (.ireturn, 1) := by decide +kernel
theorem dX4_mend_99 : decode cX4_mend 99 = .ok (.aload_n 0, 1) := by decide +kernel
theorem dX4_mend_100 : decode cX4_mend 100 = .ok (.getfield 10, 3) := by decide +kernel
theorem dX4_mend_103 : decode cX4_mend 103 = .ok (.iload_n 1, 1) := by decide +kernel
theorem dX4_mend_104 : decode cX4_mend 104 = .ok (.invokevirtual 273, 3) := by decide +kernel
theorem dX4_mend_107 : decode cX4_mend 107 = .ok (.aload_n 0, 1) := by decide +kernel
theorem dX4_mend_108 : decode cX4_mend 108 = .ok (.getfield 10, 3) := by decide +kernel
theorem dX4_mend_111 : decode cX4_mend 111 = .ok (.iconst 1, 1) := by decide +kernel
theorem dX4_mend_112 : decode cX4_mend 112 = .ok (.iload_n 2, 1) := by decide +kernel
theorem dX4_mend_113 : decode cX4_mend 113 = .ok (.ineg, 1) := by decide +kernel
theorem dX4_mend_114 : decode cX4_mend 114 = .ok (.invokevirtual 245, 3) := by decide +kernel
theorem dX4_mend_117 : decode cX4_mend 117 = .ok (.aload_n 0, 1) := by decide +kernel
theorem dX4_mend_118 : decode cX4_mend 118 = .ok (.getfield 10, 3) := by decide +kernel
theorem dX4_mend_121 : decode cX4_mend 121 = .ok (.bipush 15, 2) := by decide +kernel
theorem dX4_mend_123 : decode cX4_mend 123 = .ok (.iload_n 2, 1) := by decide +kernel
theorem dX4_mend_124 : decode cX4_mend 124 = .ok (.invokevirtual 245, 3) := by decide +kernel
theorem dX4_mend_127 : decode cX4_mend 127 = .ok (.aload_n 0, 1) := by decide +kernel
theorem dX4_mend_128 : decode cX4_mend 128 = .ok (.getfield 10, 3) := by decide +kernel
theorem dX4_mend_131 : decode cX4_mend 131 = .ok (.iconst 1, 1) := by decide +kernel
theorem dX4_mend_132 : decode cX4_mend 132 = .ok (.invokevirtual 232, 3) := by decide +kernel
theorem dX4_mend_135 : decode cX4_mend 135 = .ok (.ireturn, 1) := by decide +kernel
theorem dX4_letWeeksPass_0 : decode cX4_letWeeksPass 0 = .ok (.iload_n 1, 1) := by decide +kernel
theorem dX4_letWeeksPass_1 : decode cX4_letWeeksPass 1 = .ok (.iconst 1, 1) := by decide +kernel
theorem dX4_letWeeksPass_2 : decode cX4_letWeeksPass 2 = .ok (.bipush 52, 2) := by decide +kernel
theorem dX4_letWeeksPass_4 : decode cX4_letWeeksPass 4 = .ok (.invokestatic 138, 3) := by decide +kernel
theorem dX4_letWeeksPass_7 : decode cX4_letWeeksPass 7 = .ok (.ifCond .ne 6, 3) := by decide +kernel
theorem dX4_letWeeksPass_10 : decode cX4_letWeeksPass 10 = .ok (.bipush (-12), 2) := by decide +kernel
theorem dX4_letWeeksPass_12 : decode cX4_letWeeksPass 12 = .ok (.ireturn, 1) := by decide +kernel
theorem dX4_letWeeksPass_13 : decode cX4_letWeeksPass 13 = .ok (.iconst 0, 1) := by decide +kernel
theorem dX4_letWeeksPass_14 : decode cX4_letWeeksPass 14 = .ok (.istore_n 2, 1) := by decide +kernel
theorem dX4_letWeeksPass_15 : decode cX4_letWeeksPass 15 = .ok (.iconst 0, 1) := by decide +kernel
theorem dX4_letWeeksPass_16 : decode cX4_letWeeksPass 16 = .ok (.istore_n 3, 1) := by decide +kernel
theorem dX4_letWeeksPass_17 : decode cX4_letWeeksPass 17 = .ok (.iload_n 3, 1) := by decide +kernel
theorem dX4_letWeeksPass_18 : decode cX4_letWeeksPass 18 = .ok (.iload_n 1, 1) := by decide +kernel
theorem dX4_letWeeksPass_19 : decode cX4_letWeeksPass 19 = .ok (.if_icmp .ge 19, 3) := by decide +kernel
theorem dX4_letWeeksPass_22 : decode cX4_letWeeksPass 22 = .ok (.iload_n 2, 1) := by decide +kernel
theorem dX4_letWeeksPass_23 : decode cX4_letWeeksPass 23 = .ok (.aload_n 0, 1) := by decide +kernel
theorem dX4_letWeeksPass_24 : decode cX4_letWeeksPass 24 = .ok (.getfield 10, 3) := by decide +kernel
theorem dX4_letWeeksPass_27 : decode cX4_letWeeksPass 27 = .ok (.invokevirtual 276, 3) := by decide +kernel
theorem dX4_letWeeksPass_30 : decode cX4_letWeeksPass 30 = .ok (.iadd, 1) := by decide +kernel
theorem dX4_letWeeksPass_31 : decode cX4_letWeeksPass 31 = .ok (.istore_n 2, 1) := by decide +kernel
theorem dX4_letWeeksPass_32 : decode cX4_letWeeksPass 32 = .ok (.iinc 3 1, 3) := by decide +kernel
theorem dX4_letWeeksPass_35 : decode cX4_letWeeksPass 35 = .ok (.goto (-18), 3) := by decide +kernel
theorem dX4_letWeeksPass_38 : decode cX4_letWeeksPass 38 = .ok (.aload_n 0, 1) := by decide +kernel
theorem dX4_letWeeksPass_39 : decode cX4_letWeeksPass 39 = .ok (.getfield 10, 3) := by decide +kernel
theorem dX4_letWeeksPass_42 : decode cX4_letWeeksPass 42 = .ok (.iconst 0, 1) := by decide +kernel
theorem dX4_letWeeksPass_43 : decode cX4_letWeeksPass 43 = .ok (.iload_n 1, 1) := by decide +kernel
theorem dX4_letWeeksPass_44 : decode cX4_letWeeksPass 44 = .ok (.invokevirtual 245, 3) := by decide +kernel
theorem dX4_letWeeksPass_47 : decode cX4_letWeeksPass 47 = .ok (.aload_n 0, 1) := by decide +kernel
theorem dX4_letWeeksPass_48 : decode cX4_letWeeksPass 48 = .ok (.getfield 10, 3) := by decide +kernel
theorem dX4_letWeeksPass_51 : decode cX4_letWeeksPass 51 = .ok (.bipush 11, 2) := by decide +kernel
theorem dX4_letWeeksPass_53 : decode cX4_letWeeksPass 53 = .ok (.iload_n 2, 1) := by decide +kernel
theorem dX4_letWeeksPass_54 : decode cX4_letWeeksPass 54 = .ok (.invokevirtual 245, 3) := by decide +kernel
theorem dX4_letWeeksPass_57 : decode cX4_letWeeksPass 57 = .ok (.iload_n 2, 1) := by decide +kernel
theorem dX4_letWeeksPass_58 : decode cX4_letWeeksPass 58 = .ok (.ireturn, 1) := by decide +kernel
theorem dX4_carryOut_0 : decode cX4_carryOut 0 = .ok (.aload_n 0, 1) := by decide +kernel
theorem dX4_carryOut_1 : decode cX4_carryOut 1 = .ok (.getfield 36, 3) := by decide +kernel
theorem dX4_carryOut_4 : decode cX4_carryOut 4 = .ok (.iload_n 1, 1) := by decide +kernel
theorem dX4_carryOut_5 : decode cX4_carryOut 5 = .ok (.iconst 1, 1) := by decide +kernel
theorem dX4_carryOut_6 : decode cX4_carryOut 6 = .ok (.invokevirtual 279, 3) := by decide +kernel
theorem dX4_carryOut_9 : decode cX4_carryOut 9 = .ok (.istore_n 2, 1) := by decide +kernel
theorem dX4_carryOut_10 : decode cX4_carryOut 10 = .ok (.aload_n 0, 1) := by decide +kernel
theorem dX4_carryOut_11 : decode cX4_carryOut 11 = .ok (.getfield 36, 3) := by decide +kernel
theorem dX4_carryOut_14 : decode cX4_carryOut 14 = .ok (.iload_n 1, 1) := by decide +kernel
theorem dX4_carryOut_15 : decode cX4_carryOut 15 = .ok (.iconst 2, 1) := by decide +kernel
theorem dX4_carryOut_16 : decode cX4_carryOut 16 = .ok (.invokevirtual 279, 3) := by decide +kernel
theorem dX4_carryOut_19 : decode cX4_carryOut 19 = .ok (.istore_n 3, 1) := by decide +kernel
theorem dX4_carryOut_20 : decode cX4_carryOut 20 = .ok (.aload_n 0, 1) := by decide +kernel
theorem dX4_carryOut_21 : decode cX4_carryOut 21 = .ok (.getfield 36, 3) := by decide +kernel
theorem dX4_carryOut_24 : decode cX4_carryOut 24 = .ok (.iload_n 1, 1) := by decide +kernel
theorem dX4_carryOut_25 : decode cX4_carryOut 25 = .ok (.iconst 3, 1) := by decide +kernel
theorem dX4_carryOut_26 : decode cX4_carryOut 26 = .ok (.invokevirtual 279, 3) := by decide +kernel
theorem dX4_carryOut_29 : decode cX4_carryOut 29 = .ok (.istore 4, 2) := by decide +kernel
theorem dX4_carryOut_31 : decode cX4_carryOut 31 = .ok (.aload_n 0, 1) := by decide +kernel
theorem dX4_carryOut_32 : decode cX4_carryOut 32 = .ok (.getfield 36, 3) := by decide +kernel
theorem dX4_carryOut_35 : decode cX4_carryOut 35 = .ok (.iload_n 1, 1) := by decide +kernel
theorem dX4_carryOut_36 : decode cX4_carryOut 36 = .ok (.invokevirtual 282, 3) := by decide +kernel
theorem dX4_carryOut_39 : decode cX4_carryOut 39 = .ok (.tableswitch 81 0 5 #[37, 46, 53, 62, 69, 75], 37) := by decide +kernel
theorem dX4_carryOut_76 : decode cX4_carryOut 76 = .ok (.aload_n 0, 1) := by decide +kernel
theorem dX4_carryOut_77 : decode cX4_carryOut 77 = .ok (.iload_n 2, 1) := by decide +kernel
theorem dX4_carryOut_78 : decode cX4_carryOut 78 = .ok (.iload_n 3, 1) := by decide +kernel
theorem dX4_carryOut_79 : decode cX4_carryOut 79 = .ok (.iload 4, 2) := by decide +kernel
theorem dX4_carryOut_81 : decode cX4_carryOut 81 = .ok (.invokevirtual 62, 3) := by decide +kernel
theorem dX4_carryOut_84 : decode cX4_carryOut 84 = .ok (.ireturn, 1) := by decide +kernel
theorem dX4_carryOut_85 : decode cX4_carryOut 85 = .ok (.aload_n 0, 1) := by decide +kernel
theorem dX4_carryOut_86 : decode cX4_carryOut 86 = .ok (.iload_n 2, 1) := by decide +kernel
theorem dX4_carryOut_87 : decode cX4_carryOut 87 = .ok (.iload_n 3, 1) := by decide +kernel
theorem dX4_carryOut_88 : decode cX4_carryOut 88 = .ok (.invokevirtual 70, 3) := by decide +kernel
theorem dX4_carryOut_91 : decode cX4_carryOut 91 = .ok (.ireturn, 1) := by decide +kernel
theorem dX4_carryOut_92 : decode cX4_carryOut 92 = .ok (.aload_n 0, 1) := by decide +kernel
theorem dX4_carryOut_93 : decode cX4_carryOut 93 = .ok (.iload_n 2, 1) := by decide +kernel
theorem dX4_carryOut_94 : decode cX4_carryOut 94 = .ok (.iload_n 3, 1) := by decide +kernel
theorem dX4_carryOut_95 : decode cX4_carryOut 95 = .ok (.iload 4, 2) := by decide +kernel
theorem dX4_carryOut_97 : decode cX4_carryOut 97 = .ok (.invokevirtual 74, 3) := by decide +kernel
theorem dX4_carryOut_100 : decode cX4_carryOut 100 = .ok (.ireturn, 1) := by decide +kernel
theorem dX4_carryOut_101 : decode cX4_carryOut 101 = .ok (.aload_n 0, 1) := by decide +kernel
theorem dX4_carryOut_102 : decode cX4_carryOut 102 = .ok (.iload_n 2, 1) := by decide +kernel
theorem dX4_carryOut_103 : decode cX4_carryOut 103 = .ok (.iload_n 3, 1) := by decide +kernel
theorem dX4_carryOut_104 : decode cX4_carryOut 104 = .ok (.invokevirtual 77, 3) := by decide +kernel
theorem dX4_carryOut_107 : decode cX4_carryOut 107 = .ok (.ireturn, 1) := by decide +kernel
theorem dX4_carryOut_108 : decode cX4_carryOut 108 = .ok (.aload_n 0, 1) := by decide +kernel
theorem dX4_carryOut_109 : decode cX4_carryOut 109 = .ok (.iload_n 2, 1) := by decide +kernel
theorem dX4_carryOut_110 : decode cX4_carryOut 110 = .ok (.invokevirtual 80, 3) := by decide +kernel
theorem dX4_carryOut_113 : decode cX4_carryOut 113 = .ok (.ireturn, 1) := by decide +kernel
theorem dX4_carryOut_114 : decode cX4_carryOut 114 = .ok (.aload_n 0, 1) := by decide +kernel
theorem dX4_carryOut_115 : decode cX4_carryOut 115 = .ok (.iload_n 2, 1) := by decide +kernel
theorem dX4_carryOut_116 : decode cX4_carryOut 116 = .ok (.invokevirtual 83, 3) := by decide +kernel
theorem dX4_carryOut_119 : decode cX4_carryOut 119 = .ok (.ireturn, 1) := by decide +kernel
theorem dX4_carryOut_120 : decode cX4_carryOut 120 = .ok (.bipush (-12), 2) := by decide +kernel
theorem dX4_carryOut_122 : decode cX4_carryOut 122 = .ok (.ireturn, 1) := by decide +kernel
theorem dX4_remember_0 : decode cX4_remember 0 = .ok (.iload_n 1, 1) := by decide +kernel
theorem dX4_remember_1 : decode cX4_remember 1 = .ok (.ifCond .lt 14, 3) := by decide +kernel
theorem dX4_remember_4 : decode cX4_remember 4 = .ok (.aload_n 0, 1) := by decide +kernel
theorem dX4_remember_5 : decode cX4_remember 5 = .ok (.getfield 29, 3) := by decide +kernel
theorem dX4_remember_8 : decode cX4_remember 8 = .ok (.aload_n 0, 1) := by decide +kernel
theorem dX4_remember_9 : decode cX4_remember 9 = .ok (.getfield 16, 3) := by decide +kernel
theorem dX4_remember_12 : decode cX4_remember 12 = .ok (.invokevirtual 285, 3) := by decide +kernel
theorem dX4_remember_15 : decode cX4_remember 15 = .ok (.iload_n 1, 1) := by decide +kernel
theorem dX4_remember_16 : decode cX4_remember 16 = .ok (.ireturn, 1) := by decide +kernel
theorem dX4_refuse_0 : decode cX4_refuse 0 = .ok (.aload_n 0, 1) := by decide +kernel
theorem dX4_refuse_1 : decode cX4_refuse 1 = .ok (.iload_n 1, 1) := by decide +kernel
theorem dX4_refuse_2 : decode cX4_refuse 2 = .ok (.putfield 47, 3) := by decide +kernel
theorem dX4_refuse_5 : decode cX4_refuse 5 = .ok (.aload_n 0, 1) := by decide +kernel
theorem dX4_refuse_6 : decode cX4_refuse 6 = .ok (.iload_n 2, 1) := by decide +kernel
theorem dX4_refuse_7 : decode cX4_refuse 7 = .ok (.putfield 51, 3) := by decide +kernel
theorem dX4_refuse_10 : decode cX4_refuse 10 = .ok (.bipush (-14), 2) := by decide +kernel
theorem dX4_refuse_12 : decode cX4_refuse 12 = .ok (.ireturn, 1) := by decide +kernel
theorem dX4_hasRoom_0 : decode cX4_hasRoom 0 = .ok (.aload_n 0, 1) := by decide +kernel
theorem dX4_hasRoom_1 : decode cX4_hasRoom 1 = .ok (.getfield 10, 3) := by decide +kernel
theorem dX4_hasRoom_4 : decode cX4_hasRoom 4 = .ok (.iload_n 1, 1) := by decide +kernel
theorem dX4_hasRoom_5 : decode cX4_hasRoom 5 = .ok (.invokevirtual 90, 3) := by decide +kernel
theorem dX4_hasRoom_8 : decode cX4_hasRoom 8 = .ok (.ifCond .ne 31, 3) := by decide +kernel
theorem dX4_hasRoom_11 : decode cX4_hasRoom 11 = .ok (.aload_n 0, 1) := by decide +kernel
theorem dX4_hasRoom_12 : decode cX4_hasRoom 12 = .ok (.getfield 10, 3) := by decide +kernel
theorem dX4_hasRoom_15 : decode cX4_hasRoom 15 = .ok (.iload_n 1, 1) := by decide +kernel
theorem dX4_hasRoom_16 : decode cX4_hasRoom 16 = .ok (.invokevirtual 93, 3) := by decide +kernel
theorem dX4_hasRoom_19 : decode cX4_hasRoom 19 = .ok (.iload_n 2, 1) := by decide +kernel
theorem dX4_hasRoom_20 : decode cX4_hasRoom 20 = .ok (.if_icmp .ne 23, 3) := by decide +kernel
theorem dX4_hasRoom_23 : decode cX4_hasRoom 23 = .ok (.aload_n 0, 1) := by decide +kernel
theorem dX4_hasRoom_24 : decode cX4_hasRoom 24 = .ok (.getfield 10, 3) := by decide +kernel
theorem dX4_hasRoom_27 : decode cX4_hasRoom 27 = .ok (.iload_n 1, 1) := by decide +kernel
theorem dX4_hasRoom_28 : decode cX4_hasRoom 28 = .ok (.invokevirtual 96, 3) := by decide +kernel
theorem dX4_hasRoom_31 : decode cX4_hasRoom 31 = .ok (.iload_n 3, 1) := by decide +kernel
theorem dX4_hasRoom_32 : decode cX4_hasRoom 32 = .ok (.iadd, 1) := by decide +kernel
theorem dX4_hasRoom_33 : decode cX4_hasRoom 33 = .ok (.sipush 200, 3) := by decide +kernel
theorem dX4_hasRoom_36 : decode cX4_hasRoom 36 = .ok (.if_icmp .gt 7, 3) := by decide +kernel
theorem dX4_hasRoom_39 : decode cX4_hasRoom 39 = .ok (.iconst 1, 1) := by decide +kernel
theorem dX4_hasRoom_40 : decode cX4_hasRoom 40 = .ok (.goto 4, 3) := by decide +kernel
theorem dX4_hasRoom_43 : decode cX4_hasRoom 43 = .ok (.iconst 0, 1) := by decide +kernel
theorem dX4_hasRoom_44 : decode cX4_hasRoom 44 = .ok (.ireturn, 1) := by decide +kernel
theorem dX4_refuseRoom_0 : decode cX4_refuseRoom 0 = .ok (.aload_n 0, 1) := by decide +kernel
theorem dX4_refuseRoom_1 : decode cX4_refuseRoom 1 = .ok (.getfield 10, 3) := by decide +kernel
theorem dX4_refuseRoom_4 : decode cX4_refuseRoom 4 = .ok (.iload_n 1, 1) := by decide +kernel
theorem dX4_refuseRoom_5 : decode cX4_refuseRoom 5 = .ok (.invokevirtual 93, 3) := by decide +kernel
theorem dX4_refuseRoom_8 : decode cX4_refuseRoom 8 = .ok (.iload_n 2, 1) := by decide +kernel
theorem dX4_refuseRoom_9 : decode cX4_refuseRoom 9 = .ok (.if_icmp .eq 17, 3) := by decide +kernel
theorem dX4_refuseRoom_12 : decode cX4_refuseRoom 12 = .ok (.aload_n 0, 1) := by decide +kernel
theorem dX4_refuseRoom_13 : decode cX4_refuseRoom 13 = .ok (.iconst 1, 1) := by decide +kernel
theorem dX4_refuseRoom_14 : decode cX4_refuseRoom 14 = .ok (.aload_n 0, 1) := by decide +kernel
theorem dX4_refuseRoom_15 : decode cX4_refuseRoom 15 = .ok (.getfield 10, 3) := by decide +kernel
theorem dX4_refuseRoom_18 : decode cX4_refuseRoom 18 = .ok (.iload_n 1, 1) := by decide +kernel
theorem dX4_refuseRoom_19 : decode cX4_refuseRoom 19 = .ok (.invokevirtual 93, 3) := by decide +kernel
theorem dX4_refuseRoom_22 : decode cX4_refuseRoom 22 = .ok (.invokevirtual 195, 3) := by decide +kernel
theorem dX4_refuseRoom_25 : decode cX4_refuseRoom 25 = .ok (.ireturn, 1) := by decide +kernel
theorem dX4_refuseRoom_26 : decode cX4_refuseRoom 26 = .ok (.aload_n 0, 1) := by decide +kernel
theorem dX4_refuseRoom_27 : decode cX4_refuseRoom 27 = .ok (.iconst 2, 1) := by decide +kernel
theorem dX4_refuseRoom_28 : decode cX4_refuseRoom 28 = .ok (.aload_n 0, 1) := by decide +kernel
theorem dX4_refuseRoom_29 : decode cX4_refuseRoom 29 = .ok (.getfield 10, 3) := by decide +kernel
theorem dX4_refuseRoom_32 : decode cX4_refuseRoom 32 = .ok (.iload_n 1, 1) := by decide +kernel
theorem dX4_refuseRoom_33 : decode cX4_refuseRoom 33 = .ok (.invokevirtual 96, 3) := by decide +kernel
theorem dX4_refuseRoom_36 : decode cX4_refuseRoom 36 = .ok (.iload_n 3, 1) := by decide +kernel
theorem dX4_refuseRoom_37 : decode cX4_refuseRoom 37 = .ok (.iadd, 1) := by decide +kernel
theorem dX4_refuseRoom_38 : decode cX4_refuseRoom 38 = .ok (.sipush 200, 3) := by decide +kernel
theorem dX4_refuseRoom_41 : decode cX4_refuseRoom 41 = .ok (.isub, 1) := by decide +kernel
theorem dX4_refuseRoom_42 : decode cX4_refuseRoom 42 = .ok (.invokevirtual 195, 3) := by decide +kernel
theorem dX4_refuseRoom_45 : decode cX4_refuseRoom 45 = .ok (.ireturn, 1) := by decide +kernel
theorem dX4_hasSacks_0 : decode cX4_hasSacks 0 = .ok (.aload_n 0, 1) := by decide +kernel
theorem dX4_hasSacks_1 : decode cX4_hasSacks 1 = .ok (.getfield 10, 3) := by decide +kernel
theorem dX4_hasSacks_4 : decode cX4_hasSacks 4 = .ok (.iload_n 1, 1) := by decide +kernel
theorem dX4_hasSacks_5 : decode cX4_hasSacks 5 = .ok (.invokevirtual 96, 3) := by decide +kernel
theorem dX4_hasSacks_8 : decode cX4_hasSacks 8 = .ok (.iload_n 2, 1) := by decide +kernel
theorem dX4_hasSacks_9 : decode cX4_hasSacks 9 = .ok (.if_icmp .lt 7, 3) := by decide +kernel
theorem dX4_hasSacks_12 : decode cX4_hasSacks 12 = .ok (.iconst 1, 1) := by decide +kernel
theorem dX4_hasSacks_13 : decode cX4_hasSacks 13 = .ok (.goto 4, 3) := by decide +kernel
theorem dX4_hasSacks_16 : decode cX4_hasSacks 16 = .ok (.iconst 0, 1) := by decide +kernel
theorem dX4_hasSacks_17 : decode cX4_hasSacks 17 = .ok (.ireturn, 1) := by decide +kernel
theorem dX4_refuseSacks_0 : decode cX4_refuseSacks 0 = .ok (.aload_n 0, 1) := by decide +kernel
theorem dX4_refuseSacks_1 : decode cX4_refuseSacks 1 = .ok (.getfield 10, 3) := by decide +kernel
theorem dX4_refuseSacks_4 : decode cX4_refuseSacks 4 = .ok (.iload_n 1, 1) := by decide +kernel
theorem dX4_refuseSacks_5 : decode cX4_refuseSacks 5 = .ok (.invokevirtual 90, 3) := by decide +kernel
theorem dX4_refuseSacks_8 : decode cX4_refuseSacks 8 = .ok (.ifCond .eq 11, 3) := by decide +kernel
theorem dX4_refuseSacks_11 : decode cX4_refuseSacks 11 = .ok (.aload_n 0, 1) := by decide +kernel
theorem dX4_refuseSacks_12 : decode cX4_refuseSacks 12 = .ok (.bipush 8, 2) := by decide +kernel
theorem dX4_refuseSacks_14 : decode cX4_refuseSacks 14 = .ok (.iload_n 1, 1) := by decide +kernel
theorem dX4_refuseSacks_15 : decode cX4_refuseSacks 15 = .ok (.invokevirtual 195, 3) := by decide +kernel
theorem dX4_refuseSacks_18 : decode cX4_refuseSacks 18 = .ok (.ireturn, 1) := by decide +kernel
theorem dX4_refuseSacks_19 : decode cX4_refuseSacks 19 = .ok (.aload_n 0, 1) := by decide +kernel
theorem dX4_refuseSacks_20 : decode cX4_refuseSacks 20 = .ok (.iconst 3, 1) := by decide +kernel
theorem dX4_refuseSacks_21 : decode cX4_refuseSacks 21 = .ok (.aload_n 0, 1) := by decide +kernel
theorem dX4_refuseSacks_22 : decode cX4_refuseSacks 22 = .ok (.getfield 10, 3) := by decide +kernel
theorem dX4_refuseSacks_25 : decode cX4_refuseSacks 25 = .ok (.iload_n 1, 1) := by decide +kernel
theorem dX4_refuseSacks_26 : decode cX4_refuseSacks 26 = .ok (.invokevirtual 96, 3) := by decide +kernel
theorem dX4_refuseSacks_29 : decode cX4_refuseSacks 29 = .ok (.invokevirtual 195, 3) := by decide +kernel
theorem dX4_refuseSacks_32 : decode cX4_refuseSacks 32 = .ok (.ireturn, 1) := by decide +kernel
theorem dX4_stepsBelow_0 : decode cX4_stepsBelow 0 = .ok (.aload_n 0, 1) := by decide +kernel
theorem dX4_stepsBelow_1 : decode cX4_stepsBelow 1 = .ok (.iload_n 1, 1) := by decide +kernel
theorem dX4_stepsBelow_2 : decode cX4_stepsBelow 2 = .ok (.invokevirtual 123, 3) := by decide +kernel
theorem dX4_stepsBelow_5 : decode cX4_stepsBelow 5 = .ok (.ifCond .eq 8, 3) := by decide +kernel
theorem dX4_stepsBelow_8 : decode cX4_stepsBelow 8 = .ok (.iload_n 2, 1) := by decide +kernel
theorem dX4_stepsBelow_9 : decode cX4_stepsBelow 9 = .ok (.iconst 5, 1) := by decide +kernel
theorem dX4_stepsBelow_10 : decode cX4_stepsBelow 10 = .ok (.if_icmp .le 5, 3) := by decide +kernel
theorem dX4_stepsBelow_13 : decode cX4_stepsBelow 13 = .ok (.iconst 1, 1) := by decide +kernel
theorem dX4_stepsBelow_14 : decode cX4_stepsBelow 14 = .ok (.ireturn, 1) := by decide +kernel
theorem dX4_stepsBelow_15 : decode cX4_stepsBelow 15 = .ok (.iconst 1, 1) := by decide +kernel
theorem dX4_stepsBelow_16 : decode cX4_stepsBelow 16 = .ok (.istore_n 3, 1) := by decide +kernel
theorem dX4_stepsBelow_17 : decode cX4_stepsBelow 17 = .ok (.iload_n 1, 1) := by decide +kernel
theorem dX4_stepsBelow_18 : decode cX4_stepsBelow 18 = .ok (.iconst 1, 1) := by decide +kernel
theorem dX4_stepsBelow_19 : decode cX4_stepsBelow 19 = .ok (.isub, 1) := by decide +kernel
theorem dX4_stepsBelow_20 : decode cX4_stepsBelow 20 = .ok (.istore 4, 2) := by decide +kernel
theorem dX4_stepsBelow_22 : decode cX4_stepsBelow 22 = .ok (.iconst 0, 1) := by decide +kernel
theorem dX4_stepsBelow_23 : decode cX4_stepsBelow 23 = .ok (.istore 5, 2) := by decide +kernel
theorem dX4_stepsBelow_25 : decode cX4_stepsBelow 25 = .ok (.iload 5, 2) := by decide +kernel
theorem dX4_stepsBelow_27 : decode cX4_stepsBelow 27 = .ok (.bipush 32, 2) := by decide +kernel
theorem dX4_stepsBelow_29 : decode cX4_stepsBelow 29 = .ok (.if_icmp .ge 40, 3) := by decide +kernel
theorem dX4_stepsBelow_32 : decode cX4_stepsBelow 32 = .ok (.iload 4, 2) := by decide +kernel
theorem dX4_stepsBelow_34 : decode cX4_stepsBelow 34 = .ok (.iload_n 1, 1) := by decide +kernel
theorem dX4_stepsBelow_35 : decode cX4_stepsBelow 35 = .ok (.invokestatic 126, 3) := by decide +kernel
theorem dX4_stepsBelow_38 : decode cX4_stepsBelow 38 = .ok (.if_icmp .le 31, 3) := by decide +kernel
theorem dX4_stepsBelow_41 : decode cX4_stepsBelow 41 = .ok (.iload_n 3, 1) := by decide +kernel
theorem dX4_stepsBelow_42 : decode cX4_stepsBelow 42 = .ok (.aload_n 0, 1) := by decide +kernel
theorem dX4_stepsBelow_43 : decode cX4_stepsBelow 43 = .ok (.iload 4, 2) := by decide +kernel
theorem dX4_stepsBelow_45 : decode cX4_stepsBelow 45 = .ok (.iload_n 2, 1) := by decide +kernel
theorem dX4_stepsBelow_46 : decode cX4_stepsBelow 46 = .ok (.iconst 1, 1) := by decide +kernel
theorem dX4_stepsBelow_47 : decode cX4_stepsBelow 47 = .ok (.iadd, 1) := by decide +kernel
theorem dX4_stepsBelow_48 : decode cX4_stepsBelow 48 = .ok (.invokestatic 142, 3) := by decide +kernel
theorem dX4_stepsBelow_51 : decode cX4_stepsBelow 51 = .ok (.iadd, 1) := by decide +kernel
theorem dX4_stepsBelow_52 : decode cX4_stepsBelow 52 = .ok (.istore_n 3, 1) := by decide +kernel
theorem dX4_stepsBelow_53 : decode cX4_stepsBelow 53 = .ok (.iload 4, 2) := by decide +kernel
theorem dX4_stepsBelow_55 : decode cX4_stepsBelow 55 = .ok (.iload 4, 2) := by decide +kernel
theorem dX4_stepsBelow_57 : decode cX4_stepsBelow 57 = .ok (.invokestatic 114, 3) := by decide +kernel
theorem dX4_stepsBelow_60 : decode cX4_stepsBelow 60 = .ok (.isub, 1) := by decide +kernel
theorem dX4_stepsBelow_61 : decode cX4_stepsBelow 61 = .ok (.istore 4, 2) := by decide +kernel
theorem dX4_stepsBelow_63 : decode cX4_stepsBelow 63 = .ok (.iinc 5 1, 3) := by decide +kernel
theorem dX4_stepsBelow_66 : decode cX4_stepsBelow 66 = .ok (.goto (-41), 3) := by decide +kernel
theorem dX4_stepsBelow_69 : decode cX4_stepsBelow 69 = .ok (.iload_n 3, 1) := by decide +kernel
theorem dX4_stepsBelow_70 : decode cX4_stepsBelow 70 = .ok (.ireturn, 1) := by decide +kernel
theorem dX4_stepsByKnown_0 : decode cX4_stepsByKnown 0 = .ok (.aload_n 0, 1) := by decide +kernel
theorem dX4_stepsByKnown_1 : decode cX4_stepsByKnown 1 = .ok (.getfield 10, 3) := by decide +kernel
theorem dX4_stepsByKnown_4 : decode cX4_stepsByKnown 4 = .ok (.iload_n 1, 1) := by decide +kernel
theorem dX4_stepsByKnown_5 : decode cX4_stepsByKnown 5 = .ok (.invokevirtual 123, 3) := by decide +kernel
theorem dX4_stepsByKnown_8 : decode cX4_stepsByKnown 8 = .ok (.ifCond .eq 19, 3) := by decide +kernel
theorem dX4_stepsByKnown_11 : decode cX4_stepsByKnown 11 = .ok (.iconst 1, 1) := by decide +kernel
theorem dX4_stepsByKnown_12 : decode cX4_stepsByKnown 12 = .ok (.aload_n 0, 1) := by decide +kernel
theorem dX4_stepsByKnown_13 : decode cX4_stepsByKnown 13 = .ok (.iload_n 1, 1) := by decide +kernel
theorem dX4_stepsByKnown_14 : decode cX4_stepsByKnown 14 = .ok (.iconst 1, 1) := by decide +kernel
theorem dX4_stepsByKnown_15 : decode cX4_stepsByKnown 15 = .ok (.isub, 1) := by decide +kernel
theorem dX4_stepsByKnown_16 : decode cX4_stepsByKnown 16 = .ok (.iload_n 1, 1) := by decide +kernel
theorem dX4_stepsByKnown_17 : decode cX4_stepsByKnown 17 = .ok (.invokestatic 126, 3) := by decide +kernel
theorem dX4_stepsByKnown_20 : decode cX4_stepsByKnown 20 = .ok (.invokevirtual 153, 3) := by decide +kernel
theorem dX4_stepsByKnown_23 : decode cX4_stepsByKnown 23 = .ok (.iadd, 1) := by decide +kernel
theorem dX4_stepsByKnown_24 : decode cX4_stepsByKnown 24 = .ok (.goto 4, 3) := by decide +kernel
theorem dX4_stepsByKnown_27 : decode cX4_stepsByKnown 27 = .ok (.iconst 1, 1) := by decide +kernel
theorem dX4_stepsByKnown_28 : decode cX4_stepsByKnown 28 = .ok (.ireturn, 1) := by decide +kernel
theorem dX4_knownSteps_0 : decode cX4_knownSteps 0 = .ok (.iconst 0, 1) := by decide +kernel
theorem dX4_knownSteps_1 : decode cX4_knownSteps 1 = .ok (.istore_n 3, 1) := by decide +kernel
theorem dX4_knownSteps_2 : decode cX4_knownSteps 2 = .ok (.iload_n 1, 1) := by decide +kernel
theorem dX4_knownSteps_3 : decode cX4_knownSteps 3 = .ok (.istore 4, 2) := by decide +kernel
theorem dX4_knownSteps_5 : decode cX4_knownSteps 5 = .ok (.iconst 0, 1) := by decide +kernel
theorem dX4_knownSteps_6 : decode cX4_knownSteps 6 = .ok (.istore 5, 2) := by decide +kernel
theorem dX4_knownSteps_8 : decode cX4_knownSteps 8 = .ok (.iload 5, 2) := by decide +kernel
theorem dX4_knownSteps_10 : decode cX4_knownSteps 10 = .ok (.bipush 32, 2) := by decide +kernel
theorem dX4_knownSteps_12 : decode cX4_knownSteps 12 = .ok (.if_icmp .ge 37, 3) := by decide +kernel
theorem dX4_knownSteps_15 : decode cX4_knownSteps 15 = .ok (.iload 4, 2) := by decide +kernel
theorem dX4_knownSteps_17 : decode cX4_knownSteps 17 = .ok (.iload_n 2, 1) := by decide +kernel
theorem dX4_knownSteps_18 : decode cX4_knownSteps 18 = .ok (.if_icmp .le 31, 3) := by decide +kernel
theorem dX4_knownSteps_21 : decode cX4_knownSteps 21 = .ok (.iload_n 3, 1) := by decide +kernel
theorem dX4_knownSteps_22 : decode cX4_knownSteps 22 = .ok (.aload_n 0, 1) := by decide +kernel
theorem dX4_knownSteps_23 : decode cX4_knownSteps 23 = .ok (.getfield 54, 3) := by decide +kernel
theorem dX4_knownSteps_26 : decode cX4_knownSteps 26 = .ok (.iload 4, 2) := by decide +kernel
theorem dX4_knownSteps_28 : decode cX4_knownSteps 28 = .ok (.invokestatic 205, 3) := by decide +kernel
theorem dX4_knownSteps_31 : decode cX4_knownSteps 31 = .ok (.iadd, 1) := by decide +kernel
theorem dX4_knownSteps_32 : decode cX4_knownSteps 32 = .ok (.istore_n 3, 1) := by decide +kernel
theorem dX4_knownSteps_33 : decode cX4_knownSteps 33 = .ok (.iload 4, 2) := by decide +kernel
theorem dX4_knownSteps_35 : decode cX4_knownSteps 35 = .ok (.iload 4, 2) := by decide +kernel
theorem dX4_knownSteps_37 : decode cX4_knownSteps 37 = .ok (.invokestatic 114, 3) := by decide +kernel
theorem dX4_knownSteps_40 : decode cX4_knownSteps 40 = .ok (.isub, 1) := by decide +kernel
theorem dX4_knownSteps_41 : decode cX4_knownSteps 41 = .ok (.istore 4, 2) := by decide +kernel
theorem dX4_knownSteps_43 : decode cX4_knownSteps 43 = .ok (.iinc 5 1, 3) := by decide +kernel
theorem dX4_knownSteps_46 : decode cX4_knownSteps 46 = .ok (.goto (-38), 3) := by decide +kernel
theorem dX4_knownSteps_49 : decode cX4_knownSteps 49 = .ok (.iload_n 3, 1) := by decide +kernel
theorem dX4_knownSteps_50 : decode cX4_knownSteps 50 = .ok (.ireturn, 1) := by decide +kernel
theorem dX4_isWithin_0 : decode cX4_isWithin 0 = .ok (.iload_n 0, 1) := by decide +kernel
theorem dX4_isWithin_1 : decode cX4_isWithin 1 = .ok (.iload_n 1, 1) := by decide +kernel
theorem dX4_isWithin_2 : decode cX4_isWithin 2 = .ok (.if_icmp .lt 12, 3) := by decide +kernel
theorem dX4_isWithin_5 : decode cX4_isWithin 5 = .ok (.iload_n 0, 1) := by decide +kernel
theorem dX4_isWithin_6 : decode cX4_isWithin 6 = .ok (.iload_n 2, 1) := by decide +kernel
theorem dX4_isWithin_7 : decode cX4_isWithin 7 = .ok (.if_icmp .gt 7, 3) := by decide +kernel
theorem dX4_isWithin_10 : decode cX4_isWithin 10 = .ok (.iconst 1, 1) := by decide +kernel
theorem dX4_isWithin_11 : decode cX4_isWithin 11 = .ok (.goto 4, 3) := by decide +kernel
theorem dX4_isWithin_14 : decode cX4_isWithin 14 = .ok (.iconst 0, 1) := by decide +kernel
theorem dX4_isWithin_15 : decode cX4_isWithin 15 = .ok (.ireturn, 1) := by decide +kernel
theorem dX4_isBay_0 : decode cX4_isBay 0 = .ok (.iload_n 0, 1) := by decide +kernel
theorem dX4_isBay_1 : decode cX4_isBay 1 = .ok (.iconst 0, 1) := by decide +kernel
theorem dX4_isBay_2 : decode cX4_isBay 2 = .ok (.bipush 31, 2) := by decide +kernel
theorem dX4_isBay_4 : decode cX4_isBay 4 = .ok (.invokestatic 138, 3) := by decide +kernel
theorem dX4_isBay_7 : decode cX4_isBay 7 = .ok (.ireturn, 1) := by decide +kernel
theorem dX4_isRung_0 : decode cX4_isRung 0 = .ok (.iload_n 0, 1) := by decide +kernel
theorem dX4_isRung_1 : decode cX4_isRung 1 = .ok (.iconst 1, 1) := by decide +kernel
theorem dX4_isRung_2 : decode cX4_isRung 2 = .ok (.bipush 32, 2) := by decide +kernel
theorem dX4_isRung_4 : decode cX4_isRung 4 = .ok (.invokestatic 138, 3) := by decide +kernel
theorem dX4_isRung_7 : decode cX4_isRung 7 = .ok (.ireturn, 1) := by decide +kernel
theorem dX4_isKind_0 : decode cX4_isKind 0 = .ok (.iload_n 0, 1) := by decide +kernel
theorem dX4_isKind_1 : decode cX4_isKind 1 = .ok (.iconst 0, 1) := by decide +kernel
theorem dX4_isKind_2 : decode cX4_isKind 2 = .ok (.iconst 3, 1) := by decide +kernel
theorem dX4_isKind_3 : decode cX4_isKind 3 = .ok (.invokestatic 138, 3) := by decide +kernel
theorem dX4_isKind_6 : decode cX4_isKind 6 = .ok (.ireturn, 1) := by decide +kernel
theorem dX4_sizeOf_0 : decode cX4_sizeOf 0 = .ok (.iload_n 0, 1) := by decide +kernel
theorem dX4_sizeOf_1 : decode cX4_sizeOf 1 = .ok (.iload_n 0, 1) := by decide +kernel
theorem dX4_sizeOf_2 : decode cX4_sizeOf 2 = .ok (.ineg, 1) := by decide +kernel
theorem dX4_sizeOf_3 : decode cX4_sizeOf 3 = .ok (.iand, 1) := by decide +kernel
theorem dX4_sizeOf_4 : decode cX4_sizeOf 4 = .ok (.ireturn, 1) := by decide +kernel
theorem dX4_loadOf_0 : decode cX4_loadOf 0 = .ok (.bipush 100, 2) := by decide +kernel
theorem dX4_loadOf_2 : decode cX4_loadOf 2 = .ok (.iload_n 0, 1) := by decide +kernel
theorem dX4_loadOf_3 : decode cX4_loadOf 3 = .ok (.invokestatic 114, 3) := by decide +kernel
theorem dX4_loadOf_6 : decode cX4_loadOf 6 = .ok (.imul, 1) := by decide +kernel
theorem dX4_loadOf_7 : decode cX4_loadOf 7 = .ok (.ireturn, 1) := by decide +kernel
theorem dX4_firstBayOf_0 : decode cX4_firstBayOf 0 = .ok (.iload_n 0, 1) := by decide +kernel
theorem dX4_firstBayOf_1 : decode cX4_firstBayOf 1 = .ok (.iload_n 0, 1) := by decide +kernel
theorem dX4_firstBayOf_2 : decode cX4_firstBayOf 2 = .ok (.invokestatic 114, 3) := by decide +kernel
theorem dX4_firstBayOf_5 : decode cX4_firstBayOf 5 = .ok (.isub, 1) := by decide +kernel
theorem dX4_firstBayOf_6 : decode cX4_firstBayOf 6 = .ok (.ireturn, 1) := by decide +kernel
theorem dX4_rungsBelow_0 : decode cX4_rungsBelow 0 = .ok (.iconst 0, 1) := by decide +kernel
theorem dX4_rungsBelow_1 : decode cX4_rungsBelow 1 = .ok (.istore_n 1, 1) := by decide +kernel
theorem dX4_rungsBelow_2 : decode cX4_rungsBelow 2 = .ok (.iload_n 0, 1) := by decide +kernel
theorem dX4_rungsBelow_3 : decode cX4_rungsBelow 3 = .ok (.iconst 1, 1) := by decide +kernel
theorem dX4_rungsBelow_4 : decode cX4_rungsBelow 4 = .ok (.isub, 1) := by decide +kernel
theorem dX4_rungsBelow_5 : decode cX4_rungsBelow 5 = .ok (.istore_n 2, 1) := by decide +kernel
theorem dX4_rungsBelow_6 : decode cX4_rungsBelow 6 = .ok (.iconst 0, 1) := by decide +kernel
theorem dX4_rungsBelow_7 : decode cX4_rungsBelow 7 = .ok (.istore_n 3, 1) := by decide +kernel
theorem dX4_rungsBelow_8 : decode cX4_rungsBelow 8 = .ok (.iload_n 3, 1) := by decide +kernel
theorem dX4_rungsBelow_9 : decode cX4_rungsBelow 9 = .ok (.bipush 32, 2) := by decide +kernel
theorem dX4_rungsBelow_11 : decode cX4_rungsBelow 11 = .ok (.if_icmp .ge 27, 3) := by decide +kernel
theorem dX4_rungsBelow_14 : decode cX4_rungsBelow 14 = .ok (.iload_n 2, 1) := by decide +kernel
theorem dX4_rungsBelow_15 : decode cX4_rungsBelow 15 = .ok (.iload_n 0, 1) := by decide +kernel
theorem dX4_rungsBelow_16 : decode cX4_rungsBelow 16 = .ok (.invokestatic 126, 3) := by decide +kernel
theorem dX4_rungsBelow_19 : decode cX4_rungsBelow 19 = .ok (.if_icmp .le 19, 3) := by decide +kernel
theorem dX4_rungsBelow_22 : decode cX4_rungsBelow 22 = .ok (.iinc 1 1, 3) := by decide +kernel
theorem dX4_rungsBelow_25 : decode cX4_rungsBelow 25 = .ok (.iload_n 2, 1) := by decide +kernel
theorem dX4_rungsBelow_26 : decode cX4_rungsBelow 26 = .ok (.iload_n 2, 1) := by decide +kernel
theorem dX4_rungsBelow_27 : decode cX4_rungsBelow 27 = .ok (.invokestatic 114, 3) := by decide +kernel
theorem dX4_rungsBelow_30 : decode cX4_rungsBelow 30 = .ok (.isub, 1) := by decide +kernel
theorem dX4_rungsBelow_31 : decode cX4_rungsBelow 31 = .ok (.istore_n 2, 1) := by decide +kernel
theorem dX4_rungsBelow_32 : decode cX4_rungsBelow 32 = .ok (.iinc 3 1, 3) := by decide +kernel
theorem dX4_rungsBelow_35 : decode cX4_rungsBelow 35 = .ok (.goto (-27), 3) := by decide +kernel
theorem dX4_rungsBelow_38 : decode cX4_rungsBelow 38 = .ok (.iload_n 1, 1) := by decide +kernel
theorem dX4_rungsBelow_39 : decode cX4_rungsBelow 39 = .ok (.ireturn, 1) := by decide +kernel
theorem dX4_coinsFor_0 : decode cX4_coinsFor 0 = .ok (.iload_n 0, 1) := by decide +kernel
theorem dX4_coinsFor_1 : decode cX4_coinsFor 1 = .ok (.tableswitch 44 0 2 #[27, 36, 40], 27) := by decide +kernel
theorem dX4_coinsFor_28 : decode cX4_coinsFor 28 = .ok (.iconst 4, 1) := by decide +kernel
theorem dX4_coinsFor_29 : decode cX4_coinsFor 29 = .ok (.iload_n 1, 1) := by decide +kernel
theorem dX4_coinsFor_30 : decode cX4_coinsFor 30 = .ok (.imul, 1) := by decide +kernel
theorem dX4_coinsFor_31 : decode cX4_coinsFor 31 = .ok (.iload_n 1, 1) := by decide +kernel
theorem dX4_coinsFor_32 : decode cX4_coinsFor 32 = .ok (.bipush 10, 2) := by decide +kernel
theorem dX4_coinsFor_34 : decode cX4_coinsFor 34 = .ok (.idiv, 1) := by decide +kernel
theorem dX4_coinsFor_35 : decode cX4_coinsFor 35 = .ok (.isub, 1) := by decide +kernel
theorem dX4_coinsFor_36 : decode cX4_coinsFor 36 = .ok (.ireturn, 1) := by decide +kernel
theorem dX4_coinsFor_37 : decode cX4_coinsFor 37 = .ok (.iconst 3, 1) := by decide +kernel
theorem dX4_coinsFor_38 : decode cX4_coinsFor 38 = .ok (.iload_n 1, 1) := by decide +kernel
theorem dX4_coinsFor_39 : decode cX4_coinsFor 39 = .ok (.imul, 1) := by decide +kernel
theorem dX4_coinsFor_40 : decode cX4_coinsFor 40 = .ok (.ireturn, 1) := by decide +kernel
theorem dX4_coinsFor_41 : decode cX4_coinsFor 41 = .ok (.iconst 2, 1) := by decide +kernel
theorem dX4_coinsFor_42 : decode cX4_coinsFor 42 = .ok (.iload_n 1, 1) := by decide +kernel
theorem dX4_coinsFor_43 : decode cX4_coinsFor 43 = .ok (.imul, 1) := by decide +kernel
theorem dX4_coinsFor_44 : decode cX4_coinsFor 44 = .ok (.ireturn, 1) := by decide +kernel
theorem dX4_coinsFor_45 : decode cX4_coinsFor 45 = .ok (.iconst 3, 1) := by decide +kernel
theorem dX4_coinsFor_46 : decode cX4_coinsFor 46 = .ok (.iload_n 1, 1) := by decide +kernel
theorem dX4_coinsFor_47 : decode cX4_coinsFor 47 = .ok (.imul, 1) := by decide +kernel
theorem dX4_coinsFor_48 : decode cX4_coinsFor 48 = .ok (.iload_n 1, 1) := by decide +kernel
theorem dX4_coinsFor_49 : decode cX4_coinsFor 49 = .ok (.bipush 20, 2) := by decide +kernel
theorem dX4_coinsFor_51 : decode cX4_coinsFor 51 = .ok (.idiv, 1) := by decide +kernel
theorem dX4_coinsFor_52 : decode cX4_coinsFor 52 = .ok (.isub, 1) := by decide +kernel
theorem dX4_coinsFor_53 : decode cX4_coinsFor 53 = .ok (.ireturn, 1) := by decide +kernel
theorem dX4_at_0 : decode cX4_at 0 = .ok (.iload_n 1, 1) := by decide +kernel
theorem dX4_at_1 : decode cX4_at 1 = .ok (.ifCond .lt 15, 3) := by decide +kernel
theorem dX4_at_4 : decode cX4_at 4 = .ok (.iload_n 1, 1) := by decide +kernel
theorem dX4_at_5 : decode cX4_at 5 = .ok (.aload_n 0, 1) := by decide +kernel
theorem dX4_at_6 : decode cX4_at 6 = .ok (.arraylength, 1) := by decide +kernel
theorem dX4_at_7 : decode cX4_at 7 = .ok (.if_icmp .ge 9, 3) := by decide +kernel
theorem dX4_at_10 : decode cX4_at 10 = .ok (.aload_n 0, 1) := by decide +kernel
theorem dX4_at_11 : decode cX4_at 11 = .ok (.iload_n 1, 1) := by decide +kernel
theorem dX4_at_12 : decode cX4_at 12 = .ok (.iaload, 1) := by decide +kernel
theorem dX4_at_13 : decode cX4_at 13 = .ok (.goto 4, 3) := by decide +kernel
theorem dX4_at_16 : decode cX4_at 16 = .ok (.iconst 0, 1) := by decide +kernel
theorem dX4_at_17 : decode cX4_at 17 = .ok (.ireturn, 1) := by decide +kernel
theorem dX4_put_0 : decode cX4_put 0 = .ok (.iload_n 1, 1) := by decide +kernel
theorem dX4_put_1 : decode cX4_put 1 = .ok (.ifCond .lt 13, 3) := by decide +kernel
theorem dX4_put_4 : decode cX4_put 4 = .ok (.iload_n 1, 1) := by decide +kernel
theorem dX4_put_5 : decode cX4_put 5 = .ok (.aload_n 0, 1) := by decide +kernel
theorem dX4_put_6 : decode cX4_put 6 = .ok (.arraylength, 1) := by decide +kernel
theorem dX4_put_7 : decode cX4_put 7 = .ok (.if_icmp .ge 7, 3) := by decide +kernel
theorem dX4_put_10 : decode cX4_put 10 = .ok (.aload_n 0, 1) := by decide +kernel
theorem dX4_put_11 : decode cX4_put 11 = .ok (.iload_n 1, 1) := by decide +kernel
theorem dX4_put_12 : decode cX4_put 12 = .ok (.iload_n 2, 1) := by decide +kernel
theorem dX4_put_13 : decode cX4_put 13 = .ok (.iastore, 1) := by decide +kernel
theorem dX4_put_14 : decode cX4_put 14 = .ok (.return_, 1) := by decide +kernel
theorem dX4_copyRow_0 : decode cX4_copyRow 0 = .ok (.iconst 0, 1) := by decide +kernel
theorem dX4_copyRow_1 : decode cX4_copyRow 1 = .ok (.istore_n 2, 1) := by decide +kernel
theorem dX4_copyRow_2 : decode cX4_copyRow 2 = .ok (.iload_n 2, 1) := by decide +kernel
theorem dX4_copyRow_3 : decode cX4_copyRow 3 = .ok (.aload_n 0, 1) := by decide +kernel
theorem dX4_copyRow_4 : decode cX4_copyRow 4 = .ok (.arraylength, 1) := by decide +kernel
theorem dX4_copyRow_5 : decode cX4_copyRow 5 = .ok (.if_icmp .ge 21, 3) := by decide +kernel
theorem dX4_copyRow_8 : decode cX4_copyRow 8 = .ok (.iload_n 2, 1) := by decide +kernel
theorem dX4_copyRow_9 : decode cX4_copyRow 9 = .ok (.aload_n 1, 1) := by decide +kernel
theorem dX4_copyRow_10 : decode cX4_copyRow 10 = .ok (.arraylength, 1) := by decide +kernel
theorem dX4_copyRow_11 : decode cX4_copyRow 11 = .ok (.if_icmp .ge 15, 3) := by decide +kernel
theorem dX4_copyRow_14 : decode cX4_copyRow 14 = .ok (.aload_n 1, 1) := by decide +kernel
theorem dX4_copyRow_15 : decode cX4_copyRow 15 = .ok (.iload_n 2, 1) := by decide +kernel
theorem dX4_copyRow_16 : decode cX4_copyRow 16 = .ok (.aload_n 0, 1) := by decide +kernel
theorem dX4_copyRow_17 : decode cX4_copyRow 17 = .ok (.iload_n 2, 1) := by decide +kernel
theorem dX4_copyRow_18 : decode cX4_copyRow 18 = .ok (.iaload, 1) := by decide +kernel
theorem dX4_copyRow_19 : decode cX4_copyRow 19 = .ok (.iastore, 1) := by decide +kernel
theorem dX4_copyRow_20 : decode cX4_copyRow 20 = .ok (.iinc 2 1, 3) := by decide +kernel
theorem dX4_copyRow_23 : decode cX4_copyRow 23 = .ok (.goto (-21), 3) := by decide +kernel
theorem dX4_copyRow_26 : decode cX4_copyRow 26 = .ok (.return_, 1) := by decide +kernel
theorem dJ6_bitCount_0f7a4_0 : decode cJ6_bitCount_0f7a4 0 = .ok (.iload_n 0, 1) := by decide +kernel
theorem dJ6_bitCount_0f7a4_1 : decode cJ6_bitCount_0f7a4 1 = .ok (.iload_n 0, 1) := by decide +kernel
theorem dJ6_bitCount_0f7a4_2 : decode cJ6_bitCount_0f7a4 2 = .ok (.iconst 1, 1) := by decide +kernel
theorem dJ6_bitCount_0f7a4_3 : decode cJ6_bitCount_0f7a4 3 = .ok (.iushr, 1) := by decide +kernel
theorem dJ6_bitCount_0f7a4_4 : decode cJ6_bitCount_0f7a4 4 = .ok (.ldc_w 265, 3) := by decide +kernel
theorem dJ6_bitCount_0f7a4_7 : decode cJ6_bitCount_0f7a4 7 = .ok (.iand, 1) := by decide +kernel
theorem dJ6_bitCount_0f7a4_8 : decode cJ6_bitCount_0f7a4 8 = .ok (.isub, 1) := by decide +kernel
theorem dJ6_bitCount_0f7a4_9 : decode cJ6_bitCount_0f7a4 9 = .ok (.istore_n 0, 1) := by decide +kernel
theorem dJ6_bitCount_0f7a4_10 : decode cJ6_bitCount_0f7a4 10 = .ok (.iload_n 0, 1) := by decide +kernel
theorem dJ6_bitCount_0f7a4_11 : decode cJ6_bitCount_0f7a4 11 = .ok (.ldc_w 266, 3) := by decide +kernel
theorem dJ6_bitCount_0f7a4_14 : decode cJ6_bitCount_0f7a4 14 = .ok (.iand, 1) := by decide +kernel
theorem dJ6_bitCount_0f7a4_15 : decode cJ6_bitCount_0f7a4 15 = .ok (.iload_n 0, 1) := by decide +kernel
theorem dJ6_bitCount_0f7a4_16 : decode cJ6_bitCount_0f7a4 16 = .ok (.iconst 2, 1) := by decide +kernel
theorem dJ6_bitCount_0f7a4_17 : decode cJ6_bitCount_0f7a4 17 = .ok (.iushr, 1) := by decide +kernel
theorem dJ6_bitCount_0f7a4_18 : decode cJ6_bitCount_0f7a4 18 = .ok (.ldc_w 266, 3) := by decide +kernel
theorem dJ6_bitCount_0f7a4_21 : decode cJ6_bitCount_0f7a4 21 = .ok (.iand, 1) := by decide +kernel
theorem dJ6_bitCount_0f7a4_22 : decode cJ6_bitCount_0f7a4 22 = .ok (.iadd, 1) := by decide +kernel
theorem dJ6_bitCount_0f7a4_23 : decode cJ6_bitCount_0f7a4 23 = .ok (.istore_n 0, 1) := by decide +kernel
theorem dJ6_bitCount_0f7a4_24 : decode cJ6_bitCount_0f7a4 24 = .ok (.iload_n 0, 1) := by decide +kernel
theorem dJ6_bitCount_0f7a4_25 : decode cJ6_bitCount_0f7a4 25 = .ok (.iload_n 0, 1) := by decide +kernel
theorem dJ6_bitCount_0f7a4_26 : decode cJ6_bitCount_0f7a4 26 = .ok (.iconst 4, 1) := by decide +kernel
theorem dJ6_bitCount_0f7a4_27 : decode cJ6_bitCount_0f7a4 27 = .ok (.iushr, 1) := by decide +kernel
theorem dJ6_bitCount_0f7a4_28 : decode cJ6_bitCount_0f7a4 28 = .ok (.iadd, 1) := by decide +kernel
theorem dJ6_bitCount_0f7a4_29 : decode cJ6_bitCount_0f7a4 29 = .ok (.ldc_w 267, 3) := by decide +kernel
theorem dJ6_bitCount_0f7a4_32 : decode cJ6_bitCount_0f7a4 32 = .ok (.iand, 1) := by decide +kernel
theorem dJ6_bitCount_0f7a4_33 : decode cJ6_bitCount_0f7a4 33 = .ok (.istore_n 0, 1) := by decide +kernel
theorem dJ6_bitCount_0f7a4_34 : decode cJ6_bitCount_0f7a4 34 = .ok (.iload_n 0, 1) := by decide +kernel
theorem dJ6_bitCount_0f7a4_35 : decode cJ6_bitCount_0f7a4 35 = .ok (.iload_n 0, 1) := by decide +kernel
theorem dJ6_bitCount_0f7a4_36 : decode cJ6_bitCount_0f7a4 36 = .ok (.bipush 8, 2) := by decide +kernel
theorem dJ6_bitCount_0f7a4_38 : decode cJ6_bitCount_0f7a4 38 = .ok (.iushr, 1) := by decide +kernel
theorem dJ6_bitCount_0f7a4_39 : decode cJ6_bitCount_0f7a4 39 = .ok (.iadd, 1) := by decide +kernel
theorem dJ6_bitCount_0f7a4_40 : decode cJ6_bitCount_0f7a4 40 = .ok (.istore_n 0, 1) := by decide +kernel
theorem dJ6_bitCount_0f7a4_41 : decode cJ6_bitCount_0f7a4 41 = .ok (.iload_n 0, 1) := by decide +kernel
theorem dJ6_bitCount_0f7a4_42 : decode cJ6_bitCount_0f7a4 42 = .ok (.iload_n 0, 1) := by decide +kernel
theorem dJ6_bitCount_0f7a4_43 : decode cJ6_bitCount_0f7a4 43 = .ok (.bipush 16, 2) := by decide +kernel
theorem dJ6_bitCount_0f7a4_45 : decode cJ6_bitCount_0f7a4 45 = .ok (.iushr, 1) := by decide +kernel
theorem dJ6_bitCount_0f7a4_46 : decode cJ6_bitCount_0f7a4 46 = .ok (.iadd, 1) := by decide +kernel
theorem dJ6_bitCount_0f7a4_47 : decode cJ6_bitCount_0f7a4 47 = .ok (.istore_n 0, 1) := by decide +kernel
theorem dJ6_bitCount_0f7a4_48 : decode cJ6_bitCount_0f7a4 48 = .ok (.iload_n 0, 1) := by decide +kernel
theorem dJ6_bitCount_0f7a4_49 : decode cJ6_bitCount_0f7a4 49 = .ok (.bipush 63, 2) := by decide +kernel
theorem dJ6_bitCount_0f7a4_51 : decode cJ6_bitCount_0f7a4 51 = .ok (.iand, 1) := by decide +kernel
theorem dJ6_bitCount_0f7a4_52 : decode cJ6_bitCount_0f7a4 52 = .ok (.ireturn, 1) := by decide +kernel
theorem dJ9_max_7cf53_0 : decode cJ9_max_7cf53 0 = .ok (.iload_n 0, 1) := by decide +kernel
theorem dJ9_max_7cf53_1 : decode cJ9_max_7cf53 1 = .ok (.iload_n 1, 1) := by decide +kernel
theorem dJ9_max_7cf53_2 : decode cJ9_max_7cf53 2 = .ok (.if_icmp .lt 7, 3) := by decide +kernel
theorem dJ9_max_7cf53_5 : decode cJ9_max_7cf53 5 = .ok (.iload_n 0, 1) := by decide +kernel
theorem dJ9_max_7cf53_6 : decode cJ9_max_7cf53 6 = .ok (.goto 4, 3) := by decide +kernel
theorem dJ9_max_7cf53_9 : decode cJ9_max_7cf53 9 = .ok (.iload_n 1, 1) := by decide +kernel
theorem dJ9_max_7cf53_10 : decode cJ9_max_7cf53 10 = .ok (.ireturn, 1) := by decide +kernel
theorem dJ9_min_7cf53_0 : decode cJ9_min_7cf53 0 = .ok (.iload_n 0, 1) := by decide +kernel
theorem dJ9_min_7cf53_1 : decode cJ9_min_7cf53 1 = .ok (.iload_n 1, 1) := by decide +kernel
theorem dJ9_min_7cf53_2 : decode cJ9_min_7cf53 2 = .ok (.if_icmp .gt 7, 3) := by decide +kernel
theorem dJ9_min_7cf53_5 : decode cJ9_min_7cf53 5 = .ok (.iload_n 0, 1) := by decide +kernel
theorem dJ9_min_7cf53_6 : decode cJ9_min_7cf53 6 = .ok (.goto 4, 3) := by decide +kernel
theorem dJ9_min_7cf53_9 : decode cJ9_min_7cf53 9 = .ok (.iload_n 1, 1) := by decide +kernel
theorem dJ9_min_7cf53_10 : decode cJ9_min_7cf53 10 = .ok (.ireturn, 1) := by decide +kernel
theorem dJ0_length_8abf5_0 : decode cJ0_length_8abf5 0 = .ok (.aload_n 0, 1) := by decide +kernel
theorem dJ0_length_8abf5_1 : decode cJ0_length_8abf5 1 = .ok (.getfield 9, 3) := by decide +kernel
theorem dJ0_length_8abf5_4 : decode cJ0_length_8abf5 4 = .ok (.arraylength, 1) := by decide +kernel
theorem dJ0_length_8abf5_5 : decode cJ0_length_8abf5 5 = .ok (.aload_n 0, 1) := by decide +kernel
theorem dJ0_length_8abf5_6 : decode cJ0_length_8abf5 6 = .ok (.invokevirtual 335, 3) := by decide +kernel
theorem dJ0_length_8abf5_9 : decode cJ0_length_8abf5 9 = .ok (.ishr, 1) := by decide +kernel
theorem dJ0_length_8abf5_10 : decode cJ0_length_8abf5 10 = .ok (.ireturn, 1) := by decide +kernel
theorem dJ0_isEmpty_aae02_0 : decode cJ0_isEmpty_aae02 0 = .ok (.aload_n 0, 1) := by decide +kernel
theorem dJ0_isEmpty_aae02_1 : decode cJ0_isEmpty_aae02 1 = .ok (.getfield 9, 3) := by decide +kernel
theorem dJ0_isEmpty_aae02_4 : decode cJ0_isEmpty_aae02 4 = .ok (.arraylength, 1) := by decide +kernel
theorem dJ0_isEmpty_aae02_5 : decode cJ0_isEmpty_aae02 5 = .ok (.ifCond .ne 7, 3) := by decide +kernel
theorem dJ0_isEmpty_aae02_8 : decode cJ0_isEmpty_aae02 8 = .ok (.iconst 1, 1) := by decide +kernel
theorem dJ0_isEmpty_aae02_9 : decode cJ0_isEmpty_aae02 9 = .ok (.goto 4, 3) := by decide +kernel
theorem dJ0_isEmpty_aae02_12 : decode cJ0_isEmpty_aae02 12 = .ok (.iconst 0, 1) := by decide +kernel
theorem dJ0_isEmpty_aae02_13 : decode cJ0_isEmpty_aae02 13 = .ok (.ireturn, 1) := by decide +kernel
theorem dJ0_charAt_5068e_0 : decode cJ0_charAt_5068e 0 = .ok (.aload_n 0, 1) := by decide +kernel
theorem dJ0_charAt_5068e_1 : decode cJ0_charAt_5068e 1 = .ok (.invokevirtual 492, 3) := by decide +kernel
theorem dJ0_charAt_5068e_4 : decode cJ0_charAt_5068e 4 = .ok (.ifCond .eq 12, 3) := by decide +kernel
theorem dJ0_charAt_5068e_7 : decode cJ0_charAt_5068e 7 = .ok (.aload_n 0, 1) := by decide +kernel
theorem dJ0_charAt_5068e_8 : decode cJ0_charAt_5068e 8 = .ok (.getfield 9, 3) := by decide +kernel
theorem dJ0_charAt_5068e_11 : decode cJ0_charAt_5068e 11 = .ok (.iload_n 1, 1) := by decide +kernel
theorem dJ0_charAt_5068e_12 : decode cJ0_charAt_5068e 12 = .ok (.invokestatic 495, 3) := by decide +kernel
theorem dJ0_charAt_5068e_15 : decode cJ0_charAt_5068e 15 = .ok (.ireturn, 1) := by decide +kernel
theorem dJ0_charAt_5068e_16 : decode cJ0_charAt_5068e 16 = .ok (.aload_n 0, 1) := by decide +kernel
theorem dJ0_charAt_5068e_17 : decode cJ0_charAt_5068e 17 = .ok (.getfield 9, 3) := by decide +kernel
theorem dJ0_charAt_5068e_20 : decode cJ0_charAt_5068e 20 = .ok (.iload_n 1, 1) := by decide +kernel
theorem dJ0_charAt_5068e_21 : decode cJ0_charAt_5068e 21 = .ok (.invokestatic 498, 3) := by decide +kernel
theorem dJ0_charAt_5068e_24 : decode cJ0_charAt_5068e 24 = .ok (.ireturn, 1) := by decide +kernel
theorem dJ0_coder_7d493_0 : decode cJ0_coder_7d493 0 = .ok (.getstatic 38, 3) := by decide +kernel
theorem dJ0_coder_7d493_3 : decode cJ0_coder_7d493 3 = .ok (.ifCond .eq 10, 3) := by decide +kernel
theorem dJ0_coder_7d493_6 : decode cJ0_coder_7d493 6 = .ok (.aload_n 0, 1) := by decide +kernel
theorem dJ0_coder_7d493_7 : decode cJ0_coder_7d493 7 = .ok (.getfield 15, 3) := by decide +kernel
theorem dJ0_coder_7d493_10 : decode cJ0_coder_7d493 10 = .ok (.goto 4, 3) := by decide +kernel
theorem dJ0_coder_7d493_13 : decode cJ0_coder_7d493 13 = .ok (.iconst 1, 1) := by decide +kernel
theorem dJ0_coder_7d493_14 : decode cJ0_coder_7d493 14 = .ok (.ireturn, 1) := by decide +kernel
theorem dJ0_isLatin1_aae02_0 : decode cJ0_isLatin1_aae02 0 = .ok (.getstatic 38, 3) := by decide +kernel
theorem dJ0_isLatin1_aae02_3 : decode cJ0_isLatin1_aae02 3 = .ok (.ifCond .eq 14, 3) := by decide +kernel
theorem dJ0_isLatin1_aae02_6 : decode cJ0_isLatin1_aae02 6 = .ok (.aload_n 0, 1) := by decide +kernel
theorem dJ0_isLatin1_aae02_7 : decode cJ0_isLatin1_aae02 7 = .ok (.getfield 15, 3) := by decide +kernel
theorem dJ0_isLatin1_aae02_10 : decode cJ0_isLatin1_aae02 10 = .ok (.ifCond .ne 7, 3) := by decide +kernel
theorem dJ0_isLatin1_aae02_13 : decode cJ0_isLatin1_aae02 13 = .ok (.iconst 1, 1) := by decide +kernel
theorem dJ0_isLatin1_aae02_14 : decode cJ0_isLatin1_aae02 14 = .ok (.goto 4, 3) := by decide +kernel
theorem dJ0_isLatin1_aae02_17 : decode cJ0_isLatin1_aae02 17 = .ok (.iconst 0, 1) := by decide +kernel
theorem dJ0_isLatin1_aae02_18 : decode cJ0_isLatin1_aae02 18 = .ok (.ireturn, 1) := by decide +kernel
theorem dJ0_checkIndex_df160_0 : decode cJ0_checkIndex_df160 0 = .ok (.iload_n 0, 1) := by decide +kernel
theorem dJ0_checkIndex_df160_1 : decode cJ0_checkIndex_df160 1 = .ok (.iload_n 1, 1) := by decide +kernel
theorem dJ0_checkIndex_df160_2 : decode cJ0_checkIndex_df160 2 = .ok (.getstatic 1053, 3) := by decide +kernel
theorem dJ0_checkIndex_df160_5 : decode cJ0_checkIndex_df160 5 = .ok (.invokestatic 1059, 3) := by decide +kernel
theorem dJ0_checkIndex_df160_8 : decode cJ0_checkIndex_df160 8 = .ok (.pop, 1) := by decide +kernel
theorem dJ0_checkIndex_df160_9 : decode cJ0_checkIndex_df160 9 = .ok (.return_, 1) := by decide +kernel
theorem dJ1_charAt_3b067_0 : decode cJ1_charAt_3b067 0 = .ok (.iload_n 1, 1) := by decide +kernel
theorem dJ1_charAt_3b067_1 : decode cJ1_charAt_3b067 1 = .ok (.aload_n 0, 1) := by decide +kernel
theorem dJ1_charAt_3b067_2 : decode cJ1_charAt_3b067 2 = .ok (.arraylength, 1) := by decide +kernel
theorem dJ1_charAt_3b067_3 : decode cJ1_charAt_3b067 3 = .ok (.invokestatic 9, 3) := by decide +kernel
theorem dJ1_charAt_3b067_6 : decode cJ1_charAt_3b067 6 = .ok (.aload_n 0, 1) := by decide +kernel
theorem dJ1_charAt_3b067_7 : decode cJ1_charAt_3b067 7 = .ok (.iload_n 1, 1) := by decide +kernel
theorem dJ1_charAt_3b067_8 : decode cJ1_charAt_3b067 8 = .ok (.baload, 1) := by decide +kernel
theorem dJ1_charAt_3b067_9 : decode cJ1_charAt_3b067 9 = .ok (.sipush 255, 3) := by decide +kernel
theorem dJ1_charAt_3b067_12 : decode cJ1_charAt_3b067 12 = .ok (.iand, 1) := by decide +kernel
theorem dJ1_charAt_3b067_13 : decode cJ1_charAt_3b067 13 = .ok (.i2c, 1) := by decide +kernel
theorem dJ1_charAt_3b067_14 : decode cJ1_charAt_3b067 14 = .ok (.ireturn, 1) := by decide +kernel
theorem dJ2_getChar_3b067_0 : decode cJ2_getChar_3b067 0 = .ok (.getstatic 44, 3) := by decide +kernel
theorem dJ2_getChar_3b067_3 : decode cJ2_getChar_3b067 3 = .ok (.ifCond .ne 25, 3) := by decide +kernel
theorem dJ2_getChar_3b067_6 : decode cJ2_getChar_3b067 6 = .ok (.iload_n 1, 1) := by decide +kernel
theorem dJ2_getChar_3b067_7 : decode cJ2_getChar_3b067 7 = .ok (.ifCond .lt 11, 3) := by decide +kernel
theorem dJ2_getChar_3b067_10 : decode cJ2_getChar_3b067 10 = .ok (.iload_n 1, 1) := by decide +kernel
theorem dJ2_getChar_3b067_11 : decode cJ2_getChar_3b067 11 = .ok (.aload_n 0, 1) := by decide +kernel
theorem dJ2_getChar_3b067_12 : decode cJ2_getChar_3b067 12 = .ok (.invokestatic 48, 3) := by decide +kernel
theorem dJ2_getChar_3b067_15 : decode cJ2_getChar_3b067 15 = .ok (.if_icmp .lt 13, 3) := by decide +kernel
theorem dJ2_getChar_3b067_18 : decode cJ2_getChar_3b067 18 = .ok (.new 52, 3) := by decide +kernel
theorem dJ2_getChar_3b067_21 : decode cJ2_getChar_3b067 21 = .ok (.dup, 1) := by decide +kernel
theorem dJ2_getChar_3b067_22 : decode cJ2_getChar_3b067 22 = .ok (.ldc 54, 2) := by decide +kernel
theorem dJ2_getChar_3b067_24 : decode cJ2_getChar_3b067 24 = .ok (.invokespecial 56, 3) := by decide +kernel
theorem dJ2_getChar_3b067_27 : decode cJ2_getChar_3b067 27 = .ok (.athrow, 1) := by decide +kernel
theorem dJ2_getChar_3b067_28 : decode cJ2_getChar_3b067 28 = .ok (.iload_n 1, 1) := by decide +kernel
theorem dJ2_getChar_3b067_29 : decode cJ2_getChar_3b067 29 = .ok (.iconst 1, 1) := by decide +kernel
theorem dJ2_getChar_3b067_30 : decode cJ2_getChar_3b067 30 = .ok (.ishl, 1) := by decide +kernel
theorem dJ2_getChar_3b067_31 : decode cJ2_getChar_3b067 31 = .ok (.istore_n 1, 1) := by decide +kernel
theorem dJ2_getChar_3b067_32 : decode cJ2_getChar_3b067 32 = .ok (.aload_n 0, 1) := by decide +kernel
theorem dJ2_getChar_3b067_33 : decode cJ2_getChar_3b067 33 = .ok (.iload_n 1, 1) := by decide +kernel
theorem dJ2_getChar_3b067_34 : decode cJ2_getChar_3b067 34 = .ok (.iinc 1 1, 3) := by decide +kernel
theorem dJ2_getChar_3b067_37 : decode cJ2_getChar_3b067 37 = .ok (.baload, 1) := by decide +kernel
theorem dJ2_getChar_3b067_38 : decode cJ2_getChar_3b067 38 = .ok (.sipush 255, 3) := by decide +kernel
theorem dJ2_getChar_3b067_41 : decode cJ2_getChar_3b067 41 = .ok (.iand, 1) := by decide +kernel
theorem dJ2_getChar_3b067_42 : decode cJ2_getChar_3b067 42 = .ok (.getstatic 59, 3) := by decide +kernel
theorem dJ2_getChar_3b067_45 : decode cJ2_getChar_3b067 45 = .ok (.ishl, 1) := by decide +kernel
theorem dJ2_getChar_3b067_46 : decode cJ2_getChar_3b067 46 = .ok (.aload_n 0, 1) := by decide +kernel
theorem dJ2_getChar_3b067_47 : decode cJ2_getChar_3b067 47 = .ok (.iload_n 1, 1) := by decide +kernel
theorem dJ2_getChar_3b067_48 : decode cJ2_getChar_3b067 48 = .ok (.baload, 1) := by decide +kernel
theorem dJ2_getChar_3b067_49 : decode cJ2_getChar_3b067 49 = .ok (.sipush 255, 3) := by decide +kernel
theorem dJ2_getChar_3b067_52 : decode cJ2_getChar_3b067 52 = .ok (.iand, 1) := by decide +kernel
theorem dJ2_getChar_3b067_53 : decode cJ2_getChar_3b067 53 = .ok (.getstatic 63, 3) := by decide +kernel
theorem dJ2_getChar_3b067_56 : decode cJ2_getChar_3b067 56 = .ok (.ishl, 1) := by decide +kernel
theorem dJ2_getChar_3b067_57 : decode cJ2_getChar_3b067 57 = .ok (.ior, 1) := by decide +kernel
theorem dJ2_getChar_3b067_58 : decode cJ2_getChar_3b067 58 = .ok (.i2c, 1) := by decide +kernel
theorem dJ2_getChar_3b067_59 : decode cJ2_getChar_3b067 59 = .ok (.ireturn, 1) := by decide +kernel
theorem dJ2_length_9d52b_0 : decode cJ2_length_9d52b 0 = .ok (.aload_n 0, 1) := by decide +kernel
theorem dJ2_length_9d52b_1 : decode cJ2_length_9d52b 1 = .ok (.arraylength, 1) := by decide +kernel
theorem dJ2_length_9d52b_2 : decode cJ2_length_9d52b 2 = .ok (.iconst 1, 1) := by decide +kernel
theorem dJ2_length_9d52b_3 : decode cJ2_length_9d52b 3 = .ok (.ishr, 1) := by decide +kernel
theorem dJ2_length_9d52b_4 : decode cJ2_length_9d52b 4 = .ok (.ireturn, 1) := by decide +kernel
theorem dJ2_charAt_3b067_0 : decode cJ2_charAt_3b067 0 = .ok (.iload_n 1, 1) := by decide +kernel
theorem dJ2_charAt_3b067_1 : decode cJ2_charAt_3b067 1 = .ok (.aload_n 0, 1) := by decide +kernel
theorem dJ2_charAt_3b067_2 : decode cJ2_charAt_3b067 2 = .ok (.invokestatic 67, 3) := by decide +kernel
theorem dJ2_charAt_3b067_5 : decode cJ2_charAt_3b067 5 = .ok (.aload_n 0, 1) := by decide +kernel
theorem dJ2_charAt_3b067_6 : decode cJ2_charAt_3b067 6 = .ok (.iload_n 1, 1) := by decide +kernel
theorem dJ2_charAt_3b067_7 : decode cJ2_charAt_3b067 7 = .ok (.invokestatic 71, 3) := by decide +kernel
theorem dJ2_charAt_3b067_10 : decode cJ2_charAt_3b067 10 = .ok (.ireturn, 1) := by decide +kernel
theorem dJ2_checkIndex_2214a_0 : decode cJ2_checkIndex_2214a 0 = .ok (.iload_n 0, 1) := by decide +kernel
theorem dJ2_checkIndex_2214a_1 : decode cJ2_checkIndex_2214a 1 = .ok (.aload_n 1, 1) := by decide +kernel
theorem dJ2_checkIndex_2214a_2 : decode cJ2_checkIndex_2214a 2 = .ok (.invokestatic 48, 3) := by decide +kernel
theorem dJ2_checkIndex_2214a_5 : decode cJ2_checkIndex_2214a 5 = .ok (.invokestatic 414, 3) := by decide +kernel
theorem dJ2_checkIndex_2214a_8 : decode cJ2_checkIndex_2214a 8 = .ok (.return_, 1) := by decide +kernel
theorem dJ3_checkIndex_8e157_0 : decode cJ3_checkIndex_8e157 0 = .ok (.iload_n 0, 1) := by decide +kernel
theorem dJ3_checkIndex_8e157_1 : decode cJ3_checkIndex_8e157 1 = .ok (.ifCond .lt 8, 3) := by decide +kernel
theorem dJ3_checkIndex_8e157_4 : decode cJ3_checkIndex_8e157 4 = .ok (.iload_n 0, 1) := by decide +kernel
theorem dJ3_checkIndex_8e157_5 : decode cJ3_checkIndex_8e157 5 = .ok (.iload_n 1, 1) := by decide +kernel
theorem dJ3_checkIndex_8e157_6 : decode cJ3_checkIndex_8e157 6 = .ok (.if_icmp .lt 10, 3) := by decide +kernel
theorem dJ3_checkIndex_8e157_9 : decode cJ3_checkIndex_8e157 9 = .ok (.aload_n 2, 1) := by decide +kernel
theorem dJ3_checkIndex_8e157_10 : decode cJ3_checkIndex_8e157 10 = .ok (.iload_n 0, 1) := by decide +kernel
theorem dJ3_checkIndex_8e157_11 : decode cJ3_checkIndex_8e157 11 = .ok (.iload_n 1, 1) := by decide +kernel
theorem dJ3_checkIndex_8e157_12 : decode cJ3_checkIndex_8e157 12 = .ok (.invokestatic 95, 3) := by decide +kernel
theorem dJ3_checkIndex_8e157_15 : decode cJ3_checkIndex_8e157 15 = .ok (.athrow, 1) := by decide +kernel
theorem dJ3_checkIndex_8e157_16 : decode cJ3_checkIndex_8e157 16 = .ok (.iload_n 0, 1) := by decide +kernel
theorem dJ3_checkIndex_8e157_17 : decode cJ3_checkIndex_8e157 17 = .ok (.ireturn, 1) := by decide +kernel
theorem dL_cell_0 : decode cL_cell 0 = .ok (.aload_n 0, 1) := by decide +kernel
theorem dL_cell_1 : decode cL_cell 1 = .ok (.arraylength, 1) := by decide +kernel
theorem dL_cell_2 : decode cL_cell 2 = .ok (.ifCond .ne 11, 3) := by decide +kernel
theorem dL_cell_5 : decode cL_cell 5 = .ok (.sipush 577, 3) := by decide +kernel
theorem dL_cell_8 : decode cL_cell 8 = .ok (.iload_n 1, 1) := by decide +kernel
theorem dL_cell_9 : decode cL_cell 9 = .ok (.imul, 1) := by decide +kernel
theorem dL_cell_10 : decode cL_cell 10 = .ok (.goto 12, 3) := by decide +kernel
theorem dL_cell_13 : decode cL_cell 13 = .ok (.aload_n 0, 1) := by decide +kernel
theorem dL_cell_14 : decode cL_cell 14 = .ok (.iload_n 1, 1) := by decide +kernel
theorem dL_cell_15 : decode cL_cell 15 = .ok (.ldc 7, 2) := by decide +kernel
theorem dL_cell_17 : decode cL_cell 17 = .ok (.iand, 1) := by decide +kernel
theorem dL_cell_18 : decode cL_cell 18 = .ok (.aload_n 0, 1) := by decide +kernel
theorem dL_cell_19 : decode cL_cell 19 = .ok (.arraylength, 1) := by decide +kernel
theorem dL_cell_20 : decode cL_cell 20 = .ok (.irem, 1) := by decide +kernel
theorem dL_cell_21 : decode cL_cell 21 = .ok (.iaload, 1) := by decide +kernel
theorem dL_cell_22 : decode cL_cell 22 = .ok (.ireturn, 1) := by decide +kernel
theorem dL_write_0 : decode cL_write 0 = .ok (.iconst 0, 1) := by decide +kernel
theorem dL_write_1 : decode cL_write 1 = .ok (.istore_n 2, 1) := by decide +kernel
theorem dL_write_2 : decode cL_write 2 = .ok (.iload_n 2, 1) := by decide +kernel
theorem dL_write_3 : decode cL_write 3 = .ok (.aload_n 1, 1) := by decide +kernel
theorem dL_write_4 : decode cL_write 4 = .ok (.invokevirtual 8, 3) := by decide +kernel
theorem dL_write_7 : decode cL_write 7 = .ok (.if_icmp .ge 19, 3) := by decide +kernel
theorem dL_write_10 : decode cL_write 10 = .ok (.aload_n 0, 1) := by decide +kernel
theorem dL_write_11 : decode cL_write 11 = .ok (.aload_n 1, 1) := by decide +kernel
theorem dL_write_12 : decode cL_write 12 = .ok (.iload_n 2, 1) := by decide +kernel
theorem dL_write_13 : decode cL_write 13 = .ok (.invokevirtual 14, 3) := by decide +kernel
theorem dL_write_16 : decode cL_write 16 = .ok (.invokevirtual 18, 3) := by decide +kernel
theorem dL_write_19 : decode cL_write 19 = .ok (.pop, 1) := by decide +kernel
theorem dL_write_20 : decode cL_write 20 = .ok (.iinc 2 1, 3) := by decide +kernel
theorem dL_write_23 : decode cL_write 23 = .ok (.goto (-21), 3) := by decide +kernel
theorem dL_write_26 : decode cL_write 26 = .ok (.aload_n 0, 1) := by decide +kernel
theorem dL_write_27 : decode cL_write 27 = .ok (.areturn, 1) := by decide +kernel
theorem dL_act_0 : decode cL_act 0 = .ok (.iload_n 1, 1) := by decide +kernel
theorem dL_act_1 : decode cL_act 1 = .ok (.iconst 4, 1) := by decide +kernel
theorem dL_act_2 : decode cL_act 2 = .ok (.ishr, 1) := by decide +kernel
theorem dL_act_3 : decode cL_act 3 = .ok (.ldc 7, 2) := by decide +kernel
theorem dL_act_5 : decode cL_act 5 = .ok (.iand, 1) := by decide +kernel
theorem dL_act_6 : decode cL_act 6 = .ok (.istore_n 2, 1) := by decide +kernel
theorem dL_act_7 : decode cL_act 7 = .ok (.iload_n 2, 1) := by decide +kernel
theorem dL_act_8 : decode cL_act 8 = .ok (.iconst 1, 1) := by decide +kernel
theorem dL_act_9 : decode cL_act 9 = .ok (.iand, 1) := by decide +kernel
theorem dL_act_10 : decode cL_act 10 = .ok (.ifCond .ne 12, 3) := by decide +kernel
theorem dL_act_13 : decode cL_act 13 = .ok (.iload_n 2, 1) := by decide +kernel
theorem dL_act_14 : decode cL_act 14 = .ok (.iconst 1, 1) := by decide +kernel
theorem dL_act_15 : decode cL_act 15 = .ok (.ishr, 1) := by decide +kernel
theorem dL_act_16 : decode cL_act 16 = .ok (.bipush 33, 2) := by decide +kernel
theorem dL_act_18 : decode cL_act 18 = .ok (.irem, 1) := by decide +kernel
theorem dL_act_19 : decode cL_act 19 = .ok (.goto 9, 3) := by decide +kernel
theorem dL_act_22 : decode cL_act 22 = .ok (.iload_n 2, 1) := by decide +kernel
theorem dL_act_23 : decode cL_act 23 = .ok (.iconst 1, 1) := by decide +kernel
theorem dL_act_24 : decode cL_act 24 = .ok (.ishr, 1) := by decide +kernel
theorem dL_act_25 : decode cL_act 25 = .ok (.bipush 6, 2) := by decide +kernel
theorem dL_act_27 : decode cL_act 27 = .ok (.irem, 1) := by decide +kernel
theorem dL_act_28 : decode cL_act 28 = .ok (.istore_n 3, 1) := by decide +kernel
theorem dL_act_29 : decode cL_act 29 = .ok (.iload_n 1, 1) := by decide +kernel
theorem dL_act_30 : decode cL_act 30 = .ok (.bipush 15, 2) := by decide +kernel
theorem dL_act_32 : decode cL_act 32 = .ok (.iand, 1) := by decide +kernel
theorem dL_act_33 : decode cL_act 33 = .ok (.tableswitch 218 0 14 #[75, 75, 75, 75, 75, 109, 121, 121, 121, 140, 157, 157, 168, 195, 195], 75) := by decide +kernel
theorem dL_act_108 : decode cL_act 108 = .ok (.aload_n 0, 1) := by decide +kernel
theorem dL_act_109 : decode cL_act 109 = .ok (.iload_n 3, 1) := by decide +kernel
theorem dL_act_110 : decode cL_act 110 = .ok (.iload_n 2, 1) := by decide +kernel
theorem dL_act_111 : decode cL_act 111 = .ok (.bipush 7, 2) := by decide +kernel
theorem dL_act_113 : decode cL_act 113 = .ok (.ishr, 1) := by decide +kernel
theorem dL_act_114 : decode cL_act 114 = .ok (.iconst 5, 1) := by decide +kernel
theorem dL_act_115 : decode cL_act 115 = .ok (.irem, 1) := by decide +kernel
theorem dL_act_116 : decode cL_act 116 = .ok (.iload_n 2, 1) := by decide +kernel
theorem dL_act_117 : decode cL_act 117 = .ok (.iconst 5, 1) := by decide +kernel
theorem dL_act_118 : decode cL_act 118 = .ok (.ishr, 1) := by decide +kernel
theorem dL_act_119 : decode cL_act 119 = .ok (.bipush 8, 2) := by decide +kernel
theorem dL_act_121 : decode cL_act 121 = .ok (.irem, 1) := by decide +kernel
theorem dL_act_122 : decode cL_act 122 = .ok (.ifCond .ne 9, 3) := by decide +kernel
theorem dL_act_125 : decode cL_act 125 = .ok (.sipush 200, 3) := by decide +kernel
theorem dL_act_128 : decode cL_act 128 = .ok (.goto 10, 3) := by decide +kernel
theorem dL_act_131 : decode cL_act 131 = .ok (.iload_n 2, 1) := by decide +kernel
theorem dL_act_132 : decode cL_act 132 = .ok (.iconst 4, 1) := by decide +kernel
theorem dL_act_133 : decode cL_act 133 = .ok (.ishr, 1) := by decide +kernel
theorem dL_act_134 : decode cL_act 134 = .ok (.sipush 202, 3) := by decide +kernel
theorem dL_act_137 : decode cL_act 137 = .ok (.irem, 1) := by decide +kernel
theorem dL_act_138 : decode cL_act 138 = .ok (.invokevirtual 24, 3) := by decide +kernel
theorem dL_act_141 : decode cL_act 141 = .ok (.ireturn, 1) := by decide +kernel
theorem dL_act_142 : decode cL_act 142 = .ok (.aload_n 0, 1) := by decide +kernel
theorem dL_act_143 : decode cL_act 143 = .ok (.iload_n 3, 1) := by decide +kernel
theorem dL_act_144 : decode cL_act 144 = .ok (.iload_n 2, 1) := by decide +kernel
theorem dL_act_145 : decode cL_act 145 = .ok (.iconst 5, 1) := by decide +kernel
theorem dL_act_146 : decode cL_act 146 = .ok (.ishr, 1) := by decide +kernel
theorem dL_act_147 : decode cL_act 147 = .ok (.bipush 60, 2) := by decide +kernel
theorem dL_act_149 : decode cL_act 149 = .ok (.irem, 1) := by decide +kernel
theorem dL_act_150 : decode cL_act 150 = .ok (.invokevirtual 28, 3) := by decide +kernel
theorem dL_act_153 : decode cL_act 153 = .ok (.ireturn, 1) := by decide +kernel
theorem dL_act_154 : decode cL_act 154 = .ok (.aload_n 0, 1) := by decide +kernel
theorem dL_act_155 : decode cL_act 155 = .ok (.iload_n 3, 1) := by decide +kernel
theorem dL_act_156 : decode cL_act 156 = .ok (.iload_n 2, 1) := by decide +kernel
theorem dL_act_157 : decode cL_act 157 = .ok (.bipush 8, 2) := by decide +kernel
theorem dL_act_159 : decode cL_act 159 = .ok (.ishr, 1) := by decide +kernel
theorem dL_act_160 : decode cL_act 160 = .ok (.bipush 8, 2) := by decide +kernel
theorem dL_act_162 : decode cL_act 162 = .ok (.irem, 1) := by decide +kernel
theorem dL_act_163 : decode cL_act 163 = .ok (.iload_n 2, 1) := by decide +kernel
theorem dL_act_164 : decode cL_act 164 = .ok (.iconst 4, 1) := by decide +kernel
theorem dL_act_165 : decode cL_act 165 = .ok (.ishr, 1) := by decide +kernel
theorem dL_act_166 : decode cL_act 166 = .ok (.bipush 120, 2) := by decide +kernel
theorem dL_act_168 : decode cL_act 168 = .ok (.irem, 1) := by decide +kernel
theorem dL_act_169 : decode cL_act 169 = .ok (.invokevirtual 32, 3) := by decide +kernel
theorem dL_act_172 : decode cL_act 172 = .ok (.ireturn, 1) := by decide +kernel
theorem dL_act_173 : decode cL_act 173 = .ok (.aload_n 0, 1) := by decide +kernel
theorem dL_act_174 : decode cL_act 174 = .ok (.iload_n 2, 1) := by decide +kernel
theorem dL_act_175 : decode cL_act 175 = .ok (.iconst 1, 1) := by decide +kernel
theorem dL_act_176 : decode cL_act 176 = .ok (.ishr, 1) := by decide +kernel
theorem dL_act_177 : decode cL_act 177 = .ok (.iconst 5, 1) := by decide +kernel
theorem dL_act_178 : decode cL_act 178 = .ok (.irem, 1) := by decide +kernel
theorem dL_act_179 : decode cL_act 179 = .ok (.iload_n 2, 1) := by decide +kernel
theorem dL_act_180 : decode cL_act 180 = .ok (.iconst 3, 1) := by decide +kernel
theorem dL_act_181 : decode cL_act 181 = .ok (.ishr, 1) := by decide +kernel
theorem dL_act_182 : decode cL_act 182 = .ok (.sipush 300, 3) := by decide +kernel
theorem dL_act_185 : decode cL_act 185 = .ok (.irem, 1) := by decide +kernel
theorem dL_act_186 : decode cL_act 186 = .ok (.invokevirtual 35, 3) := by decide +kernel
theorem dL_act_189 : decode cL_act 189 = .ok (.ireturn, 1) := by decide +kernel
theorem dL_act_190 : decode cL_act 190 = .ok (.aload_n 0, 1) := by decide +kernel
theorem dL_act_191 : decode cL_act 191 = .ok (.iload_n 2, 1) := by decide +kernel
theorem dL_act_192 : decode cL_act 192 = .ok (.iconst 1, 1) := by decide +kernel
theorem dL_act_193 : decode cL_act 193 = .ok (.ishr, 1) := by decide +kernel
theorem dL_act_194 : decode cL_act 194 = .ok (.bipush 34, 2) := by decide +kernel
theorem dL_act_196 : decode cL_act 196 = .ok (.irem, 1) := by decide +kernel
theorem dL_act_197 : decode cL_act 197 = .ok (.invokevirtual 38, 3) := by decide +kernel
theorem dL_act_200 : decode cL_act 200 = .ok (.ireturn, 1) := by decide +kernel
theorem dL_act_201 : decode cL_act 201 = .ok (.aload_n 0, 1) := by decide +kernel
theorem dL_act_202 : decode cL_act 202 = .ok (.iload_n 2, 1) := by decide +kernel
theorem dL_act_203 : decode cL_act 203 = .ok (.bipush 7, 2) := by decide +kernel
theorem dL_act_205 : decode cL_act 205 = .ok (.iand, 1) := by decide +kernel
theorem dL_act_206 : decode cL_act 206 = .ok (.ifCond .ne 12, 3) := by decide +kernel
theorem dL_act_209 : decode cL_act 209 = .ok (.iload_n 2, 1) := by decide +kernel
theorem dL_act_210 : decode cL_act 210 = .ok (.iconst 3, 1) := by decide +kernel
theorem dL_act_211 : decode cL_act 211 = .ok (.ishr, 1) := by decide +kernel
theorem dL_act_212 : decode cL_act 212 = .ok (.bipush 54, 2) := by decide +kernel
theorem dL_act_214 : decode cL_act 214 = .ok (.irem, 1) := by decide +kernel
theorem dL_act_215 : decode cL_act 215 = .ok (.goto 9, 3) := by decide +kernel
theorem dL_act_218 : decode cL_act 218 = .ok (.iconst 1, 1) := by decide +kernel
theorem dL_act_219 : decode cL_act 219 = .ok (.iload_n 2, 1) := by decide +kernel
theorem dL_act_220 : decode cL_act 220 = .ok (.bipush 6, 2) := by decide +kernel
theorem dL_act_222 : decode cL_act 222 = .ok (.irem, 1) := by decide +kernel
theorem dL_act_223 : decode cL_act 223 = .ok (.iadd, 1) := by decide +kernel
theorem dL_act_224 : decode cL_act 224 = .ok (.invokevirtual 41, 3) := by decide +kernel
theorem dL_act_227 : decode cL_act 227 = .ok (.ireturn, 1) := by decide +kernel
theorem dL_act_228 : decode cL_act 228 = .ok (.bipush (-14), 2) := by decide +kernel
theorem dL_act_230 : decode cL_act 230 = .ok (.aload_n 0, 1) := by decide +kernel
theorem dL_act_231 : decode cL_act 231 = .ok (.getstatic 44, 3) := by decide +kernel
theorem dL_act_234 : decode cL_act 234 = .ok (.iload_n 2, 1) := by decide +kernel
theorem dL_act_235 : decode cL_act 235 = .ok (.getstatic 44, 3) := by decide +kernel
theorem dL_act_238 : decode cL_act 238 = .ok (.arraylength, 1) := by decide +kernel
theorem dL_act_239 : decode cL_act 239 = .ok (.irem, 1) := by decide +kernel
theorem dL_act_240 : decode cL_act 240 = .ok (.aaload, 1) := by decide +kernel
theorem dL_act_241 : decode cL_act 241 = .ok (.invokestatic 50, 3) := by decide +kernel
theorem dL_act_244 : decode cL_act 244 = .ok (.invokevirtual 54, 3) := by decide +kernel
theorem dL_act_247 : decode cL_act 247 = .ok (.invokestatic 57, 3) := by decide +kernel
theorem dL_act_250 : decode cL_act 250 = .ok (.ireturn, 1) := by decide +kernel
theorem dL_act_251 : decode cL_act 251 = .ok (.iload_n 2, 1) := by decide +kernel
theorem dL_act_252 : decode cL_act 252 = .ok (.iconst 3, 1) := by decide +kernel
theorem dL_act_253 : decode cL_act 253 = .ok (.iand, 1) := by decide +kernel
theorem dL_act_254 : decode cL_act 254 = .ok (.ifCond .ne 10, 3) := by decide +kernel
theorem dL_act_257 : decode cL_act 257 = .ok (.aload_n 0, 1) := by decide +kernel
theorem dL_act_258 : decode cL_act 258 = .ok (.invokevirtual 62, 3) := by decide +kernel
theorem dL_act_261 : decode cL_act 261 = .ok (.goto 21, 3) := by decide +kernel
theorem dL_act_264 : decode cL_act 264 = .ok (.iload_n 2, 1) := by decide +kernel
theorem dL_act_265 : decode cL_act 265 = .ok (.iconst 3, 1) := by decide +kernel
theorem dL_act_266 : decode cL_act 266 = .ok (.iand, 1) := by decide +kernel
theorem dL_act_267 : decode cL_act 267 = .ok (.iconst 1, 1) := by decide +kernel
theorem dL_act_268 : decode cL_act 268 = .ok (.if_icmp .ne 10, 3) := by decide +kernel
theorem dL_act_271 : decode cL_act 271 = .ok (.aload_n 0, 1) := by decide +kernel
theorem dL_act_272 : decode cL_act 272 = .ok (.invokevirtual 65, 3) := by decide +kernel
theorem dL_act_275 : decode cL_act 275 = .ok (.goto 7, 3) := by decide +kernel
theorem dL_act_278 : decode cL_act 278 = .ok (.aload_n 0, 1) := by decide +kernel
theorem dL_act_279 : decode cL_act 279 = .ok (.invokevirtual 68, 3) := by decide +kernel
theorem dL_act_282 : decode cL_act 282 = .ok (.ireturn, 1) := by decide +kernel
theorem dL_digest_0 : decode cL_digest 0 = .ok (.ldc2_w 71, 3) := by decide +kernel
theorem dL_digest_3 : decode cL_digest 3 = .ok (.lstore_n 1, 1) := by decide +kernel
theorem dL_digest_4 : decode cL_digest 4 = .ok (.iconst 0, 1) := by decide +kernel
theorem dL_digest_5 : decode cL_digest 5 = .ok (.istore_n 3, 1) := by decide +kernel
theorem dL_digest_6 : decode cL_digest 6 = .ok (.iload_n 3, 1) := by decide +kernel
theorem dL_digest_7 : decode cL_digest 7 = .ok (.bipush 16, 2) := by decide +kernel
theorem dL_digest_9 : decode cL_digest 9 = .ok (.if_icmp .ge 22, 3) := by decide +kernel
theorem dL_digest_12 : decode cL_digest 12 = .ok (.ldc2_w 73, 3) := by decide +kernel
theorem dL_digest_15 : decode cL_digest 15 = .ok (.lload_n 1, 1) := by decide +kernel
theorem dL_digest_16 : decode cL_digest 16 = .ok (.lmul, 1) := by decide +kernel
theorem dL_digest_17 : decode cL_digest 17 = .ok (.aload_n 0, 1) := by decide +kernel
theorem dL_digest_18 : decode cL_digest 18 = .ok (.iload_n 3, 1) := by decide +kernel
theorem dL_digest_19 : decode cL_digest 19 = .ok (.invokevirtual 75, 3) := by decide +kernel
theorem dL_digest_22 : decode cL_digest 22 = .ok (.i2l, 1) := by decide +kernel
theorem dL_digest_23 : decode cL_digest 23 = .ok (.ladd, 1) := by decide +kernel
theorem dL_digest_24 : decode cL_digest 24 = .ok (.lstore_n 1, 1) := by decide +kernel
theorem dL_digest_25 : decode cL_digest 25 = .ok (.iinc 3 1, 3) := by decide +kernel
theorem dL_digest_28 : decode cL_digest 28 = .ok (.goto (-22), 3) := by decide +kernel
theorem dL_digest_31 : decode cL_digest 31 = .ok (.iconst 0, 1) := by decide +kernel
theorem dL_digest_32 : decode cL_digest 32 = .ok (.istore_n 3, 1) := by decide +kernel
theorem dL_digest_33 : decode cL_digest 33 = .ok (.iload_n 3, 1) := by decide +kernel
theorem dL_digest_34 : decode cL_digest 34 = .ok (.bipush 96, 2) := by decide +kernel
theorem dL_digest_36 : decode cL_digest 36 = .ok (.if_icmp .ge 27, 3) := by decide +kernel
theorem dL_digest_39 : decode cL_digest 39 = .ok (.ldc2_w 73, 3) := by decide +kernel
theorem dL_digest_42 : decode cL_digest 42 = .ok (.lload_n 1, 1) := by decide +kernel
theorem dL_digest_43 : decode cL_digest 43 = .ok (.lmul, 1) := by decide +kernel
theorem dL_digest_44 : decode cL_digest 44 = .ok (.aload_n 0, 1) := by decide +kernel
theorem dL_digest_45 : decode cL_digest 45 = .ok (.iload_n 3, 1) := by decide +kernel
theorem dL_digest_46 : decode cL_digest 46 = .ok (.iconst 3, 1) := by decide +kernel
theorem dL_digest_47 : decode cL_digest 47 = .ok (.idiv, 1) := by decide +kernel
theorem dL_digest_48 : decode cL_digest 48 = .ok (.iload_n 3, 1) := by decide +kernel
theorem dL_digest_49 : decode cL_digest 49 = .ok (.iconst 3, 1) := by decide +kernel
theorem dL_digest_50 : decode cL_digest 50 = .ok (.irem, 1) := by decide +kernel
theorem dL_digest_51 : decode cL_digest 51 = .ok (.invokevirtual 78, 3) := by decide +kernel
theorem dL_digest_54 : decode cL_digest 54 = .ok (.i2l, 1) := by decide +kernel
theorem dL_digest_55 : decode cL_digest 55 = .ok (.ladd, 1) := by decide +kernel
theorem dL_digest_56 : decode cL_digest 56 = .ok (.lstore_n 1, 1) := by decide +kernel
theorem dL_digest_57 : decode cL_digest 57 = .ok (.iinc 3 1, 3) := by decide +kernel
theorem dL_digest_60 : decode cL_digest 60 = .ok (.goto (-27), 3) := by decide +kernel
theorem dL_digest_63 : decode cL_digest 63 = .ok (.iconst 1, 1) := by decide +kernel
theorem dL_digest_64 : decode cL_digest 64 = .ok (.istore_n 3, 1) := by decide +kernel
theorem dL_digest_65 : decode cL_digest 65 = .ok (.iload_n 3, 1) := by decide +kernel
theorem dL_digest_66 : decode cL_digest 66 = .ok (.bipush 33, 2) := by decide +kernel
theorem dL_digest_68 : decode cL_digest 68 = .ok (.if_icmp .ge 23, 3) := by decide +kernel
theorem dL_digest_71 : decode cL_digest 71 = .ok (.ldc2_w 73, 3) := by decide +kernel
theorem dL_digest_74 : decode cL_digest 74 = .ok (.lload_n 1, 1) := by decide +kernel
theorem dL_digest_75 : decode cL_digest 75 = .ok (.lmul, 1) := by decide +kernel
theorem dL_digest_76 : decode cL_digest 76 = .ok (.aload_n 0, 1) := by decide +kernel
theorem dL_digest_77 : decode cL_digest 77 = .ok (.iload_n 3, 1) := by decide +kernel
theorem dL_digest_78 : decode cL_digest 78 = .ok (.iconst 3, 1) := by decide +kernel
theorem dL_digest_79 : decode cL_digest 79 = .ok (.invokevirtual 81, 3) := by decide +kernel
theorem dL_digest_82 : decode cL_digest 82 = .ok (.i2l, 1) := by decide +kernel
theorem dL_digest_83 : decode cL_digest 83 = .ok (.ladd, 1) := by decide +kernel
theorem dL_digest_84 : decode cL_digest 84 = .ok (.lstore_n 1, 1) := by decide +kernel
theorem dL_digest_85 : decode cL_digest 85 = .ok (.iinc 3 1, 3) := by decide +kernel
theorem dL_digest_88 : decode cL_digest 88 = .ok (.goto (-23), 3) := by decide +kernel
theorem dL_digest_91 : decode cL_digest 91 = .ok (.lload_n 1, 1) := by decide +kernel
theorem dL_digest_92 : decode cL_digest 92 = .ok (.lreturn, 1) := by decide +kernel
theorem dL_keeps_0 : decode cL_keeps 0 = .ok (.iload_n 0, 1) := by decide +kernel
theorem dL_keeps_1 : decode cL_keeps 1 = .ok (.ifCond .ne 8, 3) := by decide +kernel
theorem dL_keeps_4 : decode cL_keeps 4 = .ok (.bipush 20, 2) := by decide +kernel
theorem dL_keeps_6 : decode cL_keeps 6 = .ok (.goto 25, 3) := by decide +kernel
theorem dL_keeps_9 : decode cL_keeps 9 = .ok (.iload_n 0, 1) := by decide +kernel
theorem dL_keeps_10 : decode cL_keeps 10 = .ok (.iconst 1, 1) := by decide +kernel
theorem dL_keeps_11 : decode cL_keeps 11 = .ok (.if_icmp .ne 8, 3) := by decide +kernel
theorem dL_keeps_14 : decode cL_keeps 14 = .ok (.bipush 15, 2) := by decide +kernel
theorem dL_keeps_16 : decode cL_keeps 16 = .ok (.goto 15, 3) := by decide +kernel
theorem dL_keeps_19 : decode cL_keeps 19 = .ok (.iload_n 0, 1) := by decide +kernel
theorem dL_keeps_20 : decode cL_keeps 20 = .ok (.iconst 2, 1) := by decide +kernel
theorem dL_keeps_21 : decode cL_keeps 21 = .ok (.if_icmp .ne 8, 3) := by decide +kernel
theorem dL_keeps_24 : decode cL_keeps 24 = .ok (.bipush 10, 2) := by decide +kernel
theorem dL_keeps_26 : decode cL_keeps 26 = .ok (.goto 5, 3) := by decide +kernel
theorem dL_keeps_29 : decode cL_keeps 29 = .ok (.bipush 12, 2) := by decide +kernel
theorem dL_keeps_31 : decode cL_keeps 31 = .ok (.ireturn, 1) := by decide +kernel
theorem dL_isBay_0 : decode cL_isBay 0 = .ok (.aload_n 0, 1) := by decide +kernel
theorem dL_isBay_1 : decode cL_isBay 1 = .ok (.iload_n 1, 1) := by decide +kernel
theorem dL_isBay_2 : decode cL_isBay 2 = .ok (.iconst 0, 1) := by decide +kernel
theorem dL_isBay_3 : decode cL_isBay 3 = .ok (.invokevirtual 78, 3) := by decide +kernel
theorem dL_isBay_6 : decode cL_isBay 6 = .ok (.istore_n 2, 1) := by decide +kernel
theorem dL_isBay_7 : decode cL_isBay 7 = .ok (.aload_n 0, 1) := by decide +kernel
theorem dL_isBay_8 : decode cL_isBay 8 = .ok (.iload_n 1, 1) := by decide +kernel
theorem dL_isBay_9 : decode cL_isBay 9 = .ok (.iconst 1, 1) := by decide +kernel
theorem dL_isBay_10 : decode cL_isBay 10 = .ok (.invokevirtual 78, 3) := by decide +kernel
theorem dL_isBay_13 : decode cL_isBay 13 = .ok (.istore_n 3, 1) := by decide +kernel
theorem dL_isBay_14 : decode cL_isBay 14 = .ok (.aload_n 0, 1) := by decide +kernel
theorem dL_isBay_15 : decode cL_isBay 15 = .ok (.iload_n 1, 1) := by decide +kernel
theorem dL_isBay_16 : decode cL_isBay 16 = .ok (.iconst 2, 1) := by decide +kernel
theorem dL_isBay_17 : decode cL_isBay 17 = .ok (.invokevirtual 78, 3) := by decide +kernel
theorem dL_isBay_20 : decode cL_isBay 20 = .ok (.istore 4, 2) := by decide +kernel
theorem dL_isBay_22 : decode cL_isBay 22 = .ok (.iload_n 3, 1) := by decide +kernel
theorem dL_isBay_23 : decode cL_isBay 23 = .ok (.ifCond .ne 7, 3) := by decide +kernel
theorem dL_isBay_26 : decode cL_isBay 26 = .ok (.iconst 1, 1) := by decide +kernel
theorem dL_isBay_27 : decode cL_isBay 27 = .ok (.goto 4, 3) := by decide +kernel
theorem dL_isBay_30 : decode cL_isBay 30 = .ok (.iconst 0, 1) := by decide +kernel
theorem dL_isBay_31 : decode cL_isBay 31 = .ok (.istore 5, 2) := by decide +kernel
theorem dL_isBay_33 : decode cL_isBay 33 = .ok (.iload_n 2, 1) := by decide +kernel
theorem dL_isBay_34 : decode cL_isBay 34 = .ok (.bipush (-15), 2) := by decide +kernel
theorem dL_isBay_36 : decode cL_isBay 36 = .ok (.if_icmp .ne 7, 3) := by decide +kernel
theorem dL_isBay_39 : decode cL_isBay 39 = .ok (.iconst 1, 1) := by decide +kernel
theorem dL_isBay_40 : decode cL_isBay 40 = .ok (.goto 4, 3) := by decide +kernel
theorem dL_isBay_43 : decode cL_isBay 43 = .ok (.iconst 0, 1) := by decide +kernel
theorem dL_isBay_44 : decode cL_isBay 44 = .ok (.iload 5, 2) := by decide +kernel
theorem dL_isBay_46 : decode cL_isBay 46 = .ok (.if_icmp .ne 69, 3) := by decide +kernel
theorem dL_isBay_49 : decode cL_isBay 49 = .ok (.iload_n 3, 1) := by decide +kernel
theorem dL_isBay_50 : decode cL_isBay 50 = .ok (.ifCond .lt 65, 3) := by decide +kernel
theorem dL_isBay_53 : decode cL_isBay 53 = .ok (.iload_n 3, 1) := by decide +kernel
theorem dL_isBay_54 : decode cL_isBay 54 = .ok (.sipush 200, 3) := by decide +kernel
theorem dL_isBay_57 : decode cL_isBay 57 = .ok (.if_icmp .gt 58, 3) := by decide +kernel
theorem dL_isBay_60 : decode cL_isBay 60 = .ok (.iload 4, 2) := by decide +kernel
theorem dL_isBay_62 : decode cL_isBay 62 = .ok (.ifCond .lt 53, 3) := by decide +kernel
theorem dL_isBay_65 : decode cL_isBay 65 = .ok (.iload 5, 2) := by decide +kernel
theorem dL_isBay_67 : decode cL_isBay 67 = .ok (.ifCond .eq 8, 3) := by decide +kernel
end
section
theorem dL_isBay_70 : decode cL_isBay 70 = .ok (.iload 4, 2) := by decide +kernel
theorem dL_isBay_72 : decode cL_isBay 72 = .ok (.ifCond .ne 43, 3) := by decide +kernel
theorem dL_isBay_75 : decode cL_isBay 75 = .ok (.aload_n 0, 1) := by decide +kernel
theorem dL_isBay_76 : decode cL_isBay 76 = .ok (.iload_n 1, 1) := by decide +kernel
theorem dL_isBay_77 : decode cL_isBay 77 = .ok (.iconst 3, 1) := by decide +kernel
theorem dL_isBay_78 : decode cL_isBay 78 = .ok (.invokevirtual 78, 3) := by decide +kernel
theorem dL_isBay_81 : decode cL_isBay 81 = .ok (.iload 5, 2) := by decide +kernel
theorem dL_isBay_83 : decode cL_isBay 83 = .ok (.ifCond .ne 24, 3) := by decide +kernel
theorem dL_isBay_86 : decode cL_isBay 86 = .ok (.iload 4, 2) := by decide +kernel
theorem dL_isBay_88 : decode cL_isBay 88 = .ok (.iconst 1, 1) := by decide +kernel
theorem dL_isBay_89 : decode cL_isBay 89 = .ok (.iadd, 1) := by decide +kernel
theorem dL_isBay_90 : decode cL_isBay 90 = .ok (.iload_n 2, 1) := by decide +kernel
theorem dL_isBay_91 : decode cL_isBay 91 = .ok (.invokestatic 84, 3) := by decide +kernel
theorem dL_isBay_94 : decode cL_isBay 94 = .ok (.if_icmp .le 13, 3) := by decide +kernel
theorem dL_isBay_97 : decode cL_isBay 97 = .ok (.iload_n 3, 1) := by decide +kernel
theorem dL_isBay_98 : decode cL_isBay 98 = .ok (.bipush 9, 2) := by decide +kernel
theorem dL_isBay_100 : decode cL_isBay 100 = .ok (.iadd, 1) := by decide +kernel
theorem dL_isBay_101 : decode cL_isBay 101 = .ok (.bipush 10, 2) := by decide +kernel
theorem dL_isBay_103 : decode cL_isBay 103 = .ok (.idiv, 1) := by decide +kernel
theorem dL_isBay_104 : decode cL_isBay 104 = .ok (.goto 4, 3) := by decide +kernel
theorem dL_isBay_107 : decode cL_isBay 107 = .ok (.iconst 0, 1) := by decide +kernel
theorem dL_isBay_108 : decode cL_isBay 108 = .ok (.if_icmp .ne 7, 3) := by decide +kernel
theorem dL_isBay_111 : decode cL_isBay 111 = .ok (.iconst 1, 1) := by decide +kernel
theorem dL_isBay_112 : decode cL_isBay 112 = .ok (.goto 4, 3) := by decide +kernel
theorem dL_isBay_115 : decode cL_isBay 115 = .ok (.iconst 0, 1) := by decide +kernel
theorem dL_isBay_116 : decode cL_isBay 116 = .ok (.istore 6, 2) := by decide +kernel
theorem dL_isBay_118 : decode cL_isBay 118 = .ok (.iconst 0, 1) := by decide +kernel
theorem dL_isBay_119 : decode cL_isBay 119 = .ok (.istore 7, 2) := by decide +kernel
theorem dL_isBay_121 : decode cL_isBay 121 = .ok (.iconst 0, 1) := by decide +kernel
theorem dL_isBay_122 : decode cL_isBay 122 = .ok (.istore 8, 2) := by decide +kernel
theorem dL_isBay_124 : decode cL_isBay 124 = .ok (.iconst 1, 1) := by decide +kernel
theorem dL_isBay_125 : decode cL_isBay 125 = .ok (.istore 9, 2) := by decide +kernel
theorem dL_isBay_127 : decode cL_isBay 127 = .ok (.iload 9, 2) := by decide +kernel
theorem dL_isBay_129 : decode cL_isBay 129 = .ok (.bipush 33, 2) := by decide +kernel
theorem dL_isBay_131 : decode cL_isBay 131 = .ok (.if_icmp .ge 60, 3) := by decide +kernel
theorem dL_isBay_134 : decode cL_isBay 134 = .ok (.aload_n 0, 1) := by decide +kernel
theorem dL_isBay_135 : decode cL_isBay 135 = .ok (.iload 9, 2) := by decide +kernel
theorem dL_isBay_137 : decode cL_isBay 137 = .ok (.iconst 0, 1) := by decide +kernel
theorem dL_isBay_138 : decode cL_isBay 138 = .ok (.invokevirtual 81, 3) := by decide +kernel
theorem dL_isBay_141 : decode cL_isBay 141 = .ok (.istore 10, 2) := by decide +kernel
theorem dL_isBay_143 : decode cL_isBay 143 = .ok (.aload_n 0, 1) := by decide +kernel
theorem dL_isBay_144 : decode cL_isBay 144 = .ok (.iload 9, 2) := by decide +kernel
theorem dL_isBay_146 : decode cL_isBay 146 = .ok (.iconst 4, 1) := by decide +kernel
theorem dL_isBay_147 : decode cL_isBay 147 = .ok (.invokevirtual 81, 3) := by decide +kernel
theorem dL_isBay_150 : decode cL_isBay 150 = .ok (.iload_n 1, 1) := by decide +kernel
theorem dL_isBay_151 : decode cL_isBay 151 = .ok (.if_icmp .gt 34, 3) := by decide +kernel
theorem dL_isBay_154 : decode cL_isBay 154 = .ok (.iload_n 1, 1) := by decide +kernel
theorem dL_isBay_155 : decode cL_isBay 155 = .ok (.iload 9, 2) := by decide +kernel
theorem dL_isBay_157 : decode cL_isBay 157 = .ok (.if_icmp .ge 28, 3) := by decide +kernel
theorem dL_isBay_160 : decode cL_isBay 160 = .ok (.iinc 7 1, 3) := by decide +kernel
theorem dL_isBay_163 : decode cL_isBay 163 = .ok (.iload 8, 2) := by decide +kernel
theorem dL_isBay_165 : decode cL_isBay 165 = .ok (.aload_n 0, 1) := by decide +kernel
theorem dL_isBay_166 : decode cL_isBay 166 = .ok (.iload 9, 2) := by decide +kernel
theorem dL_isBay_168 : decode cL_isBay 168 = .ok (.iconst 3, 1) := by decide +kernel
theorem dL_isBay_169 : decode cL_isBay 169 = .ok (.invokevirtual 81, 3) := by decide +kernel
theorem dL_isBay_172 : decode cL_isBay 172 = .ok (.iconst 1, 1) := by decide +kernel
theorem dL_isBay_173 : decode cL_isBay 173 = .ok (.if_icmp .ne 8, 3) := by decide +kernel
theorem dL_isBay_176 : decode cL_isBay 176 = .ok (.iload 10, 2) := by decide +kernel
theorem dL_isBay_178 : decode cL_isBay 178 = .ok (.goto 4, 3) := by decide +kernel
theorem dL_isBay_181 : decode cL_isBay 181 = .ok (.iconst 0, 1) := by decide +kernel
theorem dL_isBay_182 : decode cL_isBay 182 = .ok (.ior, 1) := by decide +kernel
theorem dL_isBay_183 : decode cL_isBay 183 = .ok (.istore 8, 2) := by decide +kernel
theorem dL_isBay_185 : decode cL_isBay 185 = .ok (.iinc 9 1, 3) := by decide +kernel
theorem dL_isBay_188 : decode cL_isBay 188 = .ok (.goto (-61), 3) := by decide +kernel
theorem dL_isBay_191 : decode cL_isBay 191 = .ok (.iload 6, 2) := by decide +kernel
theorem dL_isBay_193 : decode cL_isBay 193 = .ok (.ifCond .eq 98, 3) := by decide +kernel
theorem dL_isBay_196 : decode cL_isBay 196 = .ok (.iload 7, 2) := by decide +kernel
theorem dL_isBay_198 : decode cL_isBay 198 = .ok (.aload_n 0, 1) := by decide +kernel
theorem dL_isBay_199 : decode cL_isBay 199 = .ok (.iload_n 1, 1) := by decide +kernel
theorem dL_isBay_200 : decode cL_isBay 200 = .ok (.iconst 4, 1) := by decide +kernel
theorem dL_isBay_201 : decode cL_isBay 201 = .ok (.invokevirtual 78, 3) := by decide +kernel
theorem dL_isBay_204 : decode cL_isBay 204 = .ok (.if_icmp .ne 87, 3) := by decide +kernel
theorem dL_isBay_207 : decode cL_isBay 207 = .ok (.iload 8, 2) := by decide +kernel
theorem dL_isBay_209 : decode cL_isBay 209 = .ok (.aload_n 0, 1) := by decide +kernel
theorem dL_isBay_210 : decode cL_isBay 210 = .ok (.iload_n 1, 1) := by decide +kernel
theorem dL_isBay_211 : decode cL_isBay 211 = .ok (.iconst 5, 1) := by decide +kernel
theorem dL_isBay_212 : decode cL_isBay 212 = .ok (.invokevirtual 78, 3) := by decide +kernel
theorem dL_isBay_215 : decode cL_isBay 215 = .ok (.if_icmp .ne 76, 3) := by decide +kernel
theorem dL_isBay_218 : decode cL_isBay 218 = .ok (.aload_n 0, 1) := by decide +kernel
theorem dL_isBay_219 : decode cL_isBay 219 = .ok (.iload_n 1, 1) := by decide +kernel
theorem dL_isBay_220 : decode cL_isBay 220 = .ok (.invokevirtual 87, 3) := by decide +kernel
theorem dL_isBay_223 : decode cL_isBay 223 = .ok (.aload_n 0, 1) := by decide +kernel
theorem dL_isBay_224 : decode cL_isBay 224 = .ok (.iload_n 1, 1) := by decide +kernel
theorem dL_isBay_225 : decode cL_isBay 225 = .ok (.invokevirtual 90, 3) := by decide +kernel
theorem dL_isBay_228 : decode cL_isBay 228 = .ok (.if_icmp .ne 63, 3) := by decide +kernel
theorem dL_isBay_231 : decode cL_isBay 231 = .ok (.aload_n 0, 1) := by decide +kernel
theorem dL_isBay_232 : decode cL_isBay 232 = .ok (.iload_n 1, 1) := by decide +kernel
theorem dL_isBay_233 : decode cL_isBay 233 = .ok (.invokevirtual 87, 3) := by decide +kernel
theorem dL_isBay_236 : decode cL_isBay 236 = .ok (.iload_n 1, 1) := by decide +kernel
theorem dL_isBay_237 : decode cL_isBay 237 = .ok (.iconst 1, 1) := by decide +kernel
theorem dL_isBay_238 : decode cL_isBay 238 = .ok (.iadd, 1) := by decide +kernel
theorem dL_isBay_239 : decode cL_isBay 239 = .ok (.invokestatic 93, 3) := by decide +kernel
theorem dL_isBay_242 : decode cL_isBay 242 = .ok (.if_icmp .lt 49, 3) := by decide +kernel
theorem dL_isBay_245 : decode cL_isBay 245 = .ok (.aload_n 0, 1) := by decide +kernel
theorem dL_isBay_246 : decode cL_isBay 246 = .ok (.iconst 0, 1) := by decide +kernel
theorem dL_isBay_247 : decode cL_isBay 247 = .ok (.iload_n 1, 1) := by decide +kernel
theorem dL_isBay_248 : decode cL_isBay 248 = .ok (.invokevirtual 98, 3) := by decide +kernel
theorem dL_isBay_251 : decode cL_isBay 251 = .ok (.aload_n 0, 1) := by decide +kernel
theorem dL_isBay_252 : decode cL_isBay 252 = .ok (.iconst 0, 1) := by decide +kernel
theorem dL_isBay_253 : decode cL_isBay 253 = .ok (.iload_n 1, 1) := by decide +kernel
theorem dL_isBay_254 : decode cL_isBay 254 = .ok (.invokevirtual 101, 3) := by decide +kernel
theorem dL_isBay_257 : decode cL_isBay 257 = .ok (.if_icmp .ne 34, 3) := by decide +kernel
theorem dL_isBay_260 : decode cL_isBay 260 = .ok (.aload_n 0, 1) := by decide +kernel
theorem dL_isBay_261 : decode cL_isBay 261 = .ok (.iload_n 1, 1) := by decide +kernel
theorem dL_isBay_262 : decode cL_isBay 262 = .ok (.iload_n 1, 1) := by decide +kernel
theorem dL_isBay_263 : decode cL_isBay 263 = .ok (.invokevirtual 98, 3) := by decide +kernel
theorem dL_isBay_266 : decode cL_isBay 266 = .ok (.iload_n 3, 1) := by decide +kernel
theorem dL_isBay_267 : decode cL_isBay 267 = .ok (.if_icmp .ne 24, 3) := by decide +kernel
theorem dL_isBay_270 : decode cL_isBay 270 = .ok (.aload_n 0, 1) := by decide +kernel
theorem dL_isBay_271 : decode cL_isBay 271 = .ok (.iload_n 1, 1) := by decide +kernel
theorem dL_isBay_272 : decode cL_isBay 272 = .ok (.bipush 31, 2) := by decide +kernel
theorem dL_isBay_274 : decode cL_isBay 274 = .ok (.invokevirtual 98, 3) := by decide +kernel
theorem dL_isBay_277 : decode cL_isBay 277 = .ok (.aload_n 0, 1) := by decide +kernel
theorem dL_isBay_278 : decode cL_isBay 278 = .ok (.iload_n 1, 1) := by decide +kernel
theorem dL_isBay_279 : decode cL_isBay 279 = .ok (.bipush 31, 2) := by decide +kernel
theorem dL_isBay_281 : decode cL_isBay 281 = .ok (.invokevirtual 101, 3) := by decide +kernel
theorem dL_isBay_284 : decode cL_isBay 284 = .ok (.if_icmp .ne 7, 3) := by decide +kernel
theorem dL_isBay_287 : decode cL_isBay 287 = .ok (.iconst 1, 1) := by decide +kernel
theorem dL_isBay_288 : decode cL_isBay 288 = .ok (.goto 4, 3) := by decide +kernel
theorem dL_isBay_291 : decode cL_isBay 291 = .ok (.iconst 0, 1) := by decide +kernel
theorem dL_isBay_292 : decode cL_isBay 292 = .ok (.ireturn, 1) := by decide +kernel
theorem dL_isRung_0 : decode cL_isRung 0 = .ok (.iload_n 1, 1) := by decide +kernel
theorem dL_isRung_1 : decode cL_isRung 1 = .ok (.iload_n 1, 1) := by decide +kernel
theorem dL_isRung_2 : decode cL_isRung 2 = .ok (.ineg, 1) := by decide +kernel
theorem dL_isRung_3 : decode cL_isRung 3 = .ok (.iand, 1) := by decide +kernel
theorem dL_isRung_4 : decode cL_isRung 4 = .ok (.istore_n 2, 1) := by decide +kernel
theorem dL_isRung_5 : decode cL_isRung 5 = .ok (.aload_n 0, 1) := by decide +kernel
theorem dL_isRung_6 : decode cL_isRung 6 = .ok (.iload_n 1, 1) := by decide +kernel
theorem dL_isRung_7 : decode cL_isRung 7 = .ok (.iload_n 2, 1) := by decide +kernel
theorem dL_isRung_8 : decode cL_isRung 8 = .ok (.isub, 1) := by decide +kernel
theorem dL_isRung_9 : decode cL_isRung 9 = .ok (.iload_n 1, 1) := by decide +kernel
theorem dL_isRung_10 : decode cL_isRung 10 = .ok (.iconst 1, 1) := by decide +kernel
theorem dL_isRung_11 : decode cL_isRung 11 = .ok (.isub, 1) := by decide +kernel
theorem dL_isRung_12 : decode cL_isRung 12 = .ok (.invokevirtual 101, 3) := by decide +kernel
theorem dL_isRung_15 : decode cL_isRung 15 = .ok (.istore_n 3, 1) := by decide +kernel
theorem dL_isRung_16 : decode cL_isRung 16 = .ok (.aload_n 0, 1) := by decide +kernel
theorem dL_isRung_17 : decode cL_isRung 17 = .ok (.iload_n 1, 1) := by decide +kernel
theorem dL_isRung_18 : decode cL_isRung 18 = .ok (.iconst 3, 1) := by decide +kernel
theorem dL_isRung_19 : decode cL_isRung 19 = .ok (.invokevirtual 81, 3) := by decide +kernel
theorem dL_isRung_22 : decode cL_isRung 22 = .ok (.iconst 1, 1) := by decide +kernel
theorem dL_isRung_23 : decode cL_isRung 23 = .ok (.if_icmp .ne 7, 3) := by decide +kernel
theorem dL_isRung_26 : decode cL_isRung 26 = .ok (.iconst 1, 1) := by decide +kernel
theorem dL_isRung_27 : decode cL_isRung 27 = .ok (.goto 4, 3) := by decide +kernel
theorem dL_isRung_30 : decode cL_isRung 30 = .ok (.iconst 0, 1) := by decide +kernel
theorem dL_isRung_31 : decode cL_isRung 31 = .ok (.istore 4, 2) := by decide +kernel
theorem dL_isRung_33 : decode cL_isRung 33 = .ok (.aload_n 0, 1) := by decide +kernel
theorem dL_isRung_34 : decode cL_isRung 34 = .ok (.iload_n 1, 1) := by decide +kernel
theorem dL_isRung_35 : decode cL_isRung 35 = .ok (.invokevirtual 104, 3) := by decide +kernel
theorem dL_isRung_38 : decode cL_isRung 38 = .ok (.istore 5, 2) := by decide +kernel
theorem dL_isRung_40 : decode cL_isRung 40 = .ok (.aload_n 0, 1) := by decide +kernel
theorem dL_isRung_41 : decode cL_isRung 41 = .ok (.iload_n 1, 1) := by decide +kernel
theorem dL_isRung_42 : decode cL_isRung 42 = .ok (.iconst 0, 1) := by decide +kernel
theorem dL_isRung_43 : decode cL_isRung 43 = .ok (.invokevirtual 81, 3) := by decide +kernel
theorem dL_isRung_46 : decode cL_isRung 46 = .ok (.iload_n 2, 1) := by decide +kernel
theorem dL_isRung_47 : decode cL_isRung 47 = .ok (.if_icmp .ne 126, 3) := by decide +kernel
theorem dL_isRung_50 : decode cL_isRung 50 = .ok (.aload_n 0, 1) := by decide +kernel
theorem dL_isRung_51 : decode cL_isRung 51 = .ok (.iload_n 1, 1) := by decide +kernel
theorem dL_isRung_52 : decode cL_isRung 52 = .ok (.iconst 1, 1) := by decide +kernel
theorem dL_isRung_53 : decode cL_isRung 53 = .ok (.invokevirtual 81, 3) := by decide +kernel
theorem dL_isRung_56 : decode cL_isRung 56 = .ok (.iload_n 3, 1) := by decide +kernel
theorem dL_isRung_57 : decode cL_isRung 57 = .ok (.if_icmp .ne 116, 3) := by decide +kernel
theorem dL_isRung_60 : decode cL_isRung 60 = .ok (.aload_n 0, 1) := by decide +kernel
theorem dL_isRung_61 : decode cL_isRung 61 = .ok (.iload_n 1, 1) := by decide +kernel
theorem dL_isRung_62 : decode cL_isRung 62 = .ok (.iconst 2, 1) := by decide +kernel
theorem dL_isRung_63 : decode cL_isRung 63 = .ok (.invokevirtual 81, 3) := by decide +kernel
theorem dL_isRung_66 : decode cL_isRung 66 = .ok (.bipush 100, 2) := by decide +kernel
theorem dL_isRung_68 : decode cL_isRung 68 = .ok (.iload_n 2, 1) := by decide +kernel
theorem dL_isRung_69 : decode cL_isRung 69 = .ok (.imul, 1) := by decide +kernel
theorem dL_isRung_70 : decode cL_isRung 70 = .ok (.if_icmp .ne 103, 3) := by decide +kernel
theorem dL_isRung_73 : decode cL_isRung 73 = .ok (.aload_n 0, 1) := by decide +kernel
theorem dL_isRung_74 : decode cL_isRung 74 = .ok (.iload_n 1, 1) := by decide +kernel
theorem dL_isRung_75 : decode cL_isRung 75 = .ok (.iconst 4, 1) := by decide +kernel
theorem dL_isRung_76 : decode cL_isRung 76 = .ok (.invokevirtual 81, 3) := by decide +kernel
theorem dL_isRung_79 : decode cL_isRung 79 = .ok (.iload_n 1, 1) := by decide +kernel
theorem dL_isRung_80 : decode cL_isRung 80 = .ok (.iload_n 2, 1) := by decide +kernel
theorem dL_isRung_81 : decode cL_isRung 81 = .ok (.isub, 1) := by decide +kernel
theorem dL_isRung_82 : decode cL_isRung 82 = .ok (.if_icmp .ne 91, 3) := by decide +kernel
theorem dL_isRung_85 : decode cL_isRung 85 = .ok (.iconst 1, 1) := by decide +kernel
theorem dL_isRung_86 : decode cL_isRung 86 = .ok (.aload_n 0, 1) := by decide +kernel
theorem dL_isRung_87 : decode cL_isRung 87 = .ok (.iload_n 1, 1) := by decide +kernel
theorem dL_isRung_88 : decode cL_isRung 88 = .ok (.iconst 5, 1) := by decide +kernel
theorem dL_isRung_89 : decode cL_isRung 89 = .ok (.invokevirtual 81, 3) := by decide +kernel
theorem dL_isRung_92 : decode cL_isRung 92 = .ok (.ishl, 1) := by decide +kernel
theorem dL_isRung_93 : decode cL_isRung 93 = .ok (.iload_n 2, 1) := by decide +kernel
theorem dL_isRung_94 : decode cL_isRung 94 = .ok (.if_icmp .ne 79, 3) := by decide +kernel
theorem dL_isRung_97 : decode cL_isRung 97 = .ok (.iload 4, 2) := by decide +kernel
theorem dL_isRung_99 : decode cL_isRung 99 = .ok (.ifCond .ne 11, 3) := by decide +kernel
theorem dL_isRung_102 : decode cL_isRung 102 = .ok (.iload_n 3, 1) := by decide +kernel
theorem dL_isRung_103 : decode cL_isRung 103 = .ok (.bipush 100, 2) := by decide +kernel
theorem dL_isRung_105 : decode cL_isRung 105 = .ok (.iload_n 2, 1) := by decide +kernel
theorem dL_isRung_106 : decode cL_isRung 106 = .ok (.imul, 1) := by decide +kernel
theorem dL_isRung_107 : decode cL_isRung 107 = .ok (.if_icmp .gt 66, 3) := by decide +kernel
theorem dL_isRung_110 : decode cL_isRung 110 = .ok (.aload_n 0, 1) := by decide +kernel
theorem dL_isRung_111 : decode cL_isRung 111 = .ok (.iload 5, 2) := by decide +kernel
theorem dL_isRung_113 : decode cL_isRung 113 = .ok (.iconst 1, 1) := by decide +kernel
theorem dL_isRung_114 : decode cL_isRung 114 = .ok (.isub, 1) := by decide +kernel
theorem dL_isRung_115 : decode cL_isRung 115 = .ok (.invokevirtual 107, 3) := by decide +kernel
theorem dL_isRung_118 : decode cL_isRung 118 = .ok (.bipush 33, 2) := by decide +kernel
theorem dL_isRung_120 : decode cL_isRung 120 = .ok (.if_icmp .ne 7, 3) := by decide +kernel
theorem dL_isRung_123 : decode cL_isRung 123 = .ok (.iconst 1, 1) := by decide +kernel
theorem dL_isRung_124 : decode cL_isRung 124 = .ok (.goto 4, 3) := by decide +kernel
theorem dL_isRung_127 : decode cL_isRung 127 = .ok (.iconst 0, 1) := by decide +kernel
theorem dL_isRung_128 : decode cL_isRung 128 = .ok (.iload 4, 2) := by decide +kernel
theorem dL_isRung_130 : decode cL_isRung 130 = .ok (.if_icmp .ne 43, 3) := by decide +kernel
theorem dL_isRung_133 : decode cL_isRung 133 = .ok (.aload_n 0, 1) := by decide +kernel
theorem dL_isRung_134 : decode cL_isRung 134 = .ok (.iload 5, 2) := by decide +kernel
theorem dL_isRung_136 : decode cL_isRung 136 = .ok (.invokevirtual 107, 3) := by decide +kernel
theorem dL_isRung_139 : decode cL_isRung 139 = .ok (.bipush (-11), 2) := by decide +kernel
theorem dL_isRung_141 : decode cL_isRung 141 = .ok (.if_icmp .ne 32, 3) := by decide +kernel
theorem dL_isRung_144 : decode cL_isRung 144 = .ok (.aload_n 0, 1) := by decide +kernel
theorem dL_isRung_145 : decode cL_isRung 145 = .ok (.iconst 0, 1) := by decide +kernel
theorem dL_isRung_146 : decode cL_isRung 146 = .ok (.invokevirtual 107, 3) := by decide +kernel
theorem dL_isRung_149 : decode cL_isRung 149 = .ok (.bipush 48, 2) := by decide +kernel
theorem dL_isRung_151 : decode cL_isRung 151 = .ok (.iload_n 1, 1) := by decide +kernel
theorem dL_isRung_152 : decode cL_isRung 152 = .ok (.bipush 9, 2) := by decide +kernel
theorem dL_isRung_154 : decode cL_isRung 154 = .ok (.if_icmp .le 10, 3) := by decide +kernel
theorem dL_isRung_157 : decode cL_isRung 157 = .ok (.iload_n 1, 1) := by decide +kernel
theorem dL_isRung_158 : decode cL_isRung 158 = .ok (.bipush 10, 2) := by decide +kernel
theorem dL_isRung_160 : decode cL_isRung 160 = .ok (.idiv, 1) := by decide +kernel
theorem dL_isRung_161 : decode cL_isRung 161 = .ok (.goto 4, 3) := by decide +kernel
theorem dL_isRung_164 : decode cL_isRung 164 = .ok (.iload_n 1, 1) := by decide +kernel
theorem dL_isRung_165 : decode cL_isRung 165 = .ok (.iadd, 1) := by decide +kernel
theorem dL_isRung_166 : decode cL_isRung 166 = .ok (.if_icmp .ne 7, 3) := by decide +kernel
theorem dL_isRung_169 : decode cL_isRung 169 = .ok (.iconst 1, 1) := by decide +kernel
theorem dL_isRung_170 : decode cL_isRung 170 = .ok (.goto 4, 3) := by decide +kernel
theorem dL_isRung_173 : decode cL_isRung 173 = .ok (.iconst 0, 1) := by decide +kernel
theorem dL_isRung_174 : decode cL_isRung 174 = .ok (.ireturn, 1) := by decide +kernel
theorem dL_areRanks_0 : decode cL_areRanks 0 = .ok (.aload_n 0, 1) := by decide +kernel
theorem dL_areRanks_1 : decode cL_areRanks 1 = .ok (.iconst 2, 1) := by decide +kernel
theorem dL_areRanks_2 : decode cL_areRanks 2 = .ok (.invokevirtual 75, 3) := by decide +kernel
theorem dL_areRanks_5 : decode cL_areRanks 5 = .ok (.istore_n 1, 1) := by decide +kernel
theorem dL_areRanks_6 : decode cL_areRanks 6 = .ok (.aload_n 0, 1) := by decide +kernel
theorem dL_areRanks_7 : decode cL_areRanks 7 = .ok (.iload_n 1, 1) := by decide +kernel
theorem dL_areRanks_8 : decode cL_areRanks 8 = .ok (.invokevirtual 110, 3) := by decide +kernel
theorem dL_areRanks_11 : decode cL_areRanks 11 = .ok (.bipush (-11), 2) := by decide +kernel
theorem dL_areRanks_13 : decode cL_areRanks 13 = .ok (.if_icmp .ne 17, 3) := by decide +kernel
theorem dL_areRanks_16 : decode cL_areRanks 16 = .ok (.aload_n 0, 1) := by decide +kernel
theorem dL_areRanks_17 : decode cL_areRanks 17 = .ok (.iconst (-1), 1) := by decide +kernel
theorem dL_areRanks_18 : decode cL_areRanks 18 = .ok (.invokevirtual 110, 3) := by decide +kernel
theorem dL_areRanks_21 : decode cL_areRanks 21 = .ok (.bipush (-11), 2) := by decide +kernel
theorem dL_areRanks_23 : decode cL_areRanks 23 = .ok (.if_icmp .ne 7, 3) := by decide +kernel
theorem dL_areRanks_26 : decode cL_areRanks 26 = .ok (.iconst 1, 1) := by decide +kernel
theorem dL_areRanks_27 : decode cL_areRanks 27 = .ok (.goto 4, 3) := by decide +kernel
theorem dL_areRanks_30 : decode cL_areRanks 30 = .ok (.iconst 0, 1) := by decide +kernel
theorem dL_areRanks_31 : decode cL_areRanks 31 = .ok (.istore_n 2, 1) := by decide +kernel
theorem dL_areRanks_32 : decode cL_areRanks 32 = .ok (.iconst 1, 1) := by decide +kernel
theorem dL_areRanks_33 : decode cL_areRanks 33 = .ok (.istore_n 3, 1) := by decide +kernel
theorem dL_areRanks_34 : decode cL_areRanks 34 = .ok (.iload_n 2, 1) := by decide +kernel
theorem dL_areRanks_35 : decode cL_areRanks 35 = .ok (.ifCond .eq 97, 3) := by decide +kernel
theorem dL_areRanks_38 : decode cL_areRanks 38 = .ok (.iload_n 3, 1) := by decide +kernel
theorem dL_areRanks_39 : decode cL_areRanks 39 = .ok (.iload_n 1, 1) := by decide +kernel
theorem dL_areRanks_40 : decode cL_areRanks 40 = .ok (.if_icmp .ge 92, 3) := by decide +kernel
theorem dL_areRanks_43 : decode cL_areRanks 43 = .ok (.aload_n 0, 1) := by decide +kernel
theorem dL_areRanks_44 : decode cL_areRanks 44 = .ok (.iload_n 3, 1) := by decide +kernel
theorem dL_areRanks_45 : decode cL_areRanks 45 = .ok (.iconst 1, 1) := by decide +kernel
theorem dL_areRanks_46 : decode cL_areRanks 46 = .ok (.isub, 1) := by decide +kernel
theorem dL_areRanks_47 : decode cL_areRanks 47 = .ok (.invokevirtual 110, 3) := by decide +kernel
theorem dL_areRanks_50 : decode cL_areRanks 50 = .ok (.istore 4, 2) := by decide +kernel
theorem dL_areRanks_52 : decode cL_areRanks 52 = .ok (.aload_n 0, 1) := by decide +kernel
theorem dL_areRanks_53 : decode cL_areRanks 53 = .ok (.iload_n 3, 1) := by decide +kernel
theorem dL_areRanks_54 : decode cL_areRanks 54 = .ok (.invokevirtual 110, 3) := by decide +kernel
theorem dL_areRanks_57 : decode cL_areRanks 57 = .ok (.istore 5, 2) := by decide +kernel
theorem dL_areRanks_59 : decode cL_areRanks 59 = .ok (.aload_n 0, 1) := by decide +kernel
theorem dL_areRanks_60 : decode cL_areRanks 60 = .ok (.iload 4, 2) := by decide +kernel
theorem dL_areRanks_62 : decode cL_areRanks 62 = .ok (.iconst 2, 1) := by decide +kernel
theorem dL_areRanks_63 : decode cL_areRanks 63 = .ok (.invokevirtual 78, 3) := by decide +kernel
theorem dL_areRanks_66 : decode cL_areRanks 66 = .ok (.aload_n 0, 1) := by decide +kernel
theorem dL_areRanks_67 : decode cL_areRanks 67 = .ok (.iload 5, 2) := by decide +kernel
theorem dL_areRanks_69 : decode cL_areRanks 69 = .ok (.iconst 2, 1) := by decide +kernel
theorem dL_areRanks_70 : decode cL_areRanks 70 = .ok (.invokevirtual 78, 3) := by decide +kernel
theorem dL_areRanks_73 : decode cL_areRanks 73 = .ok (.isub, 1) := by decide +kernel
theorem dL_areRanks_74 : decode cL_areRanks 74 = .ok (.istore 6, 2) := by decide +kernel
theorem dL_areRanks_76 : decode cL_areRanks 76 = .ok (.aload_n 0, 1) := by decide +kernel
theorem dL_areRanks_77 : decode cL_areRanks 77 = .ok (.iload 4, 2) := by decide +kernel
theorem dL_areRanks_79 : decode cL_areRanks 79 = .ok (.iconst 1, 1) := by decide +kernel
theorem dL_areRanks_80 : decode cL_areRanks 80 = .ok (.invokevirtual 78, 3) := by decide +kernel
theorem dL_areRanks_83 : decode cL_areRanks 83 = .ok (.aload_n 0, 1) := by decide +kernel
theorem dL_areRanks_84 : decode cL_areRanks 84 = .ok (.iload 5, 2) := by decide +kernel
theorem dL_areRanks_86 : decode cL_areRanks 86 = .ok (.iconst 1, 1) := by decide +kernel
theorem dL_areRanks_87 : decode cL_areRanks 87 = .ok (.invokevirtual 78, 3) := by decide +kernel
theorem dL_areRanks_90 : decode cL_areRanks 90 = .ok (.isub, 1) := by decide +kernel
theorem dL_areRanks_91 : decode cL_areRanks 91 = .ok (.istore 7, 2) := by decide +kernel
theorem dL_areRanks_93 : decode cL_areRanks 93 = .ok (.iload 6, 2) := by decide +kernel
theorem dL_areRanks_95 : decode cL_areRanks 95 = .ok (.ifCond .gt 25, 3) := by decide +kernel
theorem dL_areRanks_98 : decode cL_areRanks 98 = .ok (.iload 6, 2) := by decide +kernel
theorem dL_areRanks_100 : decode cL_areRanks 100 = .ok (.ifCond .ne 24, 3) := by decide +kernel
theorem dL_areRanks_103 : decode cL_areRanks 103 = .ok (.iload 7, 2) := by decide +kernel
theorem dL_areRanks_105 : decode cL_areRanks 105 = .ok (.ifCond .gt 15, 3) := by decide +kernel
theorem dL_areRanks_108 : decode cL_areRanks 108 = .ok (.iload 7, 2) := by decide +kernel
theorem dL_areRanks_110 : decode cL_areRanks 110 = .ok (.ifCond .ne 14, 3) := by decide +kernel
theorem dL_areRanks_113 : decode cL_areRanks 113 = .ok (.iload 4, 2) := by decide +kernel
theorem dL_areRanks_115 : decode cL_areRanks 115 = .ok (.iload 5, 2) := by decide +kernel
theorem dL_areRanks_117 : decode cL_areRanks 117 = .ok (.if_icmp .ge 7, 3) := by decide +kernel
theorem dL_areRanks_120 : decode cL_areRanks 120 = .ok (.iconst 1, 1) := by decide +kernel
theorem dL_areRanks_121 : decode cL_areRanks 121 = .ok (.goto 4, 3) := by decide +kernel
theorem dL_areRanks_124 : decode cL_areRanks 124 = .ok (.iconst 0, 1) := by decide +kernel
theorem dL_areRanks_125 : decode cL_areRanks 125 = .ok (.istore_n 2, 1) := by decide +kernel
theorem dL_areRanks_126 : decode cL_areRanks 126 = .ok (.iinc 3 1, 3) := by decide +kernel
theorem dL_areRanks_129 : decode cL_areRanks 129 = .ok (.goto (-95), 3) := by decide +kernel
theorem dL_areRanks_132 : decode cL_areRanks 132 = .ok (.aload_n 0, 1) := by decide +kernel
theorem dL_areRanks_133 : decode cL_areRanks 133 = .ok (.invokevirtual 113, 3) := by decide +kernel
theorem dL_areRanks_136 : decode cL_areRanks 136 = .ok (.istore_n 3, 1) := by decide +kernel
theorem dL_areRanks_137 : decode cL_areRanks 137 = .ok (.iconst 1, 1) := by decide +kernel
theorem dL_areRanks_138 : decode cL_areRanks 138 = .ok (.istore 4, 2) := by decide +kernel
theorem dL_areRanks_140 : decode cL_areRanks 140 = .ok (.iload_n 2, 1) := by decide +kernel
theorem dL_areRanks_141 : decode cL_areRanks 141 = .ok (.ifCond .eq 74, 3) := by decide +kernel
theorem dL_areRanks_144 : decode cL_areRanks 144 = .ok (.iload 4, 2) := by decide +kernel
theorem dL_areRanks_146 : decode cL_areRanks 146 = .ok (.bipush 33, 2) := by decide +kernel
theorem dL_areRanks_148 : decode cL_areRanks 148 = .ok (.if_icmp .ge 67, 3) := by decide +kernel
theorem dL_areRanks_151 : decode cL_areRanks 151 = .ok (.aload_n 0, 1) := by decide +kernel
theorem dL_areRanks_152 : decode cL_areRanks 152 = .ok (.iload 4, 2) := by decide +kernel
theorem dL_areRanks_154 : decode cL_areRanks 154 = .ok (.iconst 2, 1) := by decide +kernel
theorem dL_areRanks_155 : decode cL_areRanks 155 = .ok (.invokevirtual 81, 3) := by decide +kernel
theorem dL_areRanks_158 : decode cL_areRanks 158 = .ok (.aload_n 0, 1) := by decide +kernel
theorem dL_areRanks_159 : decode cL_areRanks 159 = .ok (.iload 4, 2) := by decide +kernel
theorem dL_areRanks_161 : decode cL_areRanks 161 = .ok (.iconst 1, 1) := by decide +kernel
theorem dL_areRanks_162 : decode cL_areRanks 162 = .ok (.invokevirtual 81, 3) := by decide +kernel
theorem dL_areRanks_165 : decode cL_areRanks 165 = .ok (.isub, 1) := by decide +kernel
theorem dL_areRanks_166 : decode cL_areRanks 166 = .ok (.istore 5, 2) := by decide +kernel
theorem dL_areRanks_168 : decode cL_areRanks 168 = .ok (.aload_n 0, 1) := by decide +kernel
theorem dL_areRanks_169 : decode cL_areRanks 169 = .ok (.iload 4, 2) := by decide +kernel
theorem dL_areRanks_171 : decode cL_areRanks 171 = .ok (.iconst 3, 1) := by decide +kernel
theorem dL_areRanks_172 : decode cL_areRanks 172 = .ok (.invokevirtual 81, 3) := by decide +kernel
theorem dL_areRanks_175 : decode cL_areRanks 175 = .ok (.iconst 1, 1) := by decide +kernel
theorem dL_areRanks_176 : decode cL_areRanks 176 = .ok (.if_icmp .eq 27, 3) := by decide +kernel
theorem dL_areRanks_179 : decode cL_areRanks 179 = .ok (.iload_n 3, 1) := by decide +kernel
theorem dL_areRanks_180 : decode cL_areRanks 180 = .ok (.bipush (-15), 2) := by decide +kernel
theorem dL_areRanks_182 : decode cL_areRanks 182 = .ok (.if_icmp .eq 25, 3) := by decide +kernel
theorem dL_areRanks_185 : decode cL_areRanks 185 = .ok (.iload 5, 2) := by decide +kernel
theorem dL_areRanks_187 : decode cL_areRanks 187 = .ok (.aload_n 0, 1) := by decide +kernel
theorem dL_areRanks_188 : decode cL_areRanks 188 = .ok (.iload_n 3, 1) := by decide +kernel
theorem dL_areRanks_189 : decode cL_areRanks 189 = .ok (.iconst 2, 1) := by decide +kernel
theorem dL_areRanks_190 : decode cL_areRanks 190 = .ok (.invokevirtual 81, 3) := by decide +kernel
theorem dL_areRanks_193 : decode cL_areRanks 193 = .ok (.aload_n 0, 1) := by decide +kernel
theorem dL_areRanks_194 : decode cL_areRanks 194 = .ok (.iload_n 3, 1) := by decide +kernel
theorem dL_areRanks_195 : decode cL_areRanks 195 = .ok (.iconst 1, 1) := by decide +kernel
theorem dL_areRanks_196 : decode cL_areRanks 196 = .ok (.invokevirtual 81, 3) := by decide +kernel
theorem dL_areRanks_199 : decode cL_areRanks 199 = .ok (.isub, 1) := by decide +kernel
theorem dL_areRanks_200 : decode cL_areRanks 200 = .ok (.if_icmp .lt 7, 3) := by decide +kernel
theorem dL_areRanks_203 : decode cL_areRanks 203 = .ok (.iconst 1, 1) := by decide +kernel
theorem dL_areRanks_204 : decode cL_areRanks 204 = .ok (.goto 4, 3) := by decide +kernel
theorem dL_areRanks_207 : decode cL_areRanks 207 = .ok (.iconst 0, 1) := by decide +kernel
theorem dL_areRanks_208 : decode cL_areRanks 208 = .ok (.istore_n 2, 1) := by decide +kernel
theorem dL_areRanks_209 : decode cL_areRanks 209 = .ok (.iinc 4 1, 3) := by decide +kernel
theorem dL_areRanks_212 : decode cL_areRanks 212 = .ok (.goto (-72), 3) := by decide +kernel
theorem dL_areRanks_215 : decode cL_areRanks 215 = .ok (.iload_n 2, 1) := by decide +kernel
theorem dL_areRanks_216 : decode cL_areRanks 216 = .ok (.ifCond .eq 54, 3) := by decide +kernel
theorem dL_areRanks_219 : decode cL_areRanks 219 = .ok (.iload_n 1, 1) := by decide +kernel
theorem dL_areRanks_220 : decode cL_areRanks 220 = .ok (.ifCond .ne 7, 3) := by decide +kernel
theorem dL_areRanks_223 : decode cL_areRanks 223 = .ok (.iconst 1, 1) := by decide +kernel
theorem dL_areRanks_224 : decode cL_areRanks 224 = .ok (.goto 4, 3) := by decide +kernel
theorem dL_areRanks_227 : decode cL_areRanks 227 = .ok (.iconst 0, 1) := by decide +kernel
theorem dL_areRanks_228 : decode cL_areRanks 228 = .ok (.aload_n 0, 1) := by decide +kernel
theorem dL_areRanks_229 : decode cL_areRanks 229 = .ok (.invokevirtual 116, 3) := by decide +kernel
theorem dL_areRanks_232 : decode cL_areRanks 232 = .ok (.bipush (-15), 2) := by decide +kernel
theorem dL_areRanks_234 : decode cL_areRanks 234 = .ok (.if_icmp .ne 7, 3) := by decide +kernel
theorem dL_areRanks_237 : decode cL_areRanks 237 = .ok (.iconst 1, 1) := by decide +kernel
theorem dL_areRanks_238 : decode cL_areRanks 238 = .ok (.goto 4, 3) := by decide +kernel
theorem dL_areRanks_241 : decode cL_areRanks 241 = .ok (.iconst 0, 1) := by decide +kernel
theorem dL_areRanks_242 : decode cL_areRanks 242 = .ok (.if_icmp .ne 28, 3) := by decide +kernel
theorem dL_areRanks_245 : decode cL_areRanks 245 = .ok (.aload_n 0, 1) := by decide +kernel
theorem dL_areRanks_246 : decode cL_areRanks 246 = .ok (.invokevirtual 119, 3) := by decide +kernel
theorem dL_areRanks_249 : decode cL_areRanks 249 = .ok (.bipush 32, 2) := by decide +kernel
theorem dL_areRanks_251 : decode cL_areRanks 251 = .ok (.aload_n 0, 1) := by decide +kernel
theorem dL_areRanks_252 : decode cL_areRanks 252 = .ok (.bipush 13, 2) := by decide +kernel
theorem dL_areRanks_254 : decode cL_areRanks 254 = .ok (.invokevirtual 75, 3) := by decide +kernel
theorem dL_areRanks_257 : decode cL_areRanks 257 = .ok (.isub, 1) := by decide +kernel
theorem dL_areRanks_258 : decode cL_areRanks 258 = .ok (.i2f, 1) := by decide +kernel
theorem dL_areRanks_259 : decode cL_areRanks 259 = .ok (.ldc 123, 2) := by decide +kernel
theorem dL_areRanks_261 : decode cL_areRanks 261 = .ok (.fdiv, 1) := by decide +kernel
theorem dL_areRanks_262 : decode cL_areRanks 262 = .ok (.fcmp .l, 1) := by decide +kernel
theorem dL_areRanks_263 : decode cL_areRanks 263 = .ok (.ifCond .ne 7, 3) := by decide +kernel
theorem dL_areRanks_266 : decode cL_areRanks 266 = .ok (.iconst 1, 1) := by decide +kernel
theorem dL_areRanks_267 : decode cL_areRanks 267 = .ok (.goto 4, 3) := by decide +kernel
theorem dL_areRanks_270 : decode cL_areRanks 270 = .ok (.iconst 0, 1) := by decide +kernel
theorem dL_areRanks_271 : decode cL_areRanks 271 = .ok (.ireturn, 1) := by decide +kernel
theorem dL_areReached_0 : decode cL_areReached 0 = .ok (.aload_n 0, 1) := by decide +kernel
theorem dL_areReached_1 : decode cL_areReached 1 = .ok (.iconst 3, 1) := by decide +kernel
theorem dL_areReached_2 : decode cL_areReached 2 = .ok (.invokevirtual 75, 3) := by decide +kernel
theorem dL_areReached_5 : decode cL_areReached 5 = .ok (.istore_n 1, 1) := by decide +kernel
theorem dL_areReached_6 : decode cL_areReached 6 = .ok (.aload_n 0, 1) := by decide +kernel
theorem dL_areReached_7 : decode cL_areReached 7 = .ok (.iload_n 1, 1) := by decide +kernel
theorem dL_areReached_8 : decode cL_areReached 8 = .ok (.iconst 1, 1) := by decide +kernel
theorem dL_areReached_9 : decode cL_areReached 9 = .ok (.iadd, 1) := by decide +kernel
theorem dL_areReached_10 : decode cL_areReached 10 = .ok (.invokevirtual 124, 3) := by decide +kernel
theorem dL_areReached_13 : decode cL_areReached 13 = .ok (.bipush (-15), 2) := by decide +kernel
theorem dL_areReached_15 : decode cL_areReached 15 = .ok (.if_icmp .ne 19, 3) := by decide +kernel
theorem dL_areReached_18 : decode cL_areReached 18 = .ok (.aload_n 0, 1) := by decide +kernel
theorem dL_areReached_19 : decode cL_areReached 19 = .ok (.iload_n 1, 1) := by decide +kernel
theorem dL_areReached_20 : decode cL_areReached 20 = .ok (.iconst 1, 1) := by decide +kernel
theorem dL_areReached_21 : decode cL_areReached 21 = .ok (.iadd, 1) := by decide +kernel
theorem dL_areReached_22 : decode cL_areReached 22 = .ok (.invokevirtual 127, 3) := by decide +kernel
theorem dL_areReached_25 : decode cL_areReached 25 = .ok (.bipush (-15), 2) := by decide +kernel
theorem dL_areReached_27 : decode cL_areReached 27 = .ok (.if_icmp .ne 7, 3) := by decide +kernel
theorem dL_areReached_30 : decode cL_areReached 30 = .ok (.iconst 1, 1) := by decide +kernel
theorem dL_areReached_31 : decode cL_areReached 31 = .ok (.goto 4, 3) := by decide +kernel
theorem dL_areReached_34 : decode cL_areReached 34 = .ok (.iconst 0, 1) := by decide +kernel
theorem dL_areReached_35 : decode cL_areReached 35 = .ok (.istore_n 2, 1) := by decide +kernel
theorem dL_areReached_36 : decode cL_areReached 36 = .ok (.iconst 1, 1) := by decide +kernel
theorem dL_areReached_37 : decode cL_areReached 37 = .ok (.istore_n 3, 1) := by decide +kernel
theorem dL_areReached_38 : decode cL_areReached 38 = .ok (.iload_n 2, 1) := by decide +kernel
theorem dL_areReached_39 : decode cL_areReached 39 = .ok (.ifCond .eq 87, 3) := by decide +kernel
theorem dL_areReached_42 : decode cL_areReached 42 = .ok (.iload_n 3, 1) := by decide +kernel
theorem dL_areReached_43 : decode cL_areReached 43 = .ok (.bipush 9, 2) := by decide +kernel
theorem dL_areReached_45 : decode cL_areReached 45 = .ok (.if_icmp .ge 81, 3) := by decide +kernel
theorem dL_areReached_48 : decode cL_areReached 48 = .ok (.iload_n 1, 1) := by decide +kernel
theorem dL_areReached_49 : decode cL_areReached 49 = .ok (.ifCond .le 77, 3) := by decide +kernel
theorem dL_areReached_52 : decode cL_areReached 52 = .ok (.iconst 1, 1) := by decide +kernel
theorem dL_areReached_53 : decode cL_areReached 53 = .ok (.iload_n 1, 1) := by decide +kernel
theorem dL_areReached_54 : decode cL_areReached 54 = .ok (.iconst 1, 1) := by decide +kernel
theorem dL_areReached_55 : decode cL_areReached 55 = .ok (.isub, 1) := by decide +kernel
theorem dL_areReached_56 : decode cL_areReached 56 = .ok (.iload_n 3, 1) := by decide +kernel
theorem dL_areReached_57 : decode cL_areReached 57 = .ok (.imul, 1) := by decide +kernel
theorem dL_areReached_58 : decode cL_areReached 58 = .ok (.bipush 8, 2) := by decide +kernel
theorem dL_areReached_60 : decode cL_areReached 60 = .ok (.idiv, 1) := by decide +kernel
theorem dL_areReached_61 : decode cL_areReached 61 = .ok (.iadd, 1) := by decide +kernel
theorem dL_areReached_62 : decode cL_areReached 62 = .ok (.istore 4, 2) := by decide +kernel
theorem dL_areReached_64 : decode cL_areReached 64 = .ok (.aload_n 0, 1) := by decide +kernel
theorem dL_areReached_65 : decode cL_areReached 65 = .ok (.iload 4, 2) := by decide +kernel
theorem dL_areReached_67 : decode cL_areReached 67 = .ok (.invokevirtual 124, 3) := by decide +kernel
theorem dL_areReached_70 : decode cL_areReached 70 = .ok (.istore 5, 2) := by decide +kernel
theorem dL_areReached_72 : decode cL_areReached 72 = .ok (.iload 5, 2) := by decide +kernel
theorem dL_areReached_74 : decode cL_areReached 74 = .ok (.aload_n 0, 1) := by decide +kernel
theorem dL_areReached_75 : decode cL_areReached 75 = .ok (.iload 4, 2) := by decide +kernel
theorem dL_areReached_77 : decode cL_areReached 77 = .ok (.invokevirtual 127, 3) := by decide +kernel
theorem dL_areReached_80 : decode cL_areReached 80 = .ok (.if_icmp .ne 38, 3) := by decide +kernel
theorem dL_areReached_83 : decode cL_areReached 83 = .ok (.aload_n 0, 1) := by decide +kernel
theorem dL_areReached_84 : decode cL_areReached 84 = .ok (.iconst 0, 1) := by decide +kernel
theorem dL_areReached_85 : decode cL_areReached 85 = .ok (.iload 5, 2) := by decide +kernel
theorem dL_areReached_87 : decode cL_areReached 87 = .ok (.invokevirtual 98, 3) := by decide +kernel
theorem dL_areReached_90 : decode cL_areReached 90 = .ok (.iload 4, 2) := by decide +kernel
theorem dL_areReached_92 : decode cL_areReached 92 = .ok (.if_icmp .lt 26, 3) := by decide +kernel
theorem dL_areReached_95 : decode cL_areReached 95 = .ok (.iload 5, 2) := by decide +kernel
theorem dL_areReached_97 : decode cL_areReached 97 = .ok (.ifCond .eq 17, 3) := by decide +kernel
theorem dL_areReached_100 : decode cL_areReached 100 = .ok (.aload_n 0, 1) := by decide +kernel
theorem dL_areReached_101 : decode cL_areReached 101 = .ok (.iconst 0, 1) := by decide +kernel
theorem dL_areReached_102 : decode cL_areReached 102 = .ok (.iload 5, 2) := by decide +kernel
theorem dL_areReached_104 : decode cL_areReached 104 = .ok (.iconst 1, 1) := by decide +kernel
theorem dL_areReached_105 : decode cL_areReached 105 = .ok (.isub, 1) := by decide +kernel
theorem dL_areReached_106 : decode cL_areReached 106 = .ok (.invokevirtual 98, 3) := by decide +kernel
theorem dL_areReached_109 : decode cL_areReached 109 = .ok (.iload 4, 2) := by decide +kernel
theorem dL_areReached_111 : decode cL_areReached 111 = .ok (.if_icmp .ge 7, 3) := by decide +kernel
theorem dL_areReached_114 : decode cL_areReached 114 = .ok (.iconst 1, 1) := by decide +kernel
theorem dL_areReached_115 : decode cL_areReached 115 = .ok (.goto 4, 3) := by decide +kernel
theorem dL_areReached_118 : decode cL_areReached 118 = .ok (.iconst 0, 1) := by decide +kernel
theorem dL_areReached_119 : decode cL_areReached 119 = .ok (.istore_n 2, 1) := by decide +kernel
theorem dL_areReached_120 : decode cL_areReached 120 = .ok (.iinc 3 1, 3) := by decide +kernel
theorem dL_areReached_123 : decode cL_areReached 123 = .ok (.goto (-85), 3) := by decide +kernel
theorem dL_areReached_126 : decode cL_areReached 126 = .ok (.iload_n 2, 1) := by decide +kernel
theorem dL_areReached_127 : decode cL_areReached 127 = .ok (.ireturn, 1) := by decide +kernel
theorem dL_isFit_0 : decode cL_isFit 0 = .ok (.iconst 0, 1) := by decide +kernel
theorem dL_isFit_1 : decode cL_isFit 1 = .ok (.istore_n 1, 1) := by decide +kernel
theorem dL_isFit_2 : decode cL_isFit 2 = .ok (.iconst 0, 1) := by decide +kernel
theorem dL_isFit_3 : decode cL_isFit 3 = .ok (.istore_n 2, 1) := by decide +kernel
theorem dL_isFit_4 : decode cL_isFit 4 = .ok (.iconst 0, 1) := by decide +kernel
theorem dL_isFit_5 : decode cL_isFit 5 = .ok (.istore_n 3, 1) := by decide +kernel
theorem dL_isFit_6 : decode cL_isFit 6 = .ok (.aload_n 0, 1) := by decide +kernel
theorem dL_isFit_7 : decode cL_isFit 7 = .ok (.invokestatic 130, 3) := by decide +kernel
theorem dL_isFit_10 : decode cL_isFit 10 = .ok (.ifCond .eq 22, 3) := by decide +kernel
theorem dL_isFit_13 : decode cL_isFit 13 = .ok (.aload_n 0, 1) := by decide +kernel
theorem dL_isFit_14 : decode cL_isFit 14 = .ok (.invokestatic 134, 3) := by decide +kernel
theorem dL_isFit_17 : decode cL_isFit 17 = .ok (.ifCond .eq 15, 3) := by decide +kernel
theorem dL_isFit_20 : decode cL_isFit 20 = .ok (.aload_n 0, 1) := by decide +kernel
theorem dL_isFit_21 : decode cL_isFit 21 = .ok (.invokevirtual 137, 3) := by decide +kernel
theorem dL_isFit_24 : decode cL_isFit 24 = .ok (.iconst 1, 1) := by decide +kernel
theorem dL_isFit_25 : decode cL_isFit 25 = .ok (.if_icmp .ne 7, 3) := by decide +kernel
theorem dL_isFit_28 : decode cL_isFit 28 = .ok (.iconst 1, 1) := by decide +kernel
theorem dL_isFit_29 : decode cL_isFit 29 = .ok (.goto 4, 3) := by decide +kernel
theorem dL_isFit_32 : decode cL_isFit 32 = .ok (.iconst 0, 1) := by decide +kernel
theorem dL_isFit_33 : decode cL_isFit 33 = .ok (.istore 4, 2) := by decide +kernel
theorem dL_isFit_35 : decode cL_isFit 35 = .ok (.iconst 0, 1) := by decide +kernel
theorem dL_isFit_36 : decode cL_isFit 36 = .ok (.istore 5, 2) := by decide +kernel
theorem dL_isFit_38 : decode cL_isFit 38 = .ok (.iload 4, 2) := by decide +kernel
theorem dL_isFit_40 : decode cL_isFit 40 = .ok (.ifCond .eq 52, 3) := by decide +kernel
theorem dL_isFit_43 : decode cL_isFit 43 = .ok (.iload 5, 2) := by decide +kernel
theorem dL_isFit_45 : decode cL_isFit 45 = .ok (.bipush 32, 2) := by decide +kernel
theorem dL_isFit_47 : decode cL_isFit 47 = .ok (.if_icmp .ge 45, 3) := by decide +kernel
theorem dL_isFit_50 : decode cL_isFit 50 = .ok (.iload_n 1, 1) := by decide +kernel
theorem dL_isFit_51 : decode cL_isFit 51 = .ok (.aload_n 0, 1) := by decide +kernel
theorem dL_isFit_52 : decode cL_isFit 52 = .ok (.iload 5, 2) := by decide +kernel
theorem dL_isFit_54 : decode cL_isFit 54 = .ok (.iconst 1, 1) := by decide +kernel
theorem dL_isFit_55 : decode cL_isFit 55 = .ok (.invokevirtual 78, 3) := by decide +kernel
theorem dL_isFit_58 : decode cL_isFit 58 = .ok (.iadd, 1) := by decide +kernel
theorem dL_isFit_59 : decode cL_isFit 59 = .ok (.istore_n 1, 1) := by decide +kernel
theorem dL_isFit_60 : decode cL_isFit 60 = .ok (.iload_n 2, 1) := by decide +kernel
theorem dL_isFit_61 : decode cL_isFit 61 = .ok (.aload_n 0, 1) := by decide +kernel
theorem dL_isFit_62 : decode cL_isFit 62 = .ok (.iload 5, 2) := by decide +kernel
theorem dL_isFit_64 : decode cL_isFit 64 = .ok (.iconst 1, 1) := by decide +kernel
theorem dL_isFit_65 : decode cL_isFit 65 = .ok (.invokevirtual 78, 3) := by decide +kernel
theorem dL_isFit_68 : decode cL_isFit 68 = .ok (.ifCond .le 7, 3) := by decide +kernel
theorem dL_isFit_71 : decode cL_isFit 71 = .ok (.iconst 1, 1) := by decide +kernel
theorem dL_isFit_72 : decode cL_isFit 72 = .ok (.goto 4, 3) := by decide +kernel
theorem dL_isFit_75 : decode cL_isFit 75 = .ok (.iconst 0, 1) := by decide +kernel
theorem dL_isFit_76 : decode cL_isFit 76 = .ok (.iadd, 1) := by decide +kernel
theorem dL_isFit_77 : decode cL_isFit 77 = .ok (.istore_n 2, 1) := by decide +kernel
theorem dL_isFit_78 : decode cL_isFit 78 = .ok (.aload_n 0, 1) := by decide +kernel
theorem dL_isFit_79 : decode cL_isFit 79 = .ok (.iload 5, 2) := by decide +kernel
theorem dL_isFit_81 : decode cL_isFit 81 = .ok (.invokestatic 140, 3) := by decide +kernel
theorem dL_isFit_84 : decode cL_isFit 84 = .ok (.istore 4, 2) := by decide +kernel
theorem dL_isFit_86 : decode cL_isFit 86 = .ok (.iinc 5 1, 3) := by decide +kernel
theorem dL_isFit_89 : decode cL_isFit 89 = .ok (.goto (-51), 3) := by decide +kernel
theorem dL_isFit_92 : decode cL_isFit 92 = .ok (.iconst 1, 1) := by decide +kernel
theorem dL_isFit_93 : decode cL_isFit 93 = .ok (.istore 5, 2) := by decide +kernel
theorem dL_isFit_95 : decode cL_isFit 95 = .ok (.iload 4, 2) := by decide +kernel
theorem dL_isFit_97 : decode cL_isFit 97 = .ok (.ifCond .eq 34, 3) := by decide +kernel
theorem dL_isFit_100 : decode cL_isFit 100 = .ok (.iload 5, 2) := by decide +kernel
theorem dL_isFit_102 : decode cL_isFit 102 = .ok (.bipush 33, 2) := by decide +kernel
theorem dL_isFit_104 : decode cL_isFit 104 = .ok (.if_icmp .ge 27, 3) := by decide +kernel
theorem dL_isFit_107 : decode cL_isFit 107 = .ok (.iload_n 3, 1) := by decide +kernel
theorem dL_isFit_108 : decode cL_isFit 108 = .ok (.aload_n 0, 1) := by decide +kernel
theorem dL_isFit_109 : decode cL_isFit 109 = .ok (.iload 5, 2) := by decide +kernel
theorem dL_isFit_111 : decode cL_isFit 111 = .ok (.iconst 3, 1) := by decide +kernel
theorem dL_isFit_112 : decode cL_isFit 112 = .ok (.invokevirtual 81, 3) := by decide +kernel
theorem dL_isFit_115 : decode cL_isFit 115 = .ok (.iadd, 1) := by decide +kernel
theorem dL_isFit_116 : decode cL_isFit 116 = .ok (.istore_n 3, 1) := by decide +kernel
theorem dL_isFit_117 : decode cL_isFit 117 = .ok (.aload_n 0, 1) := by decide +kernel
theorem dL_isFit_118 : decode cL_isFit 118 = .ok (.iload 5, 2) := by decide +kernel
theorem dL_isFit_120 : decode cL_isFit 120 = .ok (.invokestatic 144, 3) := by decide +kernel
theorem dL_isFit_123 : decode cL_isFit 123 = .ok (.istore 4, 2) := by decide +kernel
theorem dL_isFit_125 : decode cL_isFit 125 = .ok (.iinc 5 1, 3) := by decide +kernel
theorem dL_isFit_128 : decode cL_isFit 128 = .ok (.goto (-33), 3) := by decide +kernel
theorem dL_isFit_131 : decode cL_isFit 131 = .ok (.iload_n 2, 1) := by decide +kernel
theorem dL_isFit_132 : decode cL_isFit 132 = .ok (.ifCond .ne 7, 3) := by decide +kernel
theorem dL_isFit_135 : decode cL_isFit 135 = .ok (.dconst 0, 1) := by decide +kernel
theorem dL_isFit_136 : decode cL_isFit 136 = .ok (.goto 8, 3) := by decide +kernel
theorem dL_isFit_139 : decode cL_isFit 139 = .ok (.iload_n 1, 1) := by decide +kernel
theorem dL_isFit_140 : decode cL_isFit 140 = .ok (.i2d, 1) := by decide +kernel
theorem dL_isFit_141 : decode cL_isFit 141 = .ok (.iload_n 2, 1) := by decide +kernel
theorem dL_isFit_142 : decode cL_isFit 142 = .ok (.i2d, 1) := by decide +kernel
theorem dL_isFit_143 : decode cL_isFit 143 = .ok (.ddiv, 1) := by decide +kernel
theorem dL_isFit_144 : decode cL_isFit 144 = .ok (.dstore 5, 2) := by decide +kernel
theorem dL_isFit_146 : decode cL_isFit 146 = .ok (.iload 4, 2) := by decide +kernel
theorem dL_isFit_148 : decode cL_isFit 148 = .ok (.ifCond .eq 123, 3) := by decide +kernel
theorem dL_isFit_151 : decode cL_isFit 151 = .ok (.iload_n 1, 1) := by decide +kernel
theorem dL_isFit_152 : decode cL_isFit 152 = .ok (.aload_n 0, 1) := by decide +kernel
theorem dL_isFit_153 : decode cL_isFit 153 = .ok (.iconst 3, 1) := by decide +kernel
theorem dL_isFit_154 : decode cL_isFit 154 = .ok (.invokevirtual 75, 3) := by decide +kernel
theorem dL_isFit_157 : decode cL_isFit 157 = .ok (.if_icmp .ne 114, 3) := by decide +kernel
theorem dL_isFit_160 : decode cL_isFit 160 = .ok (.iload_n 2, 1) := by decide +kernel
theorem dL_isFit_161 : decode cL_isFit 161 = .ok (.aload_n 0, 1) := by decide +kernel
theorem dL_isFit_162 : decode cL_isFit 162 = .ok (.iconst 2, 1) := by decide +kernel
theorem dL_isFit_163 : decode cL_isFit 163 = .ok (.invokevirtual 75, 3) := by decide +kernel
theorem dL_isFit_166 : decode cL_isFit 166 = .ok (.if_icmp .ne 105, 3) := by decide +kernel
theorem dL_isFit_169 : decode cL_isFit 169 = .ok (.iload_n 3, 1) := by decide +kernel
theorem dL_isFit_170 : decode cL_isFit 170 = .ok (.aload_n 0, 1) := by decide +kernel
theorem dL_isFit_171 : decode cL_isFit 171 = .ok (.bipush 13, 2) := by decide +kernel
theorem dL_isFit_173 : decode cL_isFit 173 = .ok (.invokevirtual 75, 3) := by decide +kernel
theorem dL_isFit_176 : decode cL_isFit 176 = .ok (.if_icmp .ne 95, 3) := by decide +kernel
theorem dL_isFit_179 : decode cL_isFit 179 = .ok (.iload_n 1, 1) := by decide +kernel
theorem dL_isFit_180 : decode cL_isFit 180 = .ok (.aload_n 0, 1) := by decide +kernel
theorem dL_isFit_181 : decode cL_isFit 181 = .ok (.iconst 4, 1) := by decide +kernel
theorem dL_isFit_182 : decode cL_isFit 182 = .ok (.invokevirtual 75, 3) := by decide +kernel
theorem dL_isFit_185 : decode cL_isFit 185 = .ok (.aload_n 0, 1) := by decide +kernel
theorem dL_isFit_186 : decode cL_isFit 186 = .ok (.iconst 5, 1) := by decide +kernel
theorem dL_isFit_187 : decode cL_isFit 187 = .ok (.invokevirtual 75, 3) := by decide +kernel
theorem dL_isFit_190 : decode cL_isFit 190 = .ok (.iadd, 1) := by decide +kernel
theorem dL_isFit_191 : decode cL_isFit 191 = .ok (.aload_n 0, 1) := by decide +kernel
theorem dL_isFit_192 : decode cL_isFit 192 = .ok (.bipush 6, 2) := by decide +kernel
theorem dL_isFit_194 : decode cL_isFit 194 = .ok (.invokevirtual 75, 3) := by decide +kernel
theorem dL_isFit_197 : decode cL_isFit 197 = .ok (.iadd, 1) := by decide +kernel
theorem dL_isFit_198 : decode cL_isFit 198 = .ok (.aload_n 0, 1) := by decide +kernel
theorem dL_isFit_199 : decode cL_isFit 199 = .ok (.bipush 7, 2) := by decide +kernel
theorem dL_isFit_201 : decode cL_isFit 201 = .ok (.invokevirtual 75, 3) := by decide +kernel
theorem dL_isFit_204 : decode cL_isFit 204 = .ok (.iadd, 1) := by decide +kernel
theorem dL_isFit_205 : decode cL_isFit 205 = .ok (.if_icmp .ne 66, 3) := by decide +kernel
theorem dL_isFit_208 : decode cL_isFit 208 = .ok (.iload_n 1, 1) := by decide +kernel
theorem dL_isFit_209 : decode cL_isFit 209 = .ok (.aload_n 0, 1) := by decide +kernel
theorem dL_isFit_210 : decode cL_isFit 210 = .ok (.bipush 8, 2) := by decide +kernel
theorem dL_isFit_212 : decode cL_isFit 212 = .ok (.invokevirtual 75, 3) := by decide +kernel
theorem dL_isFit_215 : decode cL_isFit 215 = .ok (.aload_n 0, 1) := by decide +kernel
theorem dL_isFit_216 : decode cL_isFit 216 = .ok (.bipush 9, 2) := by decide +kernel
theorem dL_isFit_218 : decode cL_isFit 218 = .ok (.invokevirtual 75, 3) := by decide +kernel
theorem dL_isFit_221 : decode cL_isFit 221 = .ok (.isub, 1) := by decide +kernel
theorem dL_isFit_222 : decode cL_isFit 222 = .ok (.aload_n 0, 1) := by decide +kernel
theorem dL_isFit_223 : decode cL_isFit 223 = .ok (.bipush 10, 2) := by decide +kernel
theorem dL_isFit_225 : decode cL_isFit 225 = .ok (.invokevirtual 75, 3) := by decide +kernel
theorem dL_isFit_228 : decode cL_isFit 228 = .ok (.isub, 1) := by decide +kernel
theorem dL_isFit_229 : decode cL_isFit 229 = .ok (.aload_n 0, 1) := by decide +kernel
theorem dL_isFit_230 : decode cL_isFit 230 = .ok (.bipush 11, 2) := by decide +kernel
theorem dL_isFit_232 : decode cL_isFit 232 = .ok (.invokevirtual 75, 3) := by decide +kernel
theorem dL_isFit_235 : decode cL_isFit 235 = .ok (.isub, 1) := by decide +kernel
theorem dL_isFit_236 : decode cL_isFit 236 = .ok (.if_icmp .ne 35, 3) := by decide +kernel
theorem dL_isFit_239 : decode cL_isFit 239 = .ok (.aload_n 0, 1) := by decide +kernel
theorem dL_isFit_240 : decode cL_isFit 240 = .ok (.invokevirtual 147, 3) := by decide +kernel
theorem dL_isFit_243 : decode cL_isFit 243 = .ok (.dload 5, 2) := by decide +kernel
theorem dL_isFit_245 : decode cL_isFit 245 = .ok (.dcmp .l, 1) := by decide +kernel
theorem dL_isFit_246 : decode cL_isFit 246 = .ok (.ifCond .ne 25, 3) := by decide +kernel
theorem dL_isFit_249 : decode cL_isFit 249 = .ok (.aload_n 0, 1) := by decide +kernel
theorem dL_isFit_250 : decode cL_isFit 250 = .ok (.iconst 1, 1) := by decide +kernel
theorem dL_isFit_251 : decode cL_isFit 251 = .ok (.invokevirtual 75, 3) := by decide +kernel
theorem dL_isFit_254 : decode cL_isFit 254 = .ok (.ifCond .lt 17, 3) := by decide +kernel
theorem dL_isFit_257 : decode cL_isFit 257 = .ok (.aload_n 0, 1) := by decide +kernel
theorem dL_isFit_258 : decode cL_isFit 258 = .ok (.bipush 14, 2) := by decide +kernel
theorem dL_isFit_260 : decode cL_isFit 260 = .ok (.invokevirtual 75, 3) := by decide +kernel
theorem dL_isFit_263 : decode cL_isFit 263 = .ok (.iload_n 3, 1) := by decide +kernel
theorem dL_isFit_264 : decode cL_isFit 264 = .ok (.if_icmp .lt 7, 3) := by decide +kernel
theorem dL_isFit_267 : decode cL_isFit 267 = .ok (.iconst 1, 1) := by decide +kernel
theorem dL_isFit_268 : decode cL_isFit 268 = .ok (.goto 4, 3) := by decide +kernel
theorem dL_isFit_271 : decode cL_isFit 271 = .ok (.iconst 0, 1) := by decide +kernel
theorem dL_isFit_272 : decode cL_isFit 272 = .ok (.ireturn, 1) := by decide +kernel
theorem dL_isBest_0 : decode cL_isBest 0 = .ok (.aload_n 0, 1) := by decide +kernel
theorem dL_isBest_1 : decode cL_isBest 1 = .ok (.invokestatic 151, 3) := by decide +kernel
theorem dL_isBest_4 : decode cL_isBest 4 = .ok (.lstore_n 3, 1) := by decide +kernel
theorem dL_isBest_5 : decode cL_isBest 5 = .ok (.aload_n 0, 1) := by decide +kernel
theorem dL_isBest_6 : decode cL_isBest 6 = .ok (.iload_n 1, 1) := by decide +kernel
theorem dL_isBest_7 : decode cL_isBest 7 = .ok (.iload_n 2, 1) := by decide +kernel
theorem dL_isBest_8 : decode cL_isBest 8 = .ok (.invokevirtual 155, 3) := by decide +kernel
theorem dL_isBest_11 : decode cL_isBest 11 = .ok (.istore 5, 2) := by decide +kernel
theorem dL_isBest_13 : decode cL_isBest 13 = .ok (.iload 5, 2) := by decide +kernel
theorem dL_isBest_15 : decode cL_isBest 15 = .ok (.bipush (-15), 2) := by decide +kernel
theorem dL_isBest_17 : decode cL_isBest 17 = .ok (.if_icmp .ne 5, 3) := by decide +kernel
theorem dL_isBest_20 : decode cL_isBest 20 = .ok (.iconst 1, 1) := by decide +kernel
theorem dL_isBest_21 : decode cL_isBest 21 = .ok (.ireturn, 1) := by decide +kernel
theorem dL_isBest_22 : decode cL_isBest 22 = .ok (.aload_n 0, 1) := by decide +kernel
theorem dL_isBest_23 : decode cL_isBest 23 = .ok (.iload 5, 2) := by decide +kernel
theorem dL_isBest_25 : decode cL_isBest 25 = .ok (.iconst 1, 1) := by decide +kernel
theorem dL_isBest_26 : decode cL_isBest 26 = .ok (.invokevirtual 78, 3) := by decide +kernel
theorem dL_isBest_29 : decode cL_isBest 29 = .ok (.istore 6, 2) := by decide +kernel
theorem dL_isBest_31 : decode cL_isBest 31 = .ok (.iload 6, 2) := by decide +kernel
theorem dL_isBest_33 : decode cL_isBest 33 = .ok (.ifCond .eq 14, 3) := by decide +kernel
theorem dL_isBest_36 : decode cL_isBest 36 = .ok (.aload_n 0, 1) := by decide +kernel
theorem dL_isBest_37 : decode cL_isBest 37 = .ok (.iload 5, 2) := by decide +kernel
theorem dL_isBest_39 : decode cL_isBest 39 = .ok (.iconst 0, 1) := by decide +kernel
theorem dL_isBest_40 : decode cL_isBest 40 = .ok (.invokevirtual 78, 3) := by decide +kernel
theorem dL_isBest_43 : decode cL_isBest 43 = .ok (.iload_n 1, 1) := by decide +kernel
theorem dL_isBest_44 : decode cL_isBest 44 = .ok (.if_icmp .ne 39, 3) := by decide +kernel
theorem dL_isBest_47 : decode cL_isBest 47 = .ok (.aload_n 0, 1) := by decide +kernel
theorem dL_isBest_48 : decode cL_isBest 48 = .ok (.iload 5, 2) := by decide +kernel
theorem dL_isBest_50 : decode cL_isBest 50 = .ok (.iload_n 1, 1) := by decide +kernel
theorem dL_isBest_51 : decode cL_isBest 51 = .ok (.iload_n 2, 1) := by decide +kernel
theorem dL_isBest_52 : decode cL_isBest 52 = .ok (.invokevirtual 24, 3) := by decide +kernel
theorem dL_isBest_55 : decode cL_isBest 55 = .ok (.ifCond .ne 28, 3) := by decide +kernel
theorem dL_isBest_58 : decode cL_isBest 58 = .ok (.aload_n 0, 1) := by decide +kernel
theorem dL_isBest_59 : decode cL_isBest 59 = .ok (.iload 5, 2) := by decide +kernel
theorem dL_isBest_61 : decode cL_isBest 61 = .ok (.iconst 1, 1) := by decide +kernel
theorem dL_isBest_62 : decode cL_isBest 62 = .ok (.invokevirtual 78, 3) := by decide +kernel
theorem dL_isBest_65 : decode cL_isBest 65 = .ok (.iload 6, 2) := by decide +kernel
theorem dL_isBest_67 : decode cL_isBest 67 = .ok (.iload_n 2, 1) := by decide +kernel
theorem dL_isBest_68 : decode cL_isBest 68 = .ok (.iadd, 1) := by decide +kernel
theorem dL_isBest_69 : decode cL_isBest 69 = .ok (.if_icmp .ne 14, 3) := by decide +kernel
theorem dL_isBest_72 : decode cL_isBest 72 = .ok (.aload_n 0, 1) := by decide +kernel
theorem dL_isBest_73 : decode cL_isBest 73 = .ok (.invokestatic 158, 3) := by decide +kernel
theorem dL_isBest_76 : decode cL_isBest 76 = .ok (.ifCond .eq 7, 3) := by decide +kernel
theorem dL_isBest_79 : decode cL_isBest 79 = .ok (.iconst 1, 1) := by decide +kernel
theorem dL_isBest_80 : decode cL_isBest 80 = .ok (.goto 4, 3) := by decide +kernel
theorem dL_isBest_83 : decode cL_isBest 83 = .ok (.iconst 0, 1) := by decide +kernel
theorem dL_isBest_84 : decode cL_isBest 84 = .ok (.istore 7, 2) := by decide +kernel
theorem dL_isBest_86 : decode cL_isBest 86 = .ok (.iload 7, 2) := by decide +kernel
theorem dL_isBest_88 : decode cL_isBest 88 = .ok (.ifCond .eq 23, 3) := by decide +kernel
theorem dL_isBest_91 : decode cL_isBest 91 = .ok (.aload_n 0, 1) := by decide +kernel
theorem dL_isBest_92 : decode cL_isBest 92 = .ok (.invokevirtual 68, 3) := by decide +kernel
theorem dL_isBest_95 : decode cL_isBest 95 = .ok (.ifCond .lt 16, 3) := by decide +kernel
theorem dL_isBest_98 : decode cL_isBest 98 = .ok (.aload_n 0, 1) := by decide +kernel
theorem dL_isBest_99 : decode cL_isBest 99 = .ok (.invokestatic 151, 3) := by decide +kernel
theorem dL_isBest_102 : decode cL_isBest 102 = .ok (.lload_n 3, 1) := by decide +kernel
theorem dL_isBest_103 : decode cL_isBest 103 = .ok (.lcmp, 1) := by decide +kernel
theorem dL_isBest_104 : decode cL_isBest 104 = .ok (.ifCond .ne 7, 3) := by decide +kernel
theorem dL_isBest_107 : decode cL_isBest 107 = .ok (.iconst 1, 1) := by decide +kernel
theorem dL_isBest_108 : decode cL_isBest 108 = .ok (.goto 4, 3) := by decide +kernel
theorem dL_isBest_111 : decode cL_isBest 111 = .ok (.iconst 0, 1) := by decide +kernel
theorem dL_isBest_112 : decode cL_isBest 112 = .ok (.ireturn, 1) := by decide +kernel
theorem dL_isSold_0 : decode cL_isSold 0 = .ok (.aload_n 0, 1) := by decide +kernel
theorem dL_isSold_1 : decode cL_isSold 1 = .ok (.invokestatic 151, 3) := by decide +kernel
theorem dL_isSold_4 : decode cL_isSold 4 = .ok (.lstore_n 3, 1) := by decide +kernel
theorem dL_isSold_5 : decode cL_isSold 5 = .ok (.aload_n 0, 1) := by decide +kernel
theorem dL_isSold_6 : decode cL_isSold 6 = .ok (.iconst 4, 1) := by decide +kernel
theorem dL_isSold_7 : decode cL_isSold 7 = .ok (.iload_n 1, 1) := by decide +kernel
theorem dL_isSold_8 : decode cL_isSold 8 = .ok (.iadd, 1) := by decide +kernel
theorem dL_isSold_9 : decode cL_isSold 9 = .ok (.invokevirtual 75, 3) := by decide +kernel
theorem dL_isSold_12 : decode cL_isSold 12 = .ok (.istore 5, 2) := by decide +kernel
theorem dL_isSold_14 : decode cL_isSold 14 = .ok (.aload_n 0, 1) := by decide +kernel
theorem dL_isSold_15 : decode cL_isSold 15 = .ok (.iconst 1, 1) := by decide +kernel
theorem dL_isSold_16 : decode cL_isSold 16 = .ok (.invokevirtual 75, 3) := by decide +kernel
theorem dL_isSold_19 : decode cL_isSold 19 = .ok (.istore 6, 2) := by decide +kernel
theorem dL_isSold_21 : decode cL_isSold 21 = .ok (.aload_n 0, 1) := by decide +kernel
theorem dL_isSold_22 : decode cL_isSold 22 = .ok (.iload_n 1, 1) := by decide +kernel
theorem dL_isSold_23 : decode cL_isSold 23 = .ok (.iload_n 2, 1) := by decide +kernel
theorem dL_isSold_24 : decode cL_isSold 24 = .ok (.invokevirtual 35, 3) := by decide +kernel
theorem dL_isSold_27 : decode cL_isSold 27 = .ok (.istore 7, 2) := by decide +kernel
theorem dL_isSold_29 : decode cL_isSold 29 = .ok (.iload 7, 2) := by decide +kernel
theorem dL_isSold_31 : decode cL_isSold 31 = .ok (.bipush (-14), 2) := by decide +kernel
theorem dL_isSold_33 : decode cL_isSold 33 = .ok (.if_icmp .ne 43, 3) := by decide +kernel
theorem dL_isSold_36 : decode cL_isSold 36 = .ok (.iload 5, 2) := by decide +kernel
theorem dL_isSold_38 : decode cL_isSold 38 = .ok (.iload_n 2, 1) := by decide +kernel
theorem dL_isSold_39 : decode cL_isSold 39 = .ok (.if_icmp .ge 35, 3) := by decide +kernel
theorem dL_isSold_42 : decode cL_isSold 42 = .ok (.aload_n 0, 1) := by decide +kernel
theorem dL_isSold_43 : decode cL_isSold 43 = .ok (.iconst 0, 1) := by decide +kernel
theorem dL_isSold_44 : decode cL_isSold 44 = .ok (.invokevirtual 161, 3) := by decide +kernel
theorem dL_isSold_47 : decode cL_isSold 47 = .ok (.iconst 3, 1) := by decide +kernel
theorem dL_isSold_48 : decode cL_isSold 48 = .ok (.if_icmp .ne 26, 3) := by decide +kernel
theorem dL_isSold_51 : decode cL_isSold 51 = .ok (.aload_n 0, 1) := by decide +kernel
theorem dL_isSold_52 : decode cL_isSold 52 = .ok (.iconst 1, 1) := by decide +kernel
theorem dL_isSold_53 : decode cL_isSold 53 = .ok (.invokevirtual 161, 3) := by decide +kernel
theorem dL_isSold_56 : decode cL_isSold 56 = .ok (.iload 5, 2) := by decide +kernel
theorem dL_isSold_58 : decode cL_isSold 58 = .ok (.if_icmp .ne 16, 3) := by decide +kernel
theorem dL_isSold_61 : decode cL_isSold 61 = .ok (.aload_n 0, 1) := by decide +kernel
theorem dL_isSold_62 : decode cL_isSold 62 = .ok (.invokestatic 151, 3) := by decide +kernel
theorem dL_isSold_65 : decode cL_isSold 65 = .ok (.lload_n 3, 1) := by decide +kernel
theorem dL_isSold_66 : decode cL_isSold 66 = .ok (.lcmp, 1) := by decide +kernel
theorem dL_isSold_67 : decode cL_isSold 67 = .ok (.ifCond .ne 7, 3) := by decide +kernel
theorem dL_isSold_70 : decode cL_isSold 70 = .ok (.iconst 1, 1) := by decide +kernel
theorem dL_isSold_71 : decode cL_isSold 71 = .ok (.goto 4, 3) := by decide +kernel
theorem dL_isSold_74 : decode cL_isSold 74 = .ok (.iconst 0, 1) := by decide +kernel
theorem dL_isSold_75 : decode cL_isSold 75 = .ok (.ireturn, 1) := by decide +kernel
theorem dL_isSold_76 : decode cL_isSold 76 = .ok (.iload 5, 2) := by decide +kernel
theorem dL_isSold_78 : decode cL_isSold 78 = .ok (.iload_n 2, 1) := by decide +kernel
theorem dL_isSold_79 : decode cL_isSold 79 = .ok (.if_icmp .lt 52, 3) := by decide +kernel
theorem dL_isSold_82 : decode cL_isSold 82 = .ok (.iload 7, 2) := by decide +kernel
theorem dL_isSold_84 : decode cL_isSold 84 = .ok (.aload_n 0, 1) := by decide +kernel
theorem dL_isSold_85 : decode cL_isSold 85 = .ok (.iload_n 1, 1) := by decide +kernel
theorem dL_isSold_86 : decode cL_isSold 86 = .ok (.iload_n 2, 1) := by decide +kernel
theorem dL_isSold_87 : decode cL_isSold 87 = .ok (.invokevirtual 165, 3) := by decide +kernel
theorem dL_isSold_90 : decode cL_isSold 90 = .ok (.if_icmp .ne 41, 3) := by decide +kernel
theorem dL_isSold_93 : decode cL_isSold 93 = .ok (.aload_n 0, 1) := by decide +kernel
theorem dL_isSold_94 : decode cL_isSold 94 = .ok (.iconst 1, 1) := by decide +kernel
theorem dL_isSold_95 : decode cL_isSold 95 = .ok (.invokevirtual 75, 3) := by decide +kernel
theorem dL_isSold_98 : decode cL_isSold 98 = .ok (.iload 6, 2) := by decide +kernel
theorem dL_isSold_100 : decode cL_isSold 100 = .ok (.iload 7, 2) := by decide +kernel
theorem dL_isSold_102 : decode cL_isSold 102 = .ok (.iadd, 1) := by decide +kernel
theorem dL_isSold_103 : decode cL_isSold 103 = .ok (.if_icmp .ne 28, 3) := by decide +kernel
theorem dL_isSold_106 : decode cL_isSold 106 = .ok (.aload_n 0, 1) := by decide +kernel
theorem dL_isSold_107 : decode cL_isSold 107 = .ok (.iconst 4, 1) := by decide +kernel
theorem dL_isSold_108 : decode cL_isSold 108 = .ok (.iload_n 1, 1) := by decide +kernel
theorem dL_isSold_109 : decode cL_isSold 109 = .ok (.iadd, 1) := by decide +kernel
theorem dL_isSold_110 : decode cL_isSold 110 = .ok (.invokevirtual 75, 3) := by decide +kernel
theorem dL_isSold_113 : decode cL_isSold 113 = .ok (.iload 5, 2) := by decide +kernel
theorem dL_isSold_115 : decode cL_isSold 115 = .ok (.iload_n 2, 1) := by decide +kernel
theorem dL_isSold_116 : decode cL_isSold 116 = .ok (.isub, 1) := by decide +kernel
theorem dL_isSold_117 : decode cL_isSold 117 = .ok (.if_icmp .ne 14, 3) := by decide +kernel
theorem dL_isSold_120 : decode cL_isSold 120 = .ok (.aload_n 0, 1) := by decide +kernel
theorem dL_isSold_121 : decode cL_isSold 121 = .ok (.invokestatic 158, 3) := by decide +kernel
theorem dL_isSold_124 : decode cL_isSold 124 = .ok (.ifCond .eq 7, 3) := by decide +kernel
theorem dL_isSold_127 : decode cL_isSold 127 = .ok (.iconst 1, 1) := by decide +kernel
theorem dL_isSold_128 : decode cL_isSold 128 = .ok (.goto 4, 3) := by decide +kernel
theorem dL_isSold_131 : decode cL_isSold 131 = .ok (.iconst 0, 1) := by decide +kernel
theorem dL_isSold_132 : decode cL_isSold 132 = .ok (.istore 8, 2) := by decide +kernel
theorem dL_isSold_134 : decode cL_isSold 134 = .ok (.iload 8, 2) := by decide +kernel
theorem dL_isSold_136 : decode cL_isSold 136 = .ok (.ifCond .eq 23, 3) := by decide +kernel
theorem dL_isSold_139 : decode cL_isSold 139 = .ok (.aload_n 0, 1) := by decide +kernel
theorem dL_isSold_140 : decode cL_isSold 140 = .ok (.invokevirtual 68, 3) := by decide +kernel
theorem dL_isSold_143 : decode cL_isSold 143 = .ok (.ifCond .lt 16, 3) := by decide +kernel
theorem dL_isSold_146 : decode cL_isSold 146 = .ok (.aload_n 0, 1) := by decide +kernel
theorem dL_isSold_147 : decode cL_isSold 147 = .ok (.invokestatic 151, 3) := by decide +kernel
theorem dL_isSold_150 : decode cL_isSold 150 = .ok (.lload_n 3, 1) := by decide +kernel
theorem dL_isSold_151 : decode cL_isSold 151 = .ok (.lcmp, 1) := by decide +kernel
theorem dL_isSold_152 : decode cL_isSold 152 = .ok (.ifCond .ne 7, 3) := by decide +kernel
theorem dL_isSold_155 : decode cL_isSold 155 = .ok (.iconst 1, 1) := by decide +kernel
theorem dL_isSold_156 : decode cL_isSold 156 = .ok (.goto 4, 3) := by decide +kernel
theorem dL_isSold_159 : decode cL_isSold 159 = .ok (.iconst 0, 1) := by decide +kernel
theorem dL_isSold_160 : decode cL_isSold 160 = .ok (.ireturn, 1) := by decide +kernel
theorem dL_isPassed_0 : decode cL_isPassed 0 = .ok (.aload_n 0, 1) := by decide +kernel
theorem dL_isPassed_1 : decode cL_isPassed 1 = .ok (.invokestatic 151, 3) := by decide +kernel
theorem dL_isPassed_4 : decode cL_isPassed 4 = .ok (.lstore_n 1, 1) := by decide +kernel
theorem dL_isPassed_5 : decode cL_isPassed 5 = .ok (.iconst 0, 1) := by decide +kernel
theorem dL_isPassed_6 : decode cL_isPassed 6 = .ok (.istore_n 3, 1) := by decide +kernel
theorem dL_isPassed_7 : decode cL_isPassed 7 = .ok (.iconst 0, 1) := by decide +kernel
theorem dL_isPassed_8 : decode cL_isPassed 8 = .ok (.istore 4, 2) := by decide +kernel
theorem dL_isPassed_10 : decode cL_isPassed 10 = .ok (.iload 4, 2) := by decide +kernel
theorem dL_isPassed_12 : decode cL_isPassed 12 = .ok (.bipush 32, 2) := by decide +kernel
theorem dL_isPassed_14 : decode cL_isPassed 14 = .ok (.if_icmp .ge 19, 3) := by decide +kernel
theorem dL_isPassed_17 : decode cL_isPassed 17 = .ok (.iload_n 3, 1) := by decide +kernel
theorem dL_isPassed_18 : decode cL_isPassed 18 = .ok (.aload_n 0, 1) := by decide +kernel
theorem dL_isPassed_19 : decode cL_isPassed 19 = .ok (.iload 4, 2) := by decide +kernel
theorem dL_isPassed_21 : decode cL_isPassed 21 = .ok (.iconst 3, 1) := by decide +kernel
theorem dL_isPassed_22 : decode cL_isPassed 22 = .ok (.invokevirtual 78, 3) := by decide +kernel
theorem dL_isPassed_25 : decode cL_isPassed 25 = .ok (.iadd, 1) := by decide +kernel
theorem dL_isPassed_26 : decode cL_isPassed 26 = .ok (.istore_n 3, 1) := by decide +kernel
theorem dL_isPassed_27 : decode cL_isPassed 27 = .ok (.iinc 4 1, 3) := by decide +kernel
theorem dL_isPassed_30 : decode cL_isPassed 30 = .ok (.goto (-20), 3) := by decide +kernel
theorem dL_isPassed_33 : decode cL_isPassed 33 = .ok (.aload_n 0, 1) := by decide +kernel
theorem dL_isPassed_34 : decode cL_isPassed 34 = .ok (.iconst 1, 1) := by decide +kernel
theorem dL_isPassed_35 : decode cL_isPassed 35 = .ok (.invokevirtual 41, 3) := by decide +kernel
theorem dL_isPassed_38 : decode cL_isPassed 38 = .ok (.iload_n 3, 1) := by decide +kernel
theorem dL_isPassed_39 : decode cL_isPassed 39 = .ok (.if_icmp .ne 14, 3) := by decide +kernel
theorem dL_isPassed_42 : decode cL_isPassed 42 = .ok (.aload_n 0, 1) := by decide +kernel
theorem dL_isPassed_43 : decode cL_isPassed 43 = .ok (.invokestatic 158, 3) := by decide +kernel
theorem dL_isPassed_46 : decode cL_isPassed 46 = .ok (.ifCond .eq 7, 3) := by decide +kernel
theorem dL_isPassed_49 : decode cL_isPassed 49 = .ok (.iconst 1, 1) := by decide +kernel
theorem dL_isPassed_50 : decode cL_isPassed 50 = .ok (.goto 4, 3) := by decide +kernel
theorem dL_isPassed_53 : decode cL_isPassed 53 = .ok (.iconst 0, 1) := by decide +kernel
theorem dL_isPassed_54 : decode cL_isPassed 54 = .ok (.istore 4, 2) := by decide +kernel
theorem dL_isPassed_56 : decode cL_isPassed 56 = .ok (.iload 4, 2) := by decide +kernel
theorem dL_isPassed_58 : decode cL_isPassed 58 = .ok (.ifCond .eq 23, 3) := by decide +kernel
theorem dL_isPassed_61 : decode cL_isPassed 61 = .ok (.aload_n 0, 1) := by decide +kernel
theorem dL_isPassed_62 : decode cL_isPassed 62 = .ok (.invokevirtual 68, 3) := by decide +kernel
theorem dL_isPassed_65 : decode cL_isPassed 65 = .ok (.ifCond .lt 16, 3) := by decide +kernel
theorem dL_isPassed_68 : decode cL_isPassed 68 = .ok (.aload_n 0, 1) := by decide +kernel
theorem dL_isPassed_69 : decode cL_isPassed 69 = .ok (.invokestatic 151, 3) := by decide +kernel
theorem dL_isPassed_72 : decode cL_isPassed 72 = .ok (.lload_n 1, 1) := by decide +kernel
theorem dL_isPassed_73 : decode cL_isPassed 73 = .ok (.lcmp, 1) := by decide +kernel
theorem dL_isPassed_74 : decode cL_isPassed 74 = .ok (.ifCond .ne 7, 3) := by decide +kernel
theorem dL_isPassed_77 : decode cL_isPassed 77 = .ok (.iconst 1, 1) := by decide +kernel
theorem dL_isPassed_78 : decode cL_isPassed 78 = .ok (.goto 4, 3) := by decide +kernel
theorem dL_isPassed_81 : decode cL_isPassed 81 = .ok (.iconst 0, 1) := by decide +kernel
theorem dL_isPassed_82 : decode cL_isPassed 82 = .ok (.ireturn, 1) := by decide +kernel
theorem dL_law_0 : decode cL_law 0 = .ok (.new 19, 3) := by decide +kernel
theorem dL_law_3 : decode cL_law 3 = .ok (.dup, 1) := by decide +kernel
theorem dL_law_4 : decode cL_law 4 = .ok (.invokespecial 168, 3) := by decide +kernel
theorem dL_law_7 : decode cL_law 7 = .ok (.astore_n 1, 1) := by decide +kernel
theorem dL_law_8 : decode cL_law 8 = .ok (.aload_n 1, 1) := by decide +kernel
theorem dL_law_9 : decode cL_law 9 = .ok (.iconst 0, 1) := by decide +kernel
theorem dL_law_10 : decode cL_law 10 = .ok (.iconst 0, 1) := by decide +kernel
theorem dL_law_11 : decode cL_law 11 = .ok (.bipush 90, 2) := by decide +kernel
theorem dL_law_13 : decode cL_law 13 = .ok (.invokevirtual 24, 3) := by decide +kernel
theorem dL_law_16 : decode cL_law 16 = .ok (.pop, 1) := by decide +kernel
theorem dL_law_17 : decode cL_law 17 = .ok (.aload_n 1, 1) := by decide +kernel
theorem dL_law_18 : decode cL_law 18 = .ok (.iconst 1, 1) := by decide +kernel
theorem dL_law_19 : decode cL_law 19 = .ok (.iconst 1, 1) := by decide +kernel
theorem dL_law_20 : decode cL_law 20 = .ok (.sipush 150, 3) := by decide +kernel
theorem dL_law_23 : decode cL_law 23 = .ok (.invokevirtual 24, 3) := by decide +kernel
theorem dL_law_26 : decode cL_law 26 = .ok (.pop, 1) := by decide +kernel
theorem dL_law_27 : decode cL_law 27 = .ok (.aload_n 1, 1) := by decide +kernel
theorem dL_law_28 : decode cL_law 28 = .ok (.iconst 5, 1) := by decide +kernel
theorem dL_law_29 : decode cL_law 29 = .ok (.iconst 2, 1) := by decide +kernel
theorem dL_law_30 : decode cL_law 30 = .ok (.bipush 40, 2) := by decide +kernel
theorem dL_law_32 : decode cL_law 32 = .ok (.invokevirtual 24, 3) := by decide +kernel
theorem dL_law_35 : decode cL_law 35 = .ok (.pop, 1) := by decide +kernel
theorem dL_law_36 : decode cL_law 36 = .ok (.aload_n 0, 1) := by decide +kernel
theorem dL_law_37 : decode cL_law 37 = .ok (.arraylength, 1) := by decide +kernel
theorem dL_law_38 : decode cL_law 38 = .ok (.bipush 44, 2) := by decide +kernel
theorem dL_law_40 : decode cL_law 40 = .ok (.if_icmp .ge 8, 3) := by decide +kernel
theorem dL_law_43 : decode cL_law 43 = .ok (.aload_n 0, 1) := by decide +kernel
theorem dL_law_44 : decode cL_law 44 = .ok (.arraylength, 1) := by decide +kernel
theorem dL_law_45 : decode cL_law 45 = .ok (.goto 5, 3) := by decide +kernel
theorem dL_law_48 : decode cL_law 48 = .ok (.bipush 44, 2) := by decide +kernel
theorem dL_law_50 : decode cL_law 50 = .ok (.istore_n 2, 1) := by decide +kernel
theorem dL_law_51 : decode cL_law 51 = .ok (.iconst 0, 1) := by decide +kernel
theorem dL_law_52 : decode cL_law 52 = .ok (.istore_n 3, 1) := by decide +kernel
theorem dL_law_53 : decode cL_law 53 = .ok (.iload_n 3, 1) := by decide +kernel
theorem dL_law_54 : decode cL_law 54 = .ok (.iload_n 2, 1) := by decide +kernel
theorem dL_law_55 : decode cL_law 55 = .ok (.if_icmp .ge 39, 3) := by decide +kernel
theorem dL_law_58 : decode cL_law 58 = .ok (.aload_n 1, 1) := by decide +kernel
theorem dL_law_59 : decode cL_law 59 = .ok (.invokestatic 151, 3) := by decide +kernel
theorem dL_law_62 : decode cL_law 62 = .ok (.lstore 4, 2) := by decide +kernel
theorem dL_law_64 : decode cL_law 64 = .ok (.aload_n 1, 1) := by decide +kernel
theorem dL_law_65 : decode cL_law 65 = .ok (.aload_n 0, 1) := by decide +kernel
theorem dL_law_66 : decode cL_law 66 = .ok (.iload_n 3, 1) := by decide +kernel
theorem dL_law_67 : decode cL_law 67 = .ok (.invokestatic 169, 3) := by decide +kernel
theorem dL_law_70 : decode cL_law 70 = .ok (.invokestatic 173, 3) := by decide +kernel
theorem dL_law_73 : decode cL_law 73 = .ok (.ifCond .ge 15, 3) := by decide +kernel
theorem dL_law_76 : decode cL_law 76 = .ok (.aload_n 1, 1) := by decide +kernel
theorem dL_law_77 : decode cL_law 77 = .ok (.invokestatic 151, 3) := by decide +kernel
theorem dL_law_80 : decode cL_law 80 = .ok (.lload 4, 2) := by decide +kernel
theorem dL_law_82 : decode cL_law 82 = .ok (.lcmp, 1) := by decide +kernel
theorem dL_law_83 : decode cL_law 83 = .ok (.ifCond .eq 5, 3) := by decide +kernel
theorem dL_law_86 : decode cL_law 86 = .ok (.iconst 0, 1) := by decide +kernel
theorem dL_law_87 : decode cL_law 87 = .ok (.ireturn, 1) := by decide +kernel
theorem dL_law_88 : decode cL_law 88 = .ok (.iinc 3 1, 3) := by decide +kernel
theorem dL_law_91 : decode cL_law 91 = .ok (.goto (-38), 3) := by decide +kernel
theorem dL_law_94 : decode cL_law 94 = .ok (.aload_n 1, 1) := by decide +kernel
theorem dL_law_95 : decode cL_law 95 = .ok (.invokestatic 158, 3) := by decide +kernel
theorem dL_law_98 : decode cL_law 98 = .ok (.istore_n 3, 1) := by decide +kernel
theorem dL_law_99 : decode cL_law 99 = .ok (.aload_n 1, 1) := by decide +kernel
theorem dL_law_100 : decode cL_law 100 = .ok (.invokevirtual 54, 3) := by decide +kernel
theorem dL_law_103 : decode cL_law 103 = .ok (.pop, 1) := by decide +kernel
theorem dL_law_104 : decode cL_law 104 = .ok (.aload_n 1, 1) := by decide +kernel
theorem dL_law_105 : decode cL_law 105 = .ok (.invokestatic 151, 3) := by decide +kernel
theorem dL_law_108 : decode cL_law 108 = .ok (.lstore 4, 2) := by decide +kernel
theorem dL_law_110 : decode cL_law 110 = .ok (.aload_n 1, 1) := by decide +kernel
theorem dL_law_111 : decode cL_law 111 = .ok (.invokevirtual 62, 3) := by decide +kernel
theorem dL_law_114 : decode cL_law 114 = .ok (.istore 6, 2) := by decide +kernel
theorem dL_law_116 : decode cL_law 116 = .ok (.iconst 0, 1) := by decide +kernel
theorem dL_law_117 : decode cL_law 117 = .ok (.istore 7, 2) := by decide +kernel
theorem dL_law_119 : decode cL_law 119 = .ok (.iload_n 3, 1) := by decide +kernel
theorem dL_law_120 : decode cL_law 120 = .ok (.ifCond .eq 60, 3) := by decide +kernel
theorem dL_law_123 : decode cL_law 123 = .ok (.iload 7, 2) := by decide +kernel
theorem dL_law_125 : decode cL_law 125 = .ok (.iconst 4, 1) := by decide +kernel
theorem dL_law_126 : decode cL_law 126 = .ok (.if_icmp .ge 54, 3) := by decide +kernel
theorem dL_law_129 : decode cL_law 129 = .ok (.aload_n 1, 1) := by decide +kernel
theorem dL_law_130 : decode cL_law 130 = .ok (.iload 7, 2) := by decide +kernel
theorem dL_law_132 : decode cL_law 132 = .ok (.iconst 1, 1) := by decide +kernel
theorem dL_law_133 : decode cL_law 133 = .ok (.bipush 60, 2) := by decide +kernel
theorem dL_law_135 : decode cL_law 135 = .ok (.iload 7, 2) := by decide +kernel
theorem dL_law_137 : decode cL_law 137 = .ok (.imul, 1) := by decide +kernel
theorem dL_law_138 : decode cL_law 138 = .ok (.iadd, 1) := by decide +kernel
theorem dL_law_139 : decode cL_law 139 = .ok (.invokestatic 177, 3) := by decide +kernel
theorem dL_law_142 : decode cL_law 142 = .ok (.ifCond .eq 30, 3) := by decide +kernel
theorem dL_law_145 : decode cL_law 145 = .ok (.aload_n 1, 1) := by decide +kernel
theorem dL_law_146 : decode cL_law 146 = .ok (.iload 7, 2) := by decide +kernel
theorem dL_law_148 : decode cL_law 148 = .ok (.bipush 20, 2) := by decide +kernel
theorem dL_law_150 : decode cL_law 150 = .ok (.iload 7, 2) := by decide +kernel
theorem dL_law_152 : decode cL_law 152 = .ok (.imul, 1) := by decide +kernel
theorem dL_law_153 : decode cL_law 153 = .ok (.iconst 1, 1) := by decide +kernel
theorem dL_law_154 : decode cL_law 154 = .ok (.iadd, 1) := by decide +kernel
theorem dL_law_155 : decode cL_law 155 = .ok (.invokestatic 181, 3) := by decide +kernel
theorem dL_law_158 : decode cL_law 158 = .ok (.ifCond .eq 14, 3) := by decide +kernel
theorem dL_law_161 : decode cL_law 161 = .ok (.aload_n 1, 1) := by decide +kernel
theorem dL_law_162 : decode cL_law 162 = .ok (.invokestatic 184, 3) := by decide +kernel
theorem dL_law_165 : decode cL_law 165 = .ok (.ifCond .eq 7, 3) := by decide +kernel
theorem dL_law_168 : decode cL_law 168 = .ok (.iconst 1, 1) := by decide +kernel
theorem dL_law_169 : decode cL_law 169 = .ok (.goto 4, 3) := by decide +kernel
theorem dL_law_172 : decode cL_law 172 = .ok (.iconst 0, 1) := by decide +kernel
theorem dL_law_173 : decode cL_law 173 = .ok (.istore_n 3, 1) := by decide +kernel
theorem dL_law_174 : decode cL_law 174 = .ok (.iinc 7 1, 3) := by decide +kernel
theorem dL_law_177 : decode cL_law 177 = .ok (.goto (-58), 3) := by decide +kernel
theorem dL_law_180 : decode cL_law 180 = .ok (.iconst 0, 1) := by decide +kernel
theorem dL_law_181 : decode cL_law 181 = .ok (.istore 7, 2) := by decide +kernel
theorem dL_law_183 : decode cL_law 183 = .ok (.iload_n 3, 1) := by decide +kernel
theorem dL_law_184 : decode cL_law 184 = .ok (.ifCond .eq 88, 3) := by decide +kernel
theorem dL_law_187 : decode cL_law 187 = .ok (.iload 7, 2) := by decide +kernel
theorem dL_law_189 : decode cL_law 189 = .ok (.getstatic 44, 3) := by decide +kernel
theorem dL_law_192 : decode cL_law 192 = .ok (.arraylength, 1) := by decide +kernel
theorem dL_law_193 : decode cL_law 193 = .ok (.if_icmp .ge 79, 3) := by decide +kernel
theorem dL_law_196 : decode cL_law 196 = .ok (.aload_n 1, 1) := by decide +kernel
theorem dL_law_197 : decode cL_law 197 = .ok (.getstatic 44, 3) := by decide +kernel
theorem dL_law_200 : decode cL_law 200 = .ok (.iload 7, 2) := by decide +kernel
theorem dL_law_202 : decode cL_law 202 = .ok (.aaload, 1) := by decide +kernel
theorem dL_law_203 : decode cL_law 203 = .ok (.invokestatic 50, 3) := by decide +kernel
theorem dL_law_206 : decode cL_law 206 = .ok (.invokevirtual 54, 3) := by decide +kernel
theorem dL_law_209 : decode cL_law 209 = .ok (.istore 8, 2) := by decide +kernel
theorem dL_law_211 : decode cL_law 211 = .ok (.iload 8, 2) := by decide +kernel
theorem dL_law_213 : decode cL_law 213 = .ok (.ifCond .ge 23, 3) := by decide +kernel
theorem dL_law_216 : decode cL_law 216 = .ok (.iload 8, 2) := by decide +kernel
theorem dL_law_218 : decode cL_law 218 = .ok (.bipush (-14), 2) := by decide +kernel
theorem dL_law_220 : decode cL_law 220 = .ok (.if_icmp .ne 44, 3) := by decide +kernel
theorem dL_law_223 : decode cL_law 223 = .ok (.aload_n 1, 1) := by decide +kernel
theorem dL_law_224 : decode cL_law 224 = .ok (.iconst 0, 1) := by decide +kernel
theorem dL_law_225 : decode cL_law 225 = .ok (.invokevirtual 161, 3) := by decide +kernel
theorem dL_law_228 : decode cL_law 228 = .ok (.bipush 9, 2) := by decide +kernel
theorem dL_law_230 : decode cL_law 230 = .ok (.if_icmp .ne 34, 3) := by decide +kernel
theorem dL_law_233 : decode cL_law 233 = .ok (.goto 17, 3) := by decide +kernel
theorem dL_law_236 : decode cL_law 236 = .ok (.aload_n 1, 1) := by decide +kernel
theorem dL_law_237 : decode cL_law 237 = .ok (.invokestatic 158, 3) := by decide +kernel
theorem dL_law_240 : decode cL_law 240 = .ok (.ifCond .eq 24, 3) := by decide +kernel
theorem dL_law_243 : decode cL_law 243 = .ok (.aload_n 1, 1) := by decide +kernel
theorem dL_law_244 : decode cL_law 244 = .ok (.invokevirtual 68, 3) := by decide +kernel
theorem dL_law_247 : decode cL_law 247 = .ok (.ifCond .lt 17, 3) := by decide +kernel
theorem dL_law_250 : decode cL_law 250 = .ok (.aload_n 1, 1) := by decide +kernel
theorem dL_law_251 : decode cL_law 251 = .ok (.invokestatic 151, 3) := by decide +kernel
theorem dL_law_254 : decode cL_law 254 = .ok (.lload 4, 2) := by decide +kernel
theorem dL_law_256 : decode cL_law 256 = .ok (.lcmp, 1) := by decide +kernel
theorem dL_law_257 : decode cL_law 257 = .ok (.ifCond .ne 7, 3) := by decide +kernel
theorem dL_law_260 : decode cL_law 260 = .ok (.iconst 1, 1) := by decide +kernel
theorem dL_law_261 : decode cL_law 261 = .ok (.goto 4, 3) := by decide +kernel
theorem dL_law_264 : decode cL_law 264 = .ok (.iconst 0, 1) := by decide +kernel
theorem dL_law_265 : decode cL_law 265 = .ok (.istore_n 3, 1) := by decide +kernel
theorem dL_law_266 : decode cL_law 266 = .ok (.iinc 7 1, 3) := by decide +kernel
theorem dL_law_269 : decode cL_law 269 = .ok (.goto (-86), 3) := by decide +kernel
theorem dL_law_272 : decode cL_law 272 = .ok (.iconst 0, 1) := by decide +kernel
theorem dL_law_273 : decode cL_law 273 = .ok (.istore 7, 2) := by decide +kernel
theorem dL_law_275 : decode cL_law 275 = .ok (.iload_n 3, 1) := by decide +kernel
theorem dL_law_276 : decode cL_law 276 = .ok (.ifCond .eq 93, 3) := by decide +kernel
theorem dL_law_279 : decode cL_law 279 = .ok (.iload 7, 2) := by decide +kernel
theorem dL_law_281 : decode cL_law 281 = .ok (.bipush 8, 2) := by decide +kernel
theorem dL_law_283 : decode cL_law 283 = .ok (.if_icmp .ge 86, 3) := by decide +kernel
theorem dL_law_286 : decode cL_law 286 = .ok (.aload_n 1, 1) := by decide +kernel
theorem dL_law_287 : decode cL_law 287 = .ok (.iconst 4, 1) := by decide +kernel
theorem dL_law_288 : decode cL_law 288 = .ok (.iload 7, 2) := by decide +kernel
theorem dL_law_290 : decode cL_law 290 = .ok (.imul, 1) := by decide +kernel
theorem dL_law_291 : decode cL_law 291 = .ok (.bipush 32, 2) := by decide +kernel
theorem dL_law_293 : decode cL_law 293 = .ok (.irem, 1) := by decide +kernel
theorem dL_law_294 : decode cL_law 294 = .ok (.iload 7, 2) := by decide +kernel
theorem dL_law_296 : decode cL_law 296 = .ok (.iconst 4, 1) := by decide +kernel
theorem dL_law_297 : decode cL_law 297 = .ok (.irem, 1) := by decide +kernel
theorem dL_law_298 : decode cL_law 298 = .ok (.bipush 100, 2) := by decide +kernel
theorem dL_law_300 : decode cL_law 300 = .ok (.bipush 12, 2) := by decide +kernel
theorem dL_law_302 : decode cL_law 302 = .ok (.iload 7, 2) := by decide +kernel
theorem dL_law_304 : decode cL_law 304 = .ok (.imul, 1) := by decide +kernel
theorem dL_law_305 : decode cL_law 305 = .ok (.iadd, 1) := by decide +kernel
theorem dL_law_306 : decode cL_law 306 = .ok (.invokevirtual 24, 3) := by decide +kernel
theorem dL_law_309 : decode cL_law 309 = .ok (.pop, 1) := by decide +kernel
theorem dL_law_310 : decode cL_law 310 = .ok (.aload_n 1, 1) := by decide +kernel
theorem dL_law_311 : decode cL_law 311 = .ok (.iconst 4, 1) := by decide +kernel
theorem dL_law_312 : decode cL_law 312 = .ok (.iload 7, 2) := by decide +kernel
theorem dL_law_314 : decode cL_law 314 = .ok (.imul, 1) := by decide +kernel
theorem dL_law_315 : decode cL_law 315 = .ok (.bipush 32, 2) := by decide +kernel
theorem dL_law_317 : decode cL_law 317 = .ok (.irem, 1) := by decide +kernel
theorem dL_law_318 : decode cL_law 318 = .ok (.iconst 4, 1) := by decide +kernel
theorem dL_law_319 : decode cL_law 319 = .ok (.iload 7, 2) := by decide +kernel
theorem dL_law_321 : decode cL_law 321 = .ok (.imul, 1) := by decide +kernel
theorem dL_law_322 : decode cL_law 322 = .ok (.bipush 32, 2) := by decide +kernel
theorem dL_law_324 : decode cL_law 324 = .ok (.irem, 1) := by decide +kernel
theorem dL_law_325 : decode cL_law 325 = .ok (.iconst 1, 1) := by decide +kernel
theorem dL_law_326 : decode cL_law 326 = .ok (.iadd, 1) := by decide +kernel
theorem dL_law_327 : decode cL_law 327 = .ok (.bipush 60, 2) := by decide +kernel
theorem dL_law_329 : decode cL_law 329 = .ok (.invokevirtual 32, 3) := by decide +kernel
theorem dL_law_332 : decode cL_law 332 = .ok (.pop, 1) := by decide +kernel
theorem dL_law_333 : decode cL_law 333 = .ok (.aload_n 1, 1) := by decide +kernel
theorem dL_law_334 : decode cL_law 334 = .ok (.iconst 1, 1) := by decide +kernel
theorem dL_law_335 : decode cL_law 335 = .ok (.iconst 2, 1) := by decide +kernel
theorem dL_law_336 : decode cL_law 336 = .ok (.iload 7, 2) := by decide +kernel
theorem dL_law_338 : decode cL_law 338 = .ok (.imul, 1) := by decide +kernel
theorem dL_law_339 : decode cL_law 339 = .ok (.iadd, 1) := by decide +kernel
theorem dL_law_340 : decode cL_law 340 = .ok (.invokevirtual 41, 3) := by decide +kernel
theorem dL_law_343 : decode cL_law 343 = .ok (.pop, 1) := by decide +kernel
theorem dL_law_344 : decode cL_law 344 = .ok (.aload_n 1, 1) := by decide +kernel
theorem dL_law_345 : decode cL_law 345 = .ok (.iconst 4, 1) := by decide +kernel
theorem dL_law_346 : decode cL_law 346 = .ok (.iload 7, 2) := by decide +kernel
theorem dL_law_348 : decode cL_law 348 = .ok (.imul, 1) := by decide +kernel
theorem dL_law_349 : decode cL_law 349 = .ok (.bipush 32, 2) := by decide +kernel
theorem dL_law_351 : decode cL_law 351 = .ok (.irem, 1) := by decide +kernel
theorem dL_law_352 : decode cL_law 352 = .ok (.iconst 1, 1) := by decide +kernel
theorem dL_law_353 : decode cL_law 353 = .ok (.iadd, 1) := by decide +kernel
theorem dL_law_354 : decode cL_law 354 = .ok (.invokevirtual 38, 3) := by decide +kernel
theorem dL_law_357 : decode cL_law 357 = .ok (.pop, 1) := by decide +kernel
theorem dL_law_358 : decode cL_law 358 = .ok (.aload_n 1, 1) := by decide +kernel
theorem dL_law_359 : decode cL_law 359 = .ok (.invokestatic 158, 3) := by decide +kernel
theorem dL_law_362 : decode cL_law 362 = .ok (.istore_n 3, 1) := by decide +kernel
theorem dL_law_363 : decode cL_law 363 = .ok (.iinc 7 1, 3) := by decide +kernel
theorem dL_law_366 : decode cL_law 366 = .ok (.goto (-91), 3) := by decide +kernel
theorem dL_law_369 : decode cL_law 369 = .ok (.iload_n 3, 1) := by decide +kernel
theorem dL_law_370 : decode cL_law 370 = .ok (.ifCond .eq 35, 3) := by decide +kernel
theorem dL_law_373 : decode cL_law 373 = .ok (.aload_n 1, 1) := by decide +kernel
theorem dL_law_374 : decode cL_law 374 = .ok (.invokevirtual 65, 3) := by decide +kernel
theorem dL_law_377 : decode cL_law 377 = .ok (.iload 6, 2) := by decide +kernel
theorem dL_law_379 : decode cL_law 379 = .ok (.if_icmp .ne 26, 3) := by decide +kernel
theorem dL_law_382 : decode cL_law 382 = .ok (.aload_n 1, 1) := by decide +kernel
theorem dL_law_383 : decode cL_law 383 = .ok (.invokestatic 151, 3) := by decide +kernel
theorem dL_law_386 : decode cL_law 386 = .ok (.lload 4, 2) := by decide +kernel
theorem dL_law_388 : decode cL_law 388 = .ok (.lcmp, 1) := by decide +kernel
theorem dL_law_389 : decode cL_law 389 = .ok (.ifCond .ne 16, 3) := by decide +kernel
theorem dL_law_392 : decode cL_law 392 = .ok (.aload_n 1, 1) := by decide +kernel
theorem dL_law_393 : decode cL_law 393 = .ok (.invokevirtual 68, 3) := by decide +kernel
theorem dL_law_396 : decode cL_law 396 = .ok (.bipush (-15), 2) := by decide +kernel
theorem dL_law_398 : decode cL_law 398 = .ok (.if_icmp .ne 7, 3) := by decide +kernel
theorem dL_law_401 : decode cL_law 401 = .ok (.iconst 1, 1) := by decide +kernel
theorem dL_law_402 : decode cL_law 402 = .ok (.goto 4, 3) := by decide +kernel
theorem dL_law_405 : decode cL_law 405 = .ok (.iconst 0, 1) := by decide +kernel
theorem dL_law_406 : decode cL_law 406 = .ok (.ireturn, 1) := by decide +kernel
end
section
/-! every method's words: its own code and the law's words -/
abbrev wb (y : MethodName) (c : ByteArray) (n : Nat) (r : Option FieldType) : List Cond := Cond.code y c n r :: wsL_law
theorem big_good : wsL_law.all goodWord = true := by decide +kernel
theorem gb_mem {w cm : Cond} (h : w ∈ wsL_law) : w ∈ cm :: wsL_law ∧ ((w.onTables && w.keeps) = true ∨ ∃ ty, w = .arrayClass ty) := ⟨List.mem_cons_of_mem _ h, good_of_word (List.all_eq_true.mp big_good w h)⟩
theorem gb_lmem {w : Cond} (h : w ∈ wsL_law) : w ∈ wsL_law ∧ ((w.onTables && w.keeps) = true ∨ ∃ ty, w = .arrayClass ty) := ⟨h, good_of_word (List.all_eq_true.mp big_good w h)⟩
theorem gb_sub {a : List Cond} {cy : Cond} (h : ∀ w ∈ a, w ∈ wsL_law) (hc : cy ∈ wsL_law) : ∀ w ∈ a ++ (cy :: wsL_law), w ∈ wsL_law := by
  intro w hw
  rcases List.mem_append.mp hw with hw | hw
  · exact h w hw
  · rcases List.mem_cons.mp hw with rfl | hw
    · exact hc
    · exact hw
theorem gb_3 {a b c : Cond} (h1 : a ∈ wsL_law) (h2 : b ∈ wsL_law) (h3 : c ∈ wsL_law) : ∀ w ∈ [a, b, c], w ∈ wsL_law := by
  intro w hw
  simp only [List.mem_cons, List.not_mem_nil, or_false] at hw
  rcases hw with rfl | rfl | rfl <;> assumption
theorem gb_4 {a b c d : Cond} (h1 : a ∈ wsL_law) (h2 : b ∈ wsL_law) (h3 : c ∈ wsL_law) (h4 : d ∈ wsL_law) : ∀ w ∈ [a, b, c, d], w ∈ wsL_law := by
  intro w hw
  simp only [List.mem_cons, List.not_mem_nil, or_false] at hw
  rcases hw with rfl | rfl | rfl | rfl <;> assumption
section GB
variable {cm : Cond} {own C : String} {idx n : Nat} {y : MethodName} {c : ByteArray} {r : Option FieldType}
theorem gbC (hc : Cond.code y c n r ∈ wsL_law) : GoodIn (cm :: wsL_law) (wb y c n r) := fun w h => gb_mem (gb_sub (a := []) (fun _ q => absurd q List.not_mem_nil) hc w h)
theorem gbS (h1 : Cond.methodLink own idx y ∈ wsL_law) (h2 : Cond.static y ∈ wsL_law) (h3 : Cond.initialized y.cls ∈ wsL_law) (hc : Cond.code y c n r ∈ wsL_law) : GoodIn (cm :: wsL_law) (va_wsS own idx y (wb y c n r)) := fun w h => gb_mem (gb_sub (gb_3 h1 h2 h3) hc w h)
theorem gbV (h1 : Cond.methodLink own idx y ∈ wsL_law) (h2 : Cond.instanceMethod y ∈ wsL_law) (h3 : Cond.selects C y y ∈ wsL_law) (h4 : Cond.initialized C ∈ wsL_law) (hc : Cond.code y c n r ∈ wsL_law) : GoodIn (cm :: wsL_law) (wsV own idx C y (wb y c n r)) := fun w h => gb_mem (gb_sub (gb_4 h1 h2 h3 h4) hc w h)
theorem gbC.law (hc : Cond.code y c n r ∈ wsL_law) : GoodIn wsL_law (wb y c n r) := fun w h => gb_lmem (gb_sub (a := []) (fun _ q => absurd q List.not_mem_nil) hc w h)
theorem gbS.law (h1 : Cond.methodLink own idx y ∈ wsL_law) (h2 : Cond.static y ∈ wsL_law) (h3 : Cond.initialized y.cls ∈ wsL_law) (hc : Cond.code y c n r ∈ wsL_law) : GoodIn wsL_law (va_wsS own idx y (wb y c n r)) := fun w h => gb_lmem (gb_sub (gb_3 h1 h2 h3) hc w h)
theorem gbV.law (h1 : Cond.methodLink own idx y ∈ wsL_law) (h2 : Cond.instanceMethod y ∈ wsL_law) (h3 : Cond.selects C y y ∈ wsL_law) (h4 : Cond.initialized C ∈ wsL_law) (hc : Cond.code y c n r ∈ wsL_law) : GoodIn wsL_law (wsV own idx C y (wb y c n r)) := fun w h => gb_lmem (gb_sub (gb_4 h1 h2 h3 h4) hc w h)
end GB
/-! whole numbers: an int of the machine is i3 of a whole number; what is in range is one number -/
abbrev inR (x : Int) : Prop := -2147483648 ≤ x ∧ x ≤ 2147483647
def i3 (x : Int) : Int32 := Int32.ofInt x
theorem i3_0 : i3 0 = 0 := by decide +kernel
theorem i3_1 : i3 1 = 1 := by decide +kernel
theorem i3_add (a b : Int) : i3 a + i3 b = i3 (a + b) := (Int32.ofInt_add a b).symm
theorem i3_sub (a b : Int) : i3 a - i3 b = i3 (a - b) := (Int32.ofInt_sub a b).symm
theorem i3_mul (a b : Int) : i3 a * i3 b = i3 (a * b) := (Int32.ofInt_mul a b).symm
theorem i3_neg (a : Int) : - i3 a = i3 (-a) := (Int32.ofInt_neg a).symm
theorem i3_toInt {a : Int} (h : inR a) : (i3 a).toInt = a := Int32.toInt_ofInt_of_le (by have := h.1; omega) (by have := h.2; omega)
theorem i3_of (x : Int32) : i3 x.toInt = x := Int32.ofInt_toInt x
theorem inR_toInt (x : Int32) : inR x.toInt := by
  have h1 := Int32.le_toInt x
  have h2 := Int32.toInt_lt x
  constructor <;> omega
theorem i3_le {a b : Int} (ha : inR a) (hb : inR b) : i3 a ≤ i3 b ↔ a ≤ b := by rw [Int32.le_iff_toInt_le, i3_toInt ha, i3_toInt hb]
theorem i3_lt {a b : Int} (ha : inR a) (hb : inR b) : i3 a < i3 b ↔ a < b := by rw [Int32.lt_iff_toInt_lt, i3_toInt ha, i3_toInt hb]
theorem i3_eq {a b : Int} (ha : inR a) (hb : inR b) : i3 a = i3 b ↔ a = b := by
  constructor
  · intro h
    have h2 := congrArg Int32.toInt h
    rwa [i3_toInt ha, i3_toInt hb] at h2
  · intro h; rw [h]
theorem i3_nat (n : Nat) : Int32.ofNat n = i3 (n : Int) := (Int32.ofInt_eq_ofNat).symm
theorem inR_0 : inR 0 := by decide
theorem inR_div {a b : Int} (ha : inR a) (h0 : 0 ≤ a) (h1 : 0 < b) : inR (a / b) := by
  have h2 : 0 ≤ a / b := Int.ediv_nonneg h0 (by omega)
  have h3 : a / b ≤ a := Int.ediv_le_self b h0
  have := ha.2
  constructor <;> omega
theorem inR_mod {a b : Int} (hb : inR b) (h1 : 0 < b) : inR (a % b) := by
  have h2 := Int.emod_nonneg a (by omega : b ≠ 0)
  have h3 := Int.emod_lt_of_pos a h1
  have := hb.2
  constructor <;> omega
theorem i3_ne_m1 {b : Int} (hb : inR b) (h1 : 0 < b) : i3 b ≠ -1 := by
  intro h
  have h2 := congrArg Int32.toInt h
  rw [i3_toInt hb] at h2
  have h3 : (-1 : Int32).toInt = -1 := by decide +kernel
  omega
theorem i3_ne_0 {b : Int} (hb : inR b) (h1 : 0 < b) : ¬ i3 b = 0 := by
  intro h
  rw [← i3_0, i3_eq hb inR_0] at h
  omega
theorem i3_div {a b : Int} (ha : inR a) (hb : inR b) (h0 : 0 ≤ a) (h1 : 0 < b) : i3 a / i3 b = i3 (a / b) := by
  apply Int32.toInt_inj.1
  rw [Int32.toInt_div_of_ne_right _ _ (i3_ne_m1 hb h1), i3_toInt ha, i3_toInt hb, i3_toInt (inR_div ha h0 h1), Int.tdiv_eq_ediv_of_nonneg h0]
theorem i3_rem {a b : Int} (ha : inR a) (hb : inR b) (h0 : 0 ≤ a) (h1 : 0 < b) : i3 a - i3 a / i3 b * i3 b = i3 (a % b) := by
  rw [i3_div ha hb h0 h1, i3_mul, i3_sub, Int.emod_def, Int.mul_comm]
theorem i3_clamp {a : Int} (h : inR a) : (i3 a).toNatClampNeg = a.toNat := by
  show (i3 a).toInt.toNat = a.toNat
  rw [i3_toInt h]
theorem i3_in {a : Int} {n : Nat} (h : inR a) (h0 : 0 ≤ a) (h1 : a < n) : vp_in (i3 a) n := by
  intro q
  rcases q with q | q
  · rw [← i3_0, i3_lt h inR_0] at q; omega
  · rw [i3_clamp h] at q; omega
def andI (a b : Int) : Int := (i3 a &&& i3 b).toInt
def orI (a b : Int) : Int := (i3 a ||| i3 b).toInt
def shlI (a b : Int) : Int := (i3 a <<< (i3 b &&& 31)).toInt
def shrI (a b : Int) : Int := (i3 a >>> (i3 b &&& 31)).toInt
def ushrI (a b : Int) : Int := ((i3 a).toUInt32 >>> ((i3 b).toUInt32 &&& Int32.toUInt32 31)).toInt32.toInt
/-! guards, what comes next, loops -/
def gd {α : Type} (x : Int) (k : Option α) : Option α := if -2147483648 ≤ x ∧ x ≤ 2147483647 then k else none
theorem gd_el {α : Type} {x : Int} {k : Option α} {r : α} (h : gd x k = some r) : inR x ∧ k = some r := by
  unfold gd at h
  by_cases c : -2147483648 ≤ x ∧ x ≤ 2147483647
  · rw [if_pos c] at h; exact ⟨c, h⟩
  · rw [if_neg c] at h; cases h
theorem gd_ok {α : Type} {x : Int} {k : Option α} (h : -2147483648 ≤ x ∧ x ≤ 2147483647) : gd x k = k := if_pos h
/-- a divisor above 0 and a number that is not below 0 -/
def gq {α : Type} (x y : Int) (k : Option α) : Option α := if 0 ≤ x ∧ 0 < y then k else none
theorem gq_el {α : Type} {x y : Int} {k : Option α} {r : α} (h : gq x y k = some r) : (0 ≤ x ∧ 0 < y) ∧ k = some r := by
  unfold gq at h
  by_cases c : 0 ≤ x ∧ 0 < y
  · rw [if_pos c] at h; exact ⟨c, h⟩
  · rw [if_neg c] at h; cases h
theorem gq_ok {α : Type} {x y : Int} {k : Option α} (h : 0 ≤ x ∧ 0 < y) : gq x y k = k := if_pos h
/-- an index x of a row of n -/
def gx {α : Type} (x : Int) (n : Int) (k : Option α) : Option α := if 0 ≤ x ∧ x < n then k else none
theorem gx_el {α : Type} {x n : Int} {k : Option α} {r : α} (h : gx x n k = some r) : (0 ≤ x ∧ x < n) ∧ k = some r := by
  unfold gx at h
  by_cases c : 0 ≤ x ∧ x < n
  · rw [if_pos c] at h; exact ⟨c, h⟩
  · rw [if_neg c] at h; cases h
theorem gx_ok {α : Type} {x n : Int} {k : Option α} (h : 0 ≤ x ∧ x < n) : gx x n k = k := if_pos h
/-- a truth value -/
def gz {α : Type} (x : Int) (k : Option α) : Option α := if x = 0 ∨ x = 1 then k else none
theorem gz_el {α : Type} {x : Int} {k : Option α} {r : α} (h : gz x k = some r) : (x = 0 ∨ x = 1) ∧ k = some r := by
  unfold gz at h
  by_cases c : x = 0 ∨ x = 1
  · rw [if_pos c] at h; exact ⟨c, h⟩
  · rw [if_neg c] at h; cases h
theorem gz_ok {α : Type} {x : Int} {k : Option α} (h : x = 0 ∨ x = 1) : gz x k = k := if_pos h
theorem bind_el {α β : Type} {x : Option α} {g : α → Option β} {y : β} (h : x.bind g = some y) : ∃ a, x = some a ∧ g a = some y := by
  cases x with
  | none => cases h
  | some a => exact ⟨a, rfl, h⟩
theorem some_el {α : Type} {x y : α} (h : some x = some y) : x = y := Option.some.inj h
def loopN {σ ρ : Type} (f : σ → Option (σ ⊕ ρ)) : Nat → σ → Option ρ
  | 0, _ => none
  | n + 1, s => (f s).bind fun x => match x with
    | .inl s' => loopN f n s'
    | .inr r => some r
theorem loop_rule {σ ρ : Type} (f : σ → Option (σ ⊕ ρ)) (At : σ → Prop) (Ex : ρ → Prop) (h : ∀ s x, f s = some x → (match x with | .inl s' => At s' | .inr r => Ex r) → At s) : ∀ (n : Nat) (s : σ) (r : ρ), loopN f n s = some r → Ex r → At s := by
  intro n
  induction n with
  | zero => intro s r h1; cases h1
  | succ n ih =>
    intro s r h1 h2
    obtain ⟨x, hx, h3⟩ := bind_el h1
    refine h s x hx ?_
    cases x with
    | inl s' => exact ih s' r h3 h2
    | inr r' => cases h3; exact h2
/-- what the rows and numbers hold, by object and place -/
abbrev MemG : Type := Nat → Nat → Int
def up (M : MemG) (a j : Nat) (v : Int) : MemG := fun b i => if b = a ∧ i = j then v else M b i
theorem up_other {M : MemG} {a j b : Nat} {v : Int} (h : b ≠ a) : up M a j v b = M b := by funext i; simp [up, h]
def lenA (a : Nat) : Nat := if a < 82 then (if (a - 16) % 6 < 3 then 32 else if (a - 16) % 6 < 5 then 33 else 16) else if a = 82 then 60 else if a = 83 then 40 else if a = 84 then 39 else 33
theorem lenA_le (a : Nat) : lenA a ≤ 60 := by unfold lenA; repeat' split
                                              all_goals decide
/-- what does not change: classes, addresses, the script -/
abbrev gG : Type := va_G × (ClassId × (ClassId × ((Nat → Nat) × ((Nat → Int) × (Nat × (Nat → Prop))))))
def gA (G : gG) (i : Nat) : Nat := G.2.2.2.1 i
def gXs (G : gG) : Nat → Int := G.2.2.2.2.1
def gL (G : gG) : Nat := G.2.2.2.2.2.1
/-- the addresses that may be written: the pool's among them -/
def PA (G : gG) : Nat → Prop := G.2.2.2.2.2.2
/-- the pool's row of an object -/
def entF (G : gG) (f : Nat → Int) (i : Nat) : va_E :=
  if 16 ≤ i then .inl (G.2.1, lenA i, .inl (fun j => i3 (f j)))
  else if 5 ≤ i then .inr (3, [.ref (gA G (16 + 6 * (i - 5))), .ref (gA G (16 + 6 * (i - 5) + 1)), .ref (gA G (16 + 6 * (i - 5) + 2)), .ref (gA G (16 + 6 * (i - 5) + 3)), .ref (gA G (16 + 6 * (i - 5) + 4)), .ref (gA G (16 + 6 * (i - 5) + 5))])
  else if i = 0 then .inr (4, [.ref (gA G 5), .ref (gA G 6), .ref (gA G 7), .int (i3 (f 3)), .ref (gA G 1), .ref (gA G 2), .ref (gA G 3), .int (i3 (f 7)), .int (i3 (f 8)), .ref (gA G 85)])
  else if i = 1 then .inr (2, [.ref (gA G 4), .int (i3 (f 1)), .int (i3 (f 2))])
  else if i = 2 then .inr (0, [.ref (gA G 82), .int (i3 (f 1)), .ref (gA G 83), .int (i3 (f 3)), .int (i3 (f 4)), .int (i3 (f 5))])
  else if i = 3 then .inr (1, [.ref (gA G 84), .int (i3 (f 1))])
  else .inl (G.2.2.1, 8, .inr (.inr (.inr (.inr (fun j => some (gA G (5 + (3 + j))))))))
def pW (G : gG) (M : MemG) : va_W := (List.range 86).map fun i => (gA G i, entF G (M i) i)
theorem pW_get (G : gG) (M : MemG) {i : Nat} (h : i < 86) : (pW G M)[i]? = some (gA G i, entF G (M i) i) := by
  unfold pW
  rw [List.getElem?_map, List.getElem?_range h]
  rfl
theorem pW_some {G : gG} {M : MemG} {i : Nat} {q : Nat × va_E} (h : (pW G M)[i]? = some q) : i < 86 ∧ q = (gA G i, entF G (M i) i) := by
  by_cases hi : i < 86
  · rw [pW_get G M hi] at h
    exact ⟨hi, (Option.some.inj h).symm⟩
  · unfold pW at h
    rw [List.getElem?_eq_none (by simp; omega)] at h
    cases h
theorem pW_set {G : gG} {M M' : MemG} {i : Nat} {e : va_E} (h : i < 86) (he : entF G (M' i) i = e) (ho : ∀ j, j ≠ i → M' j = M j) : (pW G M).set i (gA G i, e) = pW G M' := by
  apply List.ext_getElem?
  intro j
  rw [List.getElem?_set]
  by_cases hj : i = j
  · subst hj
    rw [if_pos rfl, if_pos (by unfold pW; simp; exact h), pW_get G M' h, he]
  · rw [if_neg hj]
    by_cases h6 : j < 86
    · rw [pW_get G M h6, pW_get G M' h6, ho j (fun q => hj q.symm)]
    · rw [List.getElem?_eq_none (by unfold pW; simp; omega), List.getElem?_eq_none (by unfold pW; simp; omega)]
def inj86 (G : gG) : Prop := (∀ i j, i < 86 → j < 86 → gA G i = gA G j → i = j) ∧ ∀ i, i < 86 → PA G (gA G i)
theorem pW_D {G : gG} (h : inj86 G) (M : MemG) : va_D (PA G) (pW G M) := by
  refine ⟨fun i j p q hp hq e => ?_, fun k q hq => ?_⟩
  · obtain ⟨h1, rfl⟩ := pW_some hp
    obtain ⟨h2, rfl⟩ := pW_some hq
    exact h.1 i j h1 h2 e
  · obtain ⟨h1, rfl⟩ := pW_some hq
    exact h.2 k h1
def tabS (a : Nat) (j : Nat) : Int := if a = 86 then ([20, 15, 10, 12] : List Int).getD j 0 else ([119, 114, 111, 98] : List Int).getD j 0
/-- the texts: 0 to 6 the patterns of commands, 7 to 25 the law's own: their characters -/
def txI : List (List Int) := [[115, 116, 111, 114, 101, 32, 50, 32, 63, 32, 51], [116, 97, 107, 101, 32, 50, 32, 51], [109, 111, 118, 101, 32, 50, 62, 50, 32, 51], [111, 114, 100, 101, 114, 32, 63, 32, 51], [102, 105, 120, 32, 50], [112, 97, 115, 115, 32, 50], [], [115, 116, 111, 114, 101, 32, 48, 32, 119, 32, 53, 48], [115, 116, 111, 114, 101, 32, 51, 49, 32, 98, 32, 50, 48, 48], [115, 116, 111, 114, 101, 32, 55, 32, 114, 32, 48, 48, 49, 59, 115, 116, 111, 114, 101, 32, 55, 32, 111, 32, 49], [116, 97, 107, 101, 32, 48, 32, 49], [116, 97, 107, 101, 32, 57, 32, 50, 48, 48], [109, 111, 118, 101, 32, 48, 62, 49, 32, 53], [109, 111, 118, 101, 32, 49, 62, 49, 32, 49], [109, 111, 118, 101, 32, 51, 62, 48, 52, 32, 49, 48, 48, 59, 116, 97, 107, 101, 32, 52, 32, 49, 48, 48], [111, 114, 100, 101, 114, 32, 119, 32, 49], [111, 114, 100, 101, 114, 32, 98, 32, 57, 57, 57], [111, 114, 100, 101, 114, 32, 114, 32, 49, 48, 59, 111, 114, 100, 101, 114, 32, 114, 32, 49, 48], [102, 105, 120, 32, 49], [102, 105, 120, 32, 51, 50], [102, 105, 120, 32, 51, 51], [112, 97, 115, 115, 32, 49], [112, 97, 115, 115, 32, 51, 48], [112, 97, 115, 115, 32, 48], [115, 116, 111, 114, 101, 32, 48, 32, 119, 32, 48], [115, 116, 111, 114, 101, 32, 50, 32, 119, 32, 50, 48, 48, 59, 115, 116, 111, 114, 101, 32, 50, 32, 119, 32, 49]]
def txL : List Nat := [11, 8, 10, 9, 5, 6, 0, 12, 14, 25, 8, 10, 10, 10, 24, 9, 11, 21, 5, 6, 6, 6, 7, 6, 11, 25]
def txB : List (List Int32) := [[115, 116, 111, 114, 101, 32, 50, 32, 63, 32, 51], [116, 97, 107, 101, 32, 50, 32, 51], [109, 111, 118, 101, 32, 50, 62, 50, 32, 51], [111, 114, 100, 101, 114, 32, 63, 32, 51], [102, 105, 120, 32, 50], [112, 97, 115, 115, 32, 50], [], [115, 116, 111, 114, 101, 32, 48, 32, 119, 32, 53, 48], [115, 116, 111, 114, 101, 32, 51, 49, 32, 98, 32, 50, 48, 48], [115, 116, 111, 114, 101, 32, 55, 32, 114, 32, 48, 48, 49, 59, 115, 116, 111, 114, 101, 32, 55, 32, 111, 32, 49], [116, 97, 107, 101, 32, 48, 32, 49], [116, 97, 107, 101, 32, 57, 32, 50, 48, 48], [109, 111, 118, 101, 32, 48, 62, 49, 32, 53], [109, 111, 118, 101, 32, 49, 62, 49, 32, 49], [109, 111, 118, 101, 32, 51, 62, 48, 52, 32, 49, 48, 48, 59, 116, 97, 107, 101, 32, 52, 32, 49, 48, 48], [111, 114, 100, 101, 114, 32, 119, 32, 49], [111, 114, 100, 101, 114, 32, 98, 32, 57, 57, 57], [111, 114, 100, 101, 114, 32, 114, 32, 49, 48, 59, 111, 114, 100, 101, 114, 32, 114, 32, 49, 48], [102, 105, 120, 32, 49], [102, 105, 120, 32, 51, 50], [102, 105, 120, 32, 51, 51], [112, 97, 115, 115, 32, 49], [112, 97, 115, 115, 32, 51, 48], [112, 97, 115, 115, 32, 48], [115, 116, 111, 114, 101, 32, 48, 32, 119, 32, 48], [115, 116, 111, 114, 101, 32, 50, 32, 119, 32, 50, 48, 48, 59, 115, 116, 111, 114, 101, 32, 50, 32, 119, 32, 49]]
def lenS (i : Nat) : Nat := txL.getD i 0
def chS (i j : Nat) : Int := (txI.getD i []).getD j 0
/-! the world: the pool, the classes, what is given and stays -/
def rngM (M : MemG) : Prop := ∀ i j, inR (M i j)
theorem rngM_up {M : MemG} (h : rngM M) {a j : Nat} {v : Int} (hv : inR v) : rngM (up M a j v) := by
  intro b i
  unfold up
  by_cases c : b = a ∧ i = j
  · rw [if_pos c]; exact hv
  · rw [if_neg c]; exact h b i
def vkR7 (G : gG) (U : State) : Prop := vk_R RX0 72 "store 2 ? 3" (gA G 100) U ∧ vk_R RX0 74 "take 2 3" (gA G 101) U ∧ vk_R RX0 76 "move 2>2 3" (gA G 102) U ∧ vk_R RX0 78 "order ? 3" (gA G 103) U ∧ vk_R RX0 80 "fix 2" (gA G 104) U ∧ vk_R RX0 82 "pass 2" (gA G 105) U ∧ vk_R RX0 84 "" (gA G 106) U
def nwL : List Cond := [.methodLinkNest RX3 30 yX4_copyRow RX4, .methodLinkNest RX3 34 yX4_at RX4, .methodLinkNest RX3 38 yX4_put RX4, .methodLinkNest RX3 54 yX4_sizeOf RX4, .methodLinkNest RX3 63 yX4_loadOf RX4, .fieldLinkNest RX3 86 RX4 "WEEKS_KEPT" "[I" RX4, .methodLinkNest RX0 35 yX4_at RX4, .methodLinkNest RX0 31 yX4_put RX4, .methodLinkNest RX0 94 yX4_isWithin RX4, .fieldLinkNest RX0 98 RX4 "LETTERS" "[I" RX4, .methodLinkNest RX1 19 yX4_put RX4, .methodLinkNest RX1 27 yX4_isWithin RX4, .methodLinkNest RX1 31 yX4_at RX4]
def NwG (U : State) : Prop := ∀ w ∈ nwL, va_Nw w U
theorem NwG.to {u U : State} (h : NwG u) (hm : ∀ (a : String) (i : Nat) (x : MethodName) (t : String), va_Nw (.methodLinkNest a i x t) u → va_Nw (.methodLinkNest a i x t) U) (hf : ∀ (a : String) (i : Nat) (b n d t : String), va_Nw (.fieldLinkNest a i b n d t) u → va_Nw (.fieldLinkNest a i b n d t) U) : NwG U := by
  intro w hw
  have hw2 := h w hw
  unfold nwL at hw
  simp only [List.mem_cons, List.not_mem_nil, or_false] at hw
  rcases hw with rfl | rfl | rfl | rfl | rfl | rfl | rfl | rfl | rfl | rfl | rfl | rfl | rfl
  all_goals first | exact hm _ _ _ _ hw2 | exact hf _ _ _ _ _ _ hw2
theorem NwG.warm {s U : State} (hW : s.WarmedH U.vm) (h : NwG s) : NwG U := h.to (fun _ _ _ _ q => va_Nw.warmM hW q) (fun _ _ _ _ _ _ q => va_Nw.warmF hW q)
theorem NwG.same {u U : State} (hv : U.vm = u.vm) (h : NwG u) : NwG U := h.to (fun _ _ _ _ q => va_Nw.same rfl hv.symm q) (fun _ _ _ _ _ _ q => va_Nw.same rfl hv.symm q)
def StG (G : gG) (U : State) (H : Heap) : Prop :=
  (va_Z RX4 "WEEKS_KEPT" "[I" (.ref (gA G 86)) (PA G) U H ∧ va_T .int (gA G 86) 4 (fun j => .int (i3 (tabS 86 j))) (PA G) U H) ∧
  (va_Z RX4 "LETTERS" "[I" (.ref (gA G 87)) (PA G) U H ∧ va_T .int (gA G 87) 4 (fun j => .int (i3 (tabS 87 j))) (PA G) U H) ∧
  (va_Z RL "TEXTS" "[Ljava/lang/String;" (.ref (gA G 88)) (PA G) U H ∧ va_T (.object "java/lang/String") (gA G 88) 19 (fun j => .ref (gA G (100 + (7 + j)))) (PA G) U H) ∧
  va_T .int (gA G 89) (gL G) (fun j => .int (i3 (gXs G j))) (PA G) U H ∧
  vk_S 26 txL txB (fun i => gA G (100 + i)) (fun i => gA G (200 + i)) (PA G) U H ∧
  va_Z "java/lang/String" "COMPACT_STRINGS" "Z" (.int 1) (PA G) U H ∧
  va_Zq "jdk/internal/util/Preconditions" "SIOOBE_FORMATTER" "Ljava/util/function/BiFunction;" (PA G) U H
theorem StG.kept {G : gG} {U : State} {H H1 : Heap} (h : StG G U H) (hq : ∀ a : Nat, a < H.size → ¬ PA G a → H1[a]? = H[a]?) : StG G U H1 :=
  ⟨⟨h.1.1.kept hq, h.1.2.kept hq⟩, ⟨h.2.1.1.kept hq, h.2.1.2.kept hq⟩, ⟨h.2.2.1.1.kept hq, h.2.2.1.2.kept hq⟩, h.2.2.2.1.kept hq, h.2.2.2.2.1.kept hq, h.2.2.2.2.2.1.kept hq, h.2.2.2.2.2.2.kept hq⟩
theorem StG.moved {G : gG} {u U : State} {H : Heap} (hvm : u.vm.Alike U.vm) (h : StG G u H) : StG G U H :=
  ⟨⟨va_Z.moved hvm h.1.1, va_T.moved hvm h.1.2⟩, ⟨va_Z.moved hvm h.2.1.1, va_T.moved hvm h.2.1.2⟩, ⟨va_Z.moved hvm h.2.2.1.1, va_T.moved hvm h.2.2.1.2⟩, va_T.moved hvm h.2.2.2.1, vk_S.moved hvm h.2.2.2.2.1, va_Z.moved hvm h.2.2.2.2.2.1, va_Zq.moved hvm h.2.2.2.2.2.2⟩
abbrev gT (G : gG) : List (ClassId × FieldType) := [(G.2.1, .int), (G.2.2.1, .object "GranaryLadder$Wall")]
def Wd (G : gG) (M : MemG) (U : State) (H : Heap) : Prop := va_P G.1 vwCl (pW G M) H ∧ va_K G.1 vwCl (gT G) U ∧ inj86 G ∧ rngM M ∧ StG G U H ∧ vkR7 G U ∧ NwG U ∧ (inR (gL G : Int) ∧ ∀ j, inR (gXs G j))
theorem Wd.P {G : gG} {M : MemG} {U : State} {H : Heap} (h : Wd G M U H) : va_P G.1 vwCl (pW G M) H := h.1
theorem Wd.K {G : gG} {M : MemG} {U : State} {H : Heap} (h : Wd G M U H) : va_K G.1 vwCl (gT G) U := h.2.1
theorem Wd.J {G : gG} {M : MemG} {U : State} {H : Heap} (h : Wd G M U H) : inj86 G := h.2.2.1
theorem Wd.R {G : gG} {M : MemG} {U : State} {H : Heap} (h : Wd G M U H) : rngM M := h.2.2.2.1
theorem Wd.S {G : gG} {M : MemG} {U : State} {H : Heap} (h : Wd G M U H) : StG G U H := h.2.2.2.2.1
theorem Wd.V {G : gG} {M : MemG} {U : State} {H : Heap} (h : Wd G M U H) : vkR7 G U := h.2.2.2.2.2.1
theorem Wd.N {G : gG} {M : MemG} {U : State} {H : Heap} (h : Wd G M U H) : NwG U := h.2.2.2.2.2.2.1
theorem Wd.X {G : gG} {M : MemG} {U : State} {H : Heap} (h : Wd G M U H) : inR (gL G : Int) ∧ ∀ j, inR (gXs G j) := h.2.2.2.2.2.2.2
theorem Wd.D {G : gG} {M : MemG} {U : State} {H : Heap} (h : Wd G M U H) : va_D (PA G) (pW G M) := pW_D h.J M
theorem Wd.warm {G : gG} {M : MemG} {s U : State} {H : Heap} (hW : s.WarmedH U.vm) (h : Wd G M s H) : Wd G M U H :=
  ⟨h.P, va_K.moved hW.alike h.K, h.J, h.R, StG.moved hW.alike h.S, ⟨vk_R.warm hW h.V.1, vk_R.warm hW h.V.2.1, vk_R.warm hW h.V.2.2.1, vk_R.warm hW h.V.2.2.2.1, vk_R.warm hW h.V.2.2.2.2.1, vk_R.warm hW h.V.2.2.2.2.2.1, vk_R.warm hW h.V.2.2.2.2.2.2⟩, h.N.warm hW, h.X⟩
theorem Wd.same {G : gG} {M : MemG} {u U : State} {H : Heap} (hv : U.vm = u.vm) (h : Wd G M u H) : Wd G M U H :=
  ⟨h.P, va_K.moved (by rw [hv]; exact Vm.Alike.refl u.vm) h.K, h.J, h.R, StG.moved (by rw [hv]; exact Vm.Alike.refl u.vm) h.S, ⟨vk_R.same hv h.V.1, vk_R.same hv h.V.2.1, vk_R.same hv h.V.2.2.1, vk_R.same hv h.V.2.2.2.1, vk_R.same hv h.V.2.2.2.2.1, vk_R.same hv h.V.2.2.2.2.2.1, vk_R.same hv h.V.2.2.2.2.2.2⟩, h.N.same hv, h.X⟩
/-- the pool changed, the rest of the heap did not -/
theorem Wd.back {G : gG} {M M' : MemG} {s : State} {H H1 : Heap} (h : Wd G M s H) (hP : va_P G.1 vwCl (pW G M') H1) (hR : rngM M') (hq : ∀ a : Nat, a < H.size → ¬ PA G a → H1[a]? = H[a]?) : Wd G M' s H1 :=
  ⟨hP, h.K, h.J, hR, h.S.kept hq, h.V, h.N, h.X⟩
/-! a method's contract: over the world, with what it answers and the world behind it -/
def PcG (G : gG) (M : MemG) (av : List Value) : Array Value → State → Prop := va_Pc av (fun U => Wd G M U U.heap)
def BcG (G : gG) (M : MemG) : State → Prop := fun t => va_P G.1 vwCl (pW G M) t.heap ∧ rngM M
def QcI (G : gG) (M : MemG) (r : Int) : Array Value → State → Outcome → State → Prop := va_Qi (fun (x : Int32) (_ : Unit) => x = i3 r ∧ inR r) (fun _ t => BcG G M t) (PA G)
def QcZ (G : gG) (M : MemG) (r : Int) : Array Value → State → Outcome → State → Prop := va_Qi (fun (x : Int32) (_ : Unit) => x = i3 r ∧ (r = 0 ∨ r = 1)) (fun _ t => BcG G M t) (PA G)
def QcL (G : gG) (M : MemG) (r : Int64) : Array Value → State → Outcome → State → Prop := va_Ql (fun (x : Int64) (_ : Unit) => x = r) (fun _ t => BcG G M t) (PA G)
def QcF (G : gG) (M : MemG) (r : UInt32) : Array Value → State → Outcome → State → Prop := va_Qf (fun (x : UInt32) (_ : Unit) => x = r) (fun _ t => BcG G M t) (PA G)
def QcD (G : gG) (M : MemG) (r : UInt64) : Array Value → State → Outcome → State → Prop := va_Qd (fun (x : UInt64) (_ : Unit) => x = r) (fun _ t => BcG G M t) (PA G)
def QcV (G : gG) (M : MemG) : Array Value → State → Outcome → State → Prop := va_Qv (fun (_ : Unit) => True) (fun _ t => BcG G M t) (PA G)
/-- it answers the object of the place i -/
def QcA (G : gG) (M : MemG) (i : Nat) : Array Value → State → Outcome → State → Prop := va_Qr (fun (_ : Unit) => True) (fun _ a t => a = gA G i ∧ BcG G M t) (PA G)
theorem PcG_blind (G : gG) (M : MemG) (av : List Value) : FrameBlind (PcG G M av) := by
  intro a U g mk h
  exact ⟨h.1, Wd.same (u := U) rfl h.2⟩
theorem PcG_of {G : gG} {M : MemG} {av : List Value} {s U : State} {H : Heap} (h : Wd G M s H) (hU : U.heap = H) (hW : s.WarmedH U.vm) : PcG G M av av.toArray U := by
  refine ⟨rfl, ?_⟩
  show Wd G M U U.heap
  rw [hU]
  exact h.warm hW
theorem inR_z {r : Int} (h : r = 0 ∨ r = 1) : inR r := by
  rcases h with h | h <;> subst h <;> decide
section KR
variable {p : Program} {l : Launch} {e : Env} {R : Room} {s : State} {m : MethodId} {args : Array Value} {below : List Frame} {meth : Method} {c : Code} {H : Heap} {locs : List Loc} {cells slots : Nat} {Q : State → Prop} {cc : ByteArray} {pc : Nat} {ls : Array Slot} {rest : List Value} {G : gG} {M M' : MemG}
/-! rows over whole numbers -/
theorem k_const {n : Int} (hx : p.tables.exec = Jvm.exec) (hb : c.code = cc) (hdg : decode cc pc = .ok (.iconst n, 1)) (k : W p l e R s m args below meth c H locs cells slots Q (F0 m (pc + 1) ls (.int (i3 n) :: rest))) : W p l e R s m args below meth c H locs cells slots Q (F0 m pc ls rest) := lv_iconst (v := i3 n) hx hb hdg rfl k
theorem k_bipush {n : Int} (hx : p.tables.exec = Jvm.exec) (hb : c.code = cc) (hdg : decode cc pc = .ok (.bipush n, 2)) (hn : (Int8.ofInt n).toInt32 = i3 n) (k : W p l e R s m args below meth c H locs cells slots Q (F0 m (pc + 2) ls (.int (i3 n) :: rest))) : W p l e R s m args below meth c H locs cells slots Q (F0 m pc ls rest) := lv_bipush (v := i3 n) hx hb hdg hn k
theorem k_sipush {n : Int} (hx : p.tables.exec = Jvm.exec) (hb : c.code = cc) (hdg : decode cc pc = .ok (.sipush n, 3)) (hn : (Int16.ofInt n).toInt32 = i3 n) (k : W p l e R s m args below meth c H locs cells slots Q (F0 m (pc + 3) ls (.int (i3 n) :: rest))) : W p l e R s m args below meth c H locs cells slots Q (F0 m pc ls rest) := lv_sipush (v := i3 n) hx hb hdg hn k
theorem k_add {a b : Int} (hx : p.tables.exec = Jvm.exec) (hb : c.code = cc) (hdg : decode cc pc = .ok (.iadd, 1)) (k : W p l e R s m args below meth c H locs cells slots Q (F0 m (pc + 1) ls (.int (i3 (a + b)) :: rest))) : W p l e R s m args below meth c H locs cells slots Q (F0 m pc ls (.int (i3 b) :: .int (i3 a) :: rest)) := lv_iadd hx hb hdg (by rw [i3_add]; exact k)
theorem k_sub {a b : Int} (hx : p.tables.exec = Jvm.exec) (hb : c.code = cc) (hdg : decode cc pc = .ok (.isub, 1)) (k : W p l e R s m args below meth c H locs cells slots Q (F0 m (pc + 1) ls (.int (i3 (a - b)) :: rest))) : W p l e R s m args below meth c H locs cells slots Q (F0 m pc ls (.int (i3 b) :: .int (i3 a) :: rest)) := lv_isub hx hb hdg (by rw [i3_sub]; exact k)
theorem k_mul {a b : Int} (hx : p.tables.exec = Jvm.exec) (hb : c.code = cc) (hdg : decode cc pc = .ok (.imul, 1)) (k : W p l e R s m args below meth c H locs cells slots Q (F0 m (pc + 1) ls (.int (i3 (a * b)) :: rest))) : W p l e R s m args below meth c H locs cells slots Q (F0 m pc ls (.int (i3 b) :: .int (i3 a) :: rest)) := lv_imul hx hb hdg (by rw [i3_mul]; exact k)
theorem k_neg {a : Int} (hx : p.tables.exec = Jvm.exec) (hb : c.code = cc) (hdg : decode cc pc = .ok (.ineg, 1)) (k : W p l e R s m args below meth c H locs cells slots Q (F0 m (pc + 1) ls (.int (i3 (-a)) :: rest))) : W p l e R s m args below meth c H locs cells slots Q (F0 m pc ls (.int (i3 a) :: rest)) := lv_ineg hx hb hdg (by rw [i3_neg]; exact k)
theorem k_div {a b : Int} (hx : p.tables.exec = Jvm.exec) (hb : c.code = cc) (hdg : decode cc pc = .ok (.idiv, 1)) (ha : inR a) (hbr : inR b) (h : 0 ≤ a ∧ 0 < b) (k : W p l e R s m args below meth c H locs cells slots Q (F0 m (pc + 1) ls (.int (i3 (a / b)) :: rest))) : W p l e R s m args below meth c H locs cells slots Q (F0 m pc ls (.int (i3 b) :: .int (i3 a) :: rest)) := lv_idiv hx hb hdg (i3_ne_0 hbr h.2) (by rw [i3_div ha hbr h.1 h.2]; exact k)
theorem k_rem {a b : Int} (hx : p.tables.exec = Jvm.exec) (hb : c.code = cc) (hdg : decode cc pc = .ok (.irem, 1)) (ha : inR a) (hbr : inR b) (h : 0 ≤ a ∧ 0 < b) (k : W p l e R s m args below meth c H locs cells slots Q (F0 m (pc + 1) ls (.int (i3 (a % b)) :: rest))) : W p l e R s m args below meth c H locs cells slots Q (F0 m pc ls (.int (i3 b) :: .int (i3 a) :: rest)) := lv_irem hx hb hdg (i3_ne_0 hbr h.2) (by rw [i3_rem ha hbr h.1 h.2]; exact k)
theorem k_and {a b : Int} (hx : p.tables.exec = Jvm.exec) (hb : c.code = cc) (hdg : decode cc pc = .ok (.iand, 1)) (k : W p l e R s m args below meth c H locs cells slots Q (F0 m (pc + 1) ls (.int (i3 (andI a b)) :: rest))) : W p l e R s m args below meth c H locs cells slots Q (F0 m pc ls (.int (i3 b) :: .int (i3 a) :: rest)) := lv_iand hx hb hdg (by unfold andI at k; rw [i3_of] at k; exact k)
theorem k_or {a b : Int} (hx : p.tables.exec = Jvm.exec) (hb : c.code = cc) (hdg : decode cc pc = .ok (.ior, 1)) (k : W p l e R s m args below meth c H locs cells slots Q (F0 m (pc + 1) ls (.int (i3 (orI a b)) :: rest))) : W p l e R s m args below meth c H locs cells slots Q (F0 m pc ls (.int (i3 b) :: .int (i3 a) :: rest)) := lv_ior hx hb hdg (by unfold orI at k; rw [i3_of] at k; exact k)
theorem k_shl {a b : Int} (hx : p.tables.exec = Jvm.exec) (hb : c.code = cc) (hdg : decode cc pc = .ok (.ishl, 1)) (k : W p l e R s m args below meth c H locs cells slots Q (F0 m (pc + 1) ls (.int (i3 (shlI a b)) :: rest))) : W p l e R s m args below meth c H locs cells slots Q (F0 m pc ls (.int (i3 b) :: .int (i3 a) :: rest)) := lv_ishl hx hb hdg (by unfold shlI at k; rw [i3_of] at k; exact k)
theorem k_shr {a b : Int} (hx : p.tables.exec = Jvm.exec) (hb : c.code = cc) (hdg : decode cc pc = .ok (.ishr, 1)) (k : W p l e R s m args below meth c H locs cells slots Q (F0 m (pc + 1) ls (.int (i3 (shrI a b)) :: rest))) : W p l e R s m args below meth c H locs cells slots Q (F0 m pc ls (.int (i3 b) :: .int (i3 a) :: rest)) := lv_ishr hx hb hdg (by unfold shrI at k; rw [i3_of] at k; exact k)
theorem k_ushr {a b : Int} (hx : p.tables.exec = Jvm.exec) (hb : c.code = cc) (hdg : decode cc pc = .ok (.iushr, 1)) (k : W p l e R s m args below meth c H locs cells slots Q (F0 m (pc + 1) ls (.int (i3 (ushrI a b)) :: rest))) : W p l e R s m args below meth c H locs cells slots Q (F0 m pc ls (.int (i3 b) :: .int (i3 a) :: rest)) := lv_iushr hx hb hdg rfl (by unfold ushrI at k; rw [i3_of] at k; exact k)
theorem k_iinc {i nL k : Nat} {n x : Int} {lv lv' : List (Nat × Value)} (hx : p.tables.exec = Jvm.exec) (hb : c.code = cc) (hdg : decode cc pc = .ok (.iinc i n, 3)) (h : lv_has ls nL lv) (hk : lv[k]? = some (i, .int (i3 x))) (hn : i < nL) (hl : (i, Value.int (i3 (x + n))) :: lv.filter (fun q => !(q.1 == i) && !(q.1 + 1 == i && q.2.category == 2)) = lv')
    (kk : ∀ ls' : Array Slot, lv_has ls' nL lv' → W p l e R s m args below meth c H locs cells slots Q (F0 m (pc + 3) ls' rest)) : W p l e R s m args below meth c H locs cells slots Q (F0 m pc ls rest) := lv_iinc (v := i3 (x + n)) hx hb hdg h hk (i3_add x n) hn hl kk
theorem k_icmp_eq {x y : Int} {off : Int} {tgt : Nat} (hx : p.tables.exec = Jvm.exec) (hb : c.code = cc) (hr : inR x) (hr2 : inR y) (hdg : decode cc pc = .ok (.if_icmp .eq off, 3)) (ht : (pc : Int) + off = (tgt : Int)) (kt : x = y → W p l e R s m args below meth c H locs cells slots Q (F0 m tgt ls rest)) (kf : ¬ x = y → W p l e R s m args below meth c H locs cells slots Q (F0 m (pc + 3) ls rest)) : W p l e R s m args below meth c H locs cells slots Q (F0 m pc ls (.int (i3 y) :: .int (i3 x) :: rest)) := lv_icmp_eq hx hb hdg ht (fun h => kt ((i3_eq hr hr2).mp h)) (fun h => kf fun q => h ((i3_eq hr hr2).mpr q))
theorem k_icmp_ne {x y : Int} {off : Int} {tgt : Nat} (hx : p.tables.exec = Jvm.exec) (hb : c.code = cc) (hr : inR x) (hr2 : inR y) (hdg : decode cc pc = .ok (.if_icmp .ne off, 3)) (ht : (pc : Int) + off = (tgt : Int)) (kt : ¬ x = y → W p l e R s m args below meth c H locs cells slots Q (F0 m tgt ls rest)) (kf : x = y → W p l e R s m args below meth c H locs cells slots Q (F0 m (pc + 3) ls rest)) : W p l e R s m args below meth c H locs cells slots Q (F0 m pc ls (.int (i3 y) :: .int (i3 x) :: rest)) := lv_icmp_ne hx hb hdg ht (fun h => kt fun q => h ((i3_eq hr hr2).mpr q)) (fun h => kf ((i3_eq hr hr2).mp h))
theorem k_icmp_lt {x y : Int} {off : Int} {tgt : Nat} (hx : p.tables.exec = Jvm.exec) (hb : c.code = cc) (hr : inR x) (hr2 : inR y) (hdg : decode cc pc = .ok (.if_icmp .lt off, 3)) (ht : (pc : Int) + off = (tgt : Int)) (kt : x < y → W p l e R s m args below meth c H locs cells slots Q (F0 m tgt ls rest)) (kf : ¬ x < y → W p l e R s m args below meth c H locs cells slots Q (F0 m (pc + 3) ls rest)) : W p l e R s m args below meth c H locs cells slots Q (F0 m pc ls (.int (i3 y) :: .int (i3 x) :: rest)) := lv_icmp_lt hx hb hdg ht (fun h => kt ((i3_lt hr hr2).mp h)) (fun h => kf fun q => h ((i3_lt hr hr2).mpr q))
theorem k_icmp_gt {x y : Int} {off : Int} {tgt : Nat} (hx : p.tables.exec = Jvm.exec) (hb : c.code = cc) (hr : inR x) (hr2 : inR y) (hdg : decode cc pc = .ok (.if_icmp .gt off, 3)) (ht : (pc : Int) + off = (tgt : Int)) (kt : y < x → W p l e R s m args below meth c H locs cells slots Q (F0 m tgt ls rest)) (kf : ¬ y < x → W p l e R s m args below meth c H locs cells slots Q (F0 m (pc + 3) ls rest)) : W p l e R s m args below meth c H locs cells slots Q (F0 m pc ls (.int (i3 y) :: .int (i3 x) :: rest)) := lv_icmp_gt hx hb hdg ht (fun h => kt ((i3_lt hr2 hr).mp h)) (fun h => kf fun q => h ((i3_lt hr2 hr).mpr q))
theorem k_icmp_ge {x y : Int} {off : Int} {tgt : Nat} (hx : p.tables.exec = Jvm.exec) (hb : c.code = cc) (hr : inR x) (hr2 : inR y) (hdg : decode cc pc = .ok (.if_icmp .ge off, 3)) (ht : (pc : Int) + off = (tgt : Int)) (kt : ¬ x < y → W p l e R s m args below meth c H locs cells slots Q (F0 m tgt ls rest)) (kf : x < y → W p l e R s m args below meth c H locs cells slots Q (F0 m (pc + 3) ls rest)) : W p l e R s m args below meth c H locs cells slots Q (F0 m pc ls (.int (i3 y) :: .int (i3 x) :: rest)) := lv_icmp_ge hx hb hdg ht (fun h => kt (Int.not_lt.mpr ((i3_le hr2 hr).mp h))) (fun h => kf (Int.not_le.mp fun q => h ((i3_le hr2 hr).mpr q)))
theorem k_icmp_le {x y : Int} {off : Int} {tgt : Nat} (hx : p.tables.exec = Jvm.exec) (hb : c.code = cc) (hr : inR x) (hr2 : inR y) (hdg : decode cc pc = .ok (.if_icmp .le off, 3)) (ht : (pc : Int) + off = (tgt : Int)) (kt : ¬ y < x → W p l e R s m args below meth c H locs cells slots Q (F0 m tgt ls rest)) (kf : y < x → W p l e R s m args below meth c H locs cells slots Q (F0 m (pc + 3) ls rest)) : W p l e R s m args below meth c H locs cells slots Q (F0 m pc ls (.int (i3 y) :: .int (i3 x) :: rest)) := lv_icmp_le hx hb hdg ht (fun h => kt (Int.not_lt.mpr ((i3_le hr hr2).mp h))) (fun h => kf (Int.not_le.mp fun q => h ((i3_le hr hr2).mpr q)))
theorem k_if_eq {x : Int} {off : Int} {tgt : Nat} (hx : p.tables.exec = Jvm.exec) (hb : c.code = cc) (hr : inR x) (hdg : decode cc pc = .ok (.ifCond .eq off, 3)) (ht : (pc : Int) + off = (tgt : Int)) (kt : x = 0 → W p l e R s m args below meth c H locs cells slots Q (F0 m tgt ls rest)) (kf : ¬ x = 0 → W p l e R s m args below meth c H locs cells slots Q (F0 m (pc + 3) ls rest)) : W p l e R s m args below meth c H locs cells slots Q (F0 m pc ls (.int (i3 x) :: rest)) := lv_if_eq hx hb hdg ht (fun h => kt ((i3_eq hr inR_0).mp (h.trans i3_0.symm))) (fun h => kf fun q => h (((i3_eq hr inR_0).mpr q).trans i3_0))
theorem k_if_ne {x : Int} {off : Int} {tgt : Nat} (hx : p.tables.exec = Jvm.exec) (hb : c.code = cc) (hr : inR x) (hdg : decode cc pc = .ok (.ifCond .ne off, 3)) (ht : (pc : Int) + off = (tgt : Int)) (kt : ¬ x = 0 → W p l e R s m args below meth c H locs cells slots Q (F0 m tgt ls rest)) (kf : x = 0 → W p l e R s m args below meth c H locs cells slots Q (F0 m (pc + 3) ls rest)) : W p l e R s m args below meth c H locs cells slots Q (F0 m pc ls (.int (i3 x) :: rest)) := lv_if_ne hx hb hdg ht (fun h => kt fun q => h (((i3_eq hr inR_0).mpr q).trans i3_0)) (fun h => kf ((i3_eq hr inR_0).mp (h.trans i3_0.symm)))
theorem k_if_lt {x : Int} {off : Int} {tgt : Nat} (hx : p.tables.exec = Jvm.exec) (hb : c.code = cc) (hr : inR x) (hdg : decode cc pc = .ok (.ifCond .lt off, 3)) (ht : (pc : Int) + off = (tgt : Int)) (kt : x < 0 → W p l e R s m args below meth c H locs cells slots Q (F0 m tgt ls rest)) (kf : ¬ x < 0 → W p l e R s m args below meth c H locs cells slots Q (F0 m (pc + 3) ls rest)) : W p l e R s m args below meth c H locs cells slots Q (F0 m pc ls (.int (i3 x) :: rest)) := lv_if_lt hx hb hdg ht (fun h => kt ((i3_lt hr inR_0).mp (by rw [i3_0]; exact h))) (fun h => kf fun q => h (by have q2 := (i3_lt hr inR_0).mpr q; rw [i3_0] at q2; exact q2))
theorem k_if_gt {x : Int} {off : Int} {tgt : Nat} (hx : p.tables.exec = Jvm.exec) (hb : c.code = cc) (hr : inR x) (hdg : decode cc pc = .ok (.ifCond .gt off, 3)) (ht : (pc : Int) + off = (tgt : Int)) (kt : 0 < x → W p l e R s m args below meth c H locs cells slots Q (F0 m tgt ls rest)) (kf : ¬ 0 < x → W p l e R s m args below meth c H locs cells slots Q (F0 m (pc + 3) ls rest)) : W p l e R s m args below meth c H locs cells slots Q (F0 m pc ls (.int (i3 x) :: rest)) := lv_if_gt hx hb hdg ht (fun h => kt ((i3_lt inR_0 hr).mp (by rw [i3_0]; exact h))) (fun h => kf fun q => h (by have q2 := (i3_lt inR_0 hr).mpr q; rw [i3_0] at q2; exact q2))
theorem k_if_ge {x : Int} {off : Int} {tgt : Nat} (hx : p.tables.exec = Jvm.exec) (hb : c.code = cc) (hr : inR x) (hdg : decode cc pc = .ok (.ifCond .ge off, 3)) (ht : (pc : Int) + off = (tgt : Int)) (kt : ¬ x < 0 → W p l e R s m args below meth c H locs cells slots Q (F0 m tgt ls rest)) (kf : x < 0 → W p l e R s m args below meth c H locs cells slots Q (F0 m (pc + 3) ls rest)) : W p l e R s m args below meth c H locs cells slots Q (F0 m pc ls (.int (i3 x) :: rest)) := lv_if_ge hx hb hdg ht (fun h => kt (Int.not_lt.mpr ((i3_le inR_0 hr).mp (by rw [i3_0]; exact h)))) (fun h => kf (Int.not_le.mp fun q => h (by have q2 := (i3_le inR_0 hr).mpr q; rw [i3_0] at q2; exact q2)))
theorem k_if_le {x : Int} {off : Int} {tgt : Nat} (hx : p.tables.exec = Jvm.exec) (hb : c.code = cc) (hr : inR x) (hdg : decode cc pc = .ok (.ifCond .le off, 3)) (ht : (pc : Int) + off = (tgt : Int)) (kt : ¬ 0 < x → W p l e R s m args below meth c H locs cells slots Q (F0 m tgt ls rest)) (kf : 0 < x → W p l e R s m args below meth c H locs cells slots Q (F0 m (pc + 3) ls rest)) : W p l e R s m args below meth c H locs cells slots Q (F0 m pc ls (.int (i3 x) :: rest)) := lv_if_le hx hb hdg ht (fun h => kt (Int.not_lt.mpr ((i3_le hr inR_0).mp (by rw [i3_0]; exact h)))) (fun h => kf (Int.not_le.mp fun q => h (by have q2 := (i3_le hr inR_0).mpr q; rw [i3_0] at q2; exact q2)))
/-! the pool's rows -/
theorem k_len {a : Nat} (hx : p.tables.exec = Jvm.exec) (hb : c.code = cc) (hW : Wd G M s H) (ha : 16 ≤ a ∧ a < 86) (hdg : decode cc pc = .ok (.arraylength, 1)) (k : W p l e R s m args below meth c H locs cells slots Q (F0 m (pc + 1) ls (.int (i3 (lenA a : Nat)) :: rest))) : W p l e R s m args below meth c H locs cells slots Q (F0 m pc ls (.ref (gA G a) :: rest)) := by
  have he : (pW G M)[a]? = some (gA G a, .inl (G.2.1, lenA a, .inl (fun j => i3 (M a j)))) := by rw [pW_get G M ha.2]; unfold entF; rw [if_pos ha.1]
  exact va_alen hx hb hW.K hW.P a 0 he rfl (i3_nat _) hdg k
theorem k_ald {a : Nat} {i : Int} (hx : p.tables.exec = Jvm.exec) (hb : c.code = cc) (hW : Wd G M s H) (ha : 16 ≤ a ∧ a < 86) (hi : inR i) (h0 : 0 ≤ i) (h1 : i < (lenA a : Nat)) (hdg : decode cc pc = .ok (.iaload, 1)) (k : W p l e R s m args below meth c H locs cells slots Q (F0 m (pc + 1) ls (.int (i3 (M a i.toNat)) :: rest))) : W p l e R s m args below meth c H locs cells slots Q (F0 m pc ls (.int (i3 i) :: .ref (gA G a) :: rest)) := by
  have he : (pW G M)[a]? = some (gA G a, .inl (G.2.1, lenA a, .inl (fun j => i3 (M a j)))) := by rw [pW_get G M ha.2]; unfold entF; rw [if_pos ha.1]
  refine va_iald hx hb hW.K hW.P a 0 he rfl (i3_in hi h0 h1) hdg ?_
  rw [i3_clamp hi]
  exact k
theorem k_ast {a : Nat} {i x : Int} (hx : p.tables.exec = Jvm.exec) (hb : c.code = cc) (hW : Wd G M s H) (hS : va_S (PA G) s.heap H locs) (ha : 16 ≤ a ∧ a < 86) (hi : inR i) (h0 : 0 ≤ i) (h1 : i < (lenA a : Nat)) (hv : inR x) (hdg : decode cc pc = .ok (.iastore, 1)) (k : ∀ (H1 : Heap) (locs1 : List Loc), Wd G (up M a i.toNat x) s H1 → va_S (PA G) s.heap H1 locs1 → W p l e R s m args below meth c H1 locs1 cells slots Q (F0 m (pc + 1) ls rest)) : W p l e R s m args below meth c H locs cells slots Q (F0 m pc ls (.int (i3 x) :: .int (i3 i) :: .ref (gA G a) :: rest)) := by
  have he : (pW G M)[a]? = some (gA G a, .inl (G.2.1, lenA a, .inl (fun j => i3 (M a j)))) := by rw [pW_get G M ha.2]; unfold entF; rw [if_pos ha.1]
  have hp : ∀ f : Nat → Int32, (∀ j, f j = i3 (up M a i.toNat x a j)) → (pW G M).set a (gA G a, .inl (G.2.1, lenA a, .inl f)) = pW G (up M a i.toNat x) := by
    intro f hf
    refine pW_set ha.2 ?_ (fun j hj => up_other hj)
    unfold entF
    rw [if_pos ha.1]
    rw [show f = (fun j => i3 (up M a i.toNat x a j)) from funext hf]
  have hf : ∀ j, upd (fun j => i3 (M a j)) (i3 i).toNatClampNeg (i3 x) j = i3 (up M a i.toNat x a j) := by
    intro j
    rw [i3_clamp hi]
    unfold upd up
    by_cases c : j = i.toNat
    · subst c; simp
    · simp [c]
  refine W.iast hx hb (hW.P a _ he) ((hW.K.2 0 _ rfl).1 (lenA a) (fun j => .int (i3 (M a j)))) (fun q => by cases q) (by show ¬ (i3 i < 0 ∨ (arrV _ _ _).slots.size ≤ _); rw [arrV_size]; exact i3_in hi h0 h1) rfl rfl hdg fun H1 e z oq => ?_
  have hP1 : va_P G.1 vwCl (pW G (up M a i.toNat x)) H1 := by
    rw [← hp _ hf]
    refine hW.P.set hW.D he ?_ oq
    show H1[gA G a]? = some (vp_cell _ _)
    rw [e, vp_cell_i, vp_cell_i, arrV_store]
    congr 2
    funext j
    unfold updV upd
    by_cases c : j = (i3 i).toNatClampNeg <;> simp [c]
  exact k H1 _ (hW.back hP1 (rngM_up hW.R hv) (fun q _ hq => oq q (fun e => hq (e ▸ hW.J.2 a ha.2)))) (hS.put z oq (hW.D.2 a _ he))
/-- an int field of an object of the pool gets another number -/
theorem k_put {own C : String} {T : u_T} {N ci index o : Nat} {Ts : List Cond} {x : Int} {fs : List Value} {ty : FieldType} (hx : p.tables.exec = Jvm.exec) (hb : c.code = cc) (hW : Wd G M s H) (hS : va_S (PA G) s.heap H locs) (hts : ∀ w ∈ Ts, w.before args s = true) (hin : ∀ w ∈ u_ws C T N, w ∈ Ts) (ty0 : Nat → FieldType) (hty : ∀ k, k < N → parseFieldDescriptor (T k).2.2.1 = some (ty0 k)) (hnm : ∀ a, a < N → ∀ b, b < N → a ≠ b → (T a).2.1 ≠ (T b).2.1) (hown : s.vm.findClass own = some m.cls) (ho : o < 86) (he : entF G (M o) o = .inr (ci, fs)) (hc : vwCl[ci]? = some (C, T, N)) (k : Nat) (hk : k < N) (he2 : entF G (up M o k x o) o = .inr (ci, fs.set k (.int (i3 x)))) (hlink : (Cond.fieldLink own index C (T k).2.1 (T k).2.2.1).before args s = true) (hsame : (T k).1 = C) (hfin : (T k).2.2.2 = false) (hd : parseFieldDescriptor (T k).2.2.1 = some ty) (hn : narrow ty (.int (i3 x)) = .int (i3 x)) (hfit : fits ty (.int (i3 x)) = true) (hl : k < fs.length) (hv : inR x)
    (hdg : decode cc pc = .ok (.putfield index, 3)) (kk : ∀ (H1 : Heap) (locs1 : List Loc), Wd G (up M o k x) s H1 → va_S (PA G) s.heap H1 locs1 → W p l e R s m args below meth c H1 locs1 cells slots Q (F0 m (pc + 3) ls rest)) : W p l e R s m args below meth c H locs cells slots Q (F0 m pc ls (.int (i3 x) :: .ref (gA G o) :: rest)) := by
  have hg : (pW G M)[o]? = some (gA G o, .inr (ci, fs)) := by rw [pW_get G M ho, he]
  refine va_put (A := PA G) (H0 := H) hx hb hts hin ty0 hty hnm hown hW.K hW.P hW.D ⟨Nat.le_refl _, fun _ _ _ => rfl, hS.2.2⟩ o hg hc k hk hlink (fun y hy => by rw [hsame] at hy; exact hy) hfin hd hn hfit hl hdg (fun H1 locs1 hP1 _ hS1 => ?_)
  rw [pW_set ho he2 (fun j hj => up_other hj)] at hP1
  exact kk H1 locs1 (hW.back hP1 (rngM_up hW.R hv) hS1.2.1) ⟨Nat.le_trans hS.1 hS1.1, fun q h1 h2 => by rw [hS1.2.1 q (Nat.lt_of_lt_of_le h1 hS.1) h2, hS.2.1 q h1 h2], hS1.2.2⟩
theorem k_ret {v r : Int} (hx : p.tables.exec = Jvm.exec) (hb : c.code = cc) (hr : meth.sig.returnType = some .int) (hlocks : meth.locks = false) (hW : Wd G M s H) (hS : va_S (PA G) s.heap H locs) (hv : v = r) (hvr : inR v) (hdg : decode cc pc = .ok (.ireturn, 1)) : W p l e R s m args below meth c H locs cells slots (MQ below (QcI G M r) args s cells slots (PA G)) (F0 m pc ls [.int (i3 v)]) := by
  subst hv
  exact W.iret (v := i3 v) hx hb hr (fun t ht hWm => ⟨⟨i3 v, (), rfl, ⟨rfl, hvr⟩, by show BcG G M t; unfold BcG; rw [ht]; exact ⟨hW.P, hW.R⟩⟩, hS.F ht⟩) hS.2.2 hdg
theorem k_rett {v r : Int} {ty : FieldType} (hx : p.tables.exec = Jvm.exec) (hb : c.code = cc) (hr : meth.sig.returnType = some ty) (hlocks : meth.locks = false) (hW : Wd G M s H) (hS : va_S (PA G) s.heap H locs) (hv : v = r) (hvr : inR v) (hn : narrow ty (.int (i3 v)) = .int (i3 v)) (hdg : decode cc pc = .ok (.ireturn, 1)) : W p l e R s m args below meth c H locs cells slots (MQ below (QcI G M r) args s cells slots (PA G)) (F0 m pc ls [.int (i3 v)]) := by
  subst hv
  exact W.zret (v := i3 v) hx hb hr hn (fun t ht hWm => ⟨⟨i3 v, (), rfl, ⟨rfl, hvr⟩, by show BcG G M t; unfold BcG; rw [ht]; exact ⟨hW.P, hW.R⟩⟩, hS.F ht⟩) hS.2.2 hdg
theorem k_retz {v r : Int} (hx : p.tables.exec = Jvm.exec) (hb : c.code = cc) (hr : meth.sig.returnType = some .boolean) (hlocks : meth.locks = false) (hW : Wd G M s H) (hS : va_S (PA G) s.heap H locs) (hv : v = r) (hvr : v = 0 ∨ v = 1) (hdg : decode cc pc = .ok (.ireturn, 1)) : W p l e R s m args below meth c H locs cells slots (MQ below (QcZ G M r) args s cells slots (PA G)) (F0 m pc ls [.int (i3 v)]) := by
  subst hv
  have hn : narrow .boolean (.int (i3 v)) = .int (i3 v) := by rcases hvr with h | h <;> subst h <;> decide +kernel
  exact W.zret (v := i3 v) hx hb hr hn (fun t ht hWm => ⟨⟨i3 v, (), rfl, ⟨rfl, hvr⟩, by show BcG G M t; unfold BcG; rw [ht]; exact ⟨hW.P, hW.R⟩⟩, hS.F ht⟩) hS.2.2 hdg
theorem k_retv (hx : p.tables.exec = Jvm.exec) (hb : c.code = cc) (hr : meth.sig.returnType = none) (hlocks : meth.locks = false) (hW : Wd G M s H) (hS : va_S (PA G) s.heap H locs) (hM : M = M') (hdg : decode cc pc = .ok (.return_, 1)) : W p l e R s m args below meth c H locs cells slots (MQ below (QcV G M') args s cells slots (PA G)) (F0 m pc ls []) := by
  subst hM
  exact W.vret hx hb hr (fun t ht hWm => ⟨⟨(), rfl, trivial, by show BcG G M t; unfold BcG; rw [ht]; exact ⟨hW.P, hW.R⟩⟩, hS.F ht⟩) hS.2.2 hdg
theorem k_retl {v r : Int64} (hx : p.tables.exec = Jvm.exec) (hb : c.code = cc) (hr : meth.sig.returnType = some .long) (hlocks : meth.locks = false) (hW : Wd G M s H) (hS : va_S (PA G) s.heap H locs) (hv : v = r) (hdg : decode cc pc = .ok (.lreturn, 1)) : W p l e R s m args below meth c H locs cells slots (MQ below (QcL G M r) args s cells slots (PA G)) (F0 m pc ls [.long v]) := by
  subst hv
  exact W.lret (v := v) hx hb hr (fun t ht hWm => ⟨⟨v, (), rfl, rfl, by show BcG G M t; unfold BcG; rw [ht]; exact ⟨hW.P, hW.R⟩⟩, hS.F ht⟩) hS.2.2 hdg
theorem k_retf {v r : UInt32} (hx : p.tables.exec = Jvm.exec) (hb : c.code = cc) (hr : meth.sig.returnType = some .float) (hlocks : meth.locks = false) (hW : Wd G M s H) (hS : va_S (PA G) s.heap H locs) (hv : v = r) (hdg : decode cc pc = .ok (.freturn, 1)) : W p l e R s m args below meth c H locs cells slots (MQ below (QcF G M r) args s cells slots (PA G)) (F0 m pc ls [.float v]) := by
  subst hv
  exact W.fret (v := v) hx hb hr (fun t ht hWm => ⟨⟨v, (), rfl, rfl, by show BcG G M t; unfold BcG; rw [ht]; exact ⟨hW.P, hW.R⟩⟩, hS.F ht⟩) hS.2.2 hdg
theorem k_retd {v r : UInt64} (hx : p.tables.exec = Jvm.exec) (hb : c.code = cc) (hr : meth.sig.returnType = some .double) (hlocks : meth.locks = false) (hW : Wd G M s H) (hS : va_S (PA G) s.heap H locs) (hv : v = r) (hdg : decode cc pc = .ok (.dreturn, 1)) : W p l e R s m args below meth c H locs cells slots (MQ below (QcD G M r) args s cells slots (PA G)) (F0 m pc ls [.double v]) := by
  subst hv
  exact W.dret (v := v) hx hb hr (fun t ht hWm => ⟨⟨v, (), rfl, rfl, by show BcG G M t; unfold BcG; rw [ht]; exact ⟨hW.P, hW.R⟩⟩, hS.F ht⟩) hS.2.2 hdg
theorem k_reta {i r : Nat} {rt : FieldType} (hx : p.tables.exec = Jvm.exec) (hb : c.code = cc) (hr : meth.sig.returnType = some rt) (hrt : (∃ n, rt = .object n) ∨ ∃ t, rt = .array t) (hlocks : meth.locks = false) (hW : Wd G M s H) (hS : va_S (PA G) s.heap H locs) (hv : i = r) (hdg : decode cc pc = .ok (.areturn, 1)) : W p l e R s m args below meth c H locs cells slots (MQ below (QcA G M r) args s cells slots (PA G)) (F0 m pc ls [.ref (gA G i)]) := by
  subst hv
  exact W.aret hx hb hr hrt (Or.inr ⟨_, rfl⟩) (fun t ht hWm => ⟨⟨(), gA G i, rfl, trivial, rfl, by unfold BcG; rw [ht]; exact ⟨hW.P, hW.R⟩⟩, hS.F ht⟩) hS.2.2 hdg
/-! calls -/
variable {y : MethodName} {bytes : ByteArray} {maxL nL n index : Nat} {ret : Option FieldType} {wy Ts : List Cond} {rm : Room} {own C : String} {b : Addr} {As st0 : List Value}
theorem k_cVi {r : Int} (F : CallFix p m c cc nL s args Ts own) (hM : Met l y wy rm (PcG G M (Value.ref b :: As)) (QcI G M' r) 0 0 (PA G)) (cw : CallW R s args own C index y bytes maxL ret wy rm 0 0 n) (hrv : ∃ cell : Cell, H[b]? = some cell ∧ cell.vm.isStatics = false ∧ s.vm.findClass C = some cell.cls) (hW : Wd G M s H) (hS : va_S (PA G) s.heap H locs) (hn : As.length = n) (hls : ls.size = nL) (hst : st0 = As.reverse ++ .ref b :: rest) (hroom : 2 * (F0 m pc ls st0).monitorRoom + (rest.map fun v => v.category).sum ≤ 8) (hdg : decode cc pc = .ok (.invokevirtual index, 3)) (hf : cells ≤ R.cells ∧ slots ≤ R.slots)
    (kk : inR r → ∀ (H1 : Heap) (locs1 : List Loc), Wd G M' s H1 → va_S (PA G) s.heap H1 locs1 → W p l e R s m args below meth c H1 locs1 cells slots Q (F0 m (pc + 3) ls (.int (i3 r) :: rest))) : W p l e R s m args below meth c H locs cells slots Q (F0 m pc ls st0) := by
  refine va_calli (va_runV F hM cw ⟨PcG_blind _ _ _, hrv, fun U hU hWm => PcG_of hW hU hWm⟩ rfl hn hls hst hroom hdg hf) hS (fun q _ h => h) (fun q h => h) (fun x u t H1 locs1 ht hvm hw hB hz hk hS1 => ?_)
  obtain ⟨rfl, hr⟩ := hw
  have hB' : BcG G M' t := hB
  unfold BcG at hB'; rw [ht] at hB'
  exact kk hr H1 locs1 (hW.back hB'.1 hB'.2 hk) hS1
theorem k_cVz {r : Int} (F : CallFix p m c cc nL s args Ts own) (hM : Met l y wy rm (PcG G M (Value.ref b :: As)) (QcZ G M' r) 0 0 (PA G)) (cw : CallW R s args own C index y bytes maxL ret wy rm 0 0 n) (hrv : ∃ cell : Cell, H[b]? = some cell ∧ cell.vm.isStatics = false ∧ s.vm.findClass C = some cell.cls) (hW : Wd G M s H) (hS : va_S (PA G) s.heap H locs) (hn : As.length = n) (hls : ls.size = nL) (hst : st0 = As.reverse ++ .ref b :: rest) (hroom : 2 * (F0 m pc ls st0).monitorRoom + (rest.map fun v => v.category).sum ≤ 8) (hdg : decode cc pc = .ok (.invokevirtual index, 3)) (hf : cells ≤ R.cells ∧ slots ≤ R.slots)
    (kk : (r = 0 ∨ r = 1) → ∀ (H1 : Heap) (locs1 : List Loc), Wd G M' s H1 → va_S (PA G) s.heap H1 locs1 → W p l e R s m args below meth c H1 locs1 cells slots Q (F0 m (pc + 3) ls (.int (i3 r) :: rest))) : W p l e R s m args below meth c H locs cells slots Q (F0 m pc ls st0) := by
  refine va_calli (va_runV F hM cw ⟨PcG_blind _ _ _, hrv, fun U hU hWm => PcG_of hW hU hWm⟩ rfl hn hls hst hroom hdg hf) hS (fun q _ h => h) (fun q h => h) (fun x u t H1 locs1 ht hvm hw hB hz hk hS1 => ?_)
  obtain ⟨rfl, hr⟩ := hw
  have hB' : BcG G M' t := hB
  unfold BcG at hB'; rw [ht] at hB'
  exact kk hr H1 locs1 (hW.back hB'.1 hB'.2 hk) hS1
theorem k_cVv (F : CallFix p m c cc nL s args Ts own) (hM : Met l y wy rm (PcG G M (Value.ref b :: As)) (QcV G M') 0 0 (PA G)) (cw : CallW R s args own C index y bytes maxL ret wy rm 0 0 n) (hrv : ∃ cell : Cell, H[b]? = some cell ∧ cell.vm.isStatics = false ∧ s.vm.findClass C = some cell.cls) (hW : Wd G M s H) (hS : va_S (PA G) s.heap H locs) (hn : As.length = n) (hls : ls.size = nL) (hst : st0 = As.reverse ++ .ref b :: rest) (hroom : 2 * (F0 m pc ls st0).monitorRoom + (rest.map fun v => v.category).sum ≤ 8) (hdg : decode cc pc = .ok (.invokevirtual index, 3)) (hf : cells ≤ R.cells ∧ slots ≤ R.slots)
    (kk : ∀ (H1 : Heap) (locs1 : List Loc), Wd G M' s H1 → va_S (PA G) s.heap H1 locs1 → W p l e R s m args below meth c H1 locs1 cells slots Q (F0 m (pc + 3) ls rest)) : W p l e R s m args below meth c H locs cells slots Q (F0 m pc ls st0) := by
  refine va_callv (va_runV F hM cw ⟨PcG_blind _ _ _, hrv, fun U hU hWm => PcG_of hW hU hWm⟩ rfl hn hls hst hroom hdg hf) hS (fun q _ h => h) (fun q h => h) (fun u t H1 locs1 ht hvm hw hB hz hk hS1 => ?_)
  have hB' : BcG G M' t := hB
  unfold BcG at hB'; rw [ht] at hB'
  exact kk H1 locs1 (hW.back hB'.1 hB'.2 hk) hS1
theorem k_cVf {r : UInt32} (F : CallFix p m c cc nL s args Ts own) (hM : Met l y wy rm (PcG G M (Value.ref b :: As)) (QcF G M' r) 0 0 (PA G)) (cw : CallW R s args own C index y bytes maxL ret wy rm 0 0 n) (hrv : ∃ cell : Cell, H[b]? = some cell ∧ cell.vm.isStatics = false ∧ s.vm.findClass C = some cell.cls) (hW : Wd G M s H) (hS : va_S (PA G) s.heap H locs) (hn : As.length = n) (hls : ls.size = nL) (hst : st0 = As.reverse ++ .ref b :: rest) (hroom : 2 * (F0 m pc ls st0).monitorRoom + (rest.map fun v => v.category).sum ≤ 8) (hdg : decode cc pc = .ok (.invokevirtual index, 3)) (hf : cells ≤ R.cells ∧ slots ≤ R.slots)
    (kk : ∀ (H1 : Heap) (locs1 : List Loc), Wd G M' s H1 → va_S (PA G) s.heap H1 locs1 → W p l e R s m args below meth c H1 locs1 cells slots Q (F0 m (pc + 3) ls (.float r :: rest))) : W p l e R s m args below meth c H locs cells slots Q (F0 m pc ls st0) := by
  refine va_callf (va_runV F hM cw ⟨PcG_blind _ _ _, hrv, fun U hU hWm => PcG_of hW hU hWm⟩ rfl hn hls hst hroom hdg hf) hS (fun q _ h => h) (fun q h => h) (fun x u t H1 locs1 ht hvm hw hB hz hk hS1 => ?_)
  have hw' : x = r := hw
  subst hw'
  have hB' : BcG G M' t := hB
  unfold BcG at hB'; rw [ht] at hB'
  exact kk H1 locs1 (hW.back hB'.1 hB'.2 hk) hS1
theorem k_cVd {r : UInt64} (F : CallFix p m c cc nL s args Ts own) (hM : Met l y wy rm (PcG G M (Value.ref b :: As)) (QcD G M' r) 0 0 (PA G)) (cw : CallW R s args own C index y bytes maxL ret wy rm 0 0 n) (hrv : ∃ cell : Cell, H[b]? = some cell ∧ cell.vm.isStatics = false ∧ s.vm.findClass C = some cell.cls) (hW : Wd G M s H) (hS : va_S (PA G) s.heap H locs) (hn : As.length = n) (hls : ls.size = nL) (hst : st0 = As.reverse ++ .ref b :: rest) (hroom : 2 * (F0 m pc ls st0).monitorRoom + (rest.map fun v => v.category).sum ≤ 8) (hdg : decode cc pc = .ok (.invokevirtual index, 3)) (hf : cells ≤ R.cells ∧ slots ≤ R.slots)
    (kk : ∀ (H1 : Heap) (locs1 : List Loc), Wd G M' s H1 → va_S (PA G) s.heap H1 locs1 → W p l e R s m args below meth c H1 locs1 cells slots Q (F0 m (pc + 3) ls (.double r :: rest))) : W p l e R s m args below meth c H locs cells slots Q (F0 m pc ls st0) := by
  refine va_calld (va_runV F hM cw ⟨PcG_blind _ _ _, hrv, fun U hU hWm => PcG_of hW hU hWm⟩ rfl hn hls hst hroom hdg hf) hS (fun q _ h => h) (fun q h => h) (fun x u t H1 locs1 ht hvm hw hB hz hk hS1 => ?_)
  have hw' : x = r := hw
  subst hw'
  have hB' : BcG G M' t := hB
  unfold BcG at hB'; rw [ht] at hB'
  exact kk H1 locs1 (hW.back hB'.1 hB'.2 hk) hS1
theorem k_cSi {r : Int} (F : CallFix p m c cc nL s args Ts own) (hM : Met l y wy rm (PcG G M As) (QcI G M' r) 0 0 (PA G)) (cw : CallB R s args own index y bytes maxL ret wy rm 0 0 n ∧ (Cond.static y).before args s = true) (hW : Wd G M s H) (hS : va_S (PA G) s.heap H locs) (hn : As.length = n) (hls : ls.size = nL) (hst : st0 = As.reverse ++ rest) (hroom : 2 * (F0 m pc ls st0).monitorRoom + (rest.map fun v => v.category).sum ≤ 8) (hdg : decode cc pc = .ok (.invokestatic index, 3)) (hf : cells ≤ R.cells ∧ slots ≤ R.slots)
    (kk : inR r → ∀ (H1 : Heap) (locs1 : List Loc), Wd G M' s H1 → va_S (PA G) s.heap H1 locs1 → W p l e R s m args below meth c H1 locs1 cells slots Q (F0 m (pc + 3) ls (.int (i3 r) :: rest))) : W p l e R s m args below meth c H locs cells slots Q (F0 m pc ls st0) := by
  refine va_calli (va_runS F hM cw ⟨PcG_blind _ _ _, fun U hU hWm => PcG_of hW hU hWm⟩ rfl hn hls hst hroom hdg hf) hS (fun q _ h => h) (fun q h => h) (fun x u t H1 locs1 ht hvm hw hB hz hk hS1 => ?_)
  obtain ⟨rfl, hr⟩ := hw
  have hB' : BcG G M' t := hB
  unfold BcG at hB'; rw [ht] at hB'
  exact kk hr H1 locs1 (hW.back hB'.1 hB'.2 hk) hS1
theorem k_cSz {r : Int} (F : CallFix p m c cc nL s args Ts own) (hM : Met l y wy rm (PcG G M As) (QcZ G M' r) 0 0 (PA G)) (cw : CallB R s args own index y bytes maxL ret wy rm 0 0 n ∧ (Cond.static y).before args s = true) (hW : Wd G M s H) (hS : va_S (PA G) s.heap H locs) (hn : As.length = n) (hls : ls.size = nL) (hst : st0 = As.reverse ++ rest) (hroom : 2 * (F0 m pc ls st0).monitorRoom + (rest.map fun v => v.category).sum ≤ 8) (hdg : decode cc pc = .ok (.invokestatic index, 3)) (hf : cells ≤ R.cells ∧ slots ≤ R.slots)
    (kk : (r = 0 ∨ r = 1) → ∀ (H1 : Heap) (locs1 : List Loc), Wd G M' s H1 → va_S (PA G) s.heap H1 locs1 → W p l e R s m args below meth c H1 locs1 cells slots Q (F0 m (pc + 3) ls (.int (i3 r) :: rest))) : W p l e R s m args below meth c H locs cells slots Q (F0 m pc ls st0) := by
  refine va_calli (va_runS F hM cw ⟨PcG_blind _ _ _, fun U hU hWm => PcG_of hW hU hWm⟩ rfl hn hls hst hroom hdg hf) hS (fun q _ h => h) (fun q h => h) (fun x u t H1 locs1 ht hvm hw hB hz hk hS1 => ?_)
  obtain ⟨rfl, hr⟩ := hw
  have hB' : BcG G M' t := hB
  unfold BcG at hB'; rw [ht] at hB'
  exact kk hr H1 locs1 (hW.back hB'.1 hB'.2 hk) hS1
theorem k_cSv (F : CallFix p m c cc nL s args Ts own) (hM : Met l y wy rm (PcG G M As) (QcV G M') 0 0 (PA G)) (cw : CallB R s args own index y bytes maxL ret wy rm 0 0 n ∧ (Cond.static y).before args s = true) (hW : Wd G M s H) (hS : va_S (PA G) s.heap H locs) (hn : As.length = n) (hls : ls.size = nL) (hst : st0 = As.reverse ++ rest) (hroom : 2 * (F0 m pc ls st0).monitorRoom + (rest.map fun v => v.category).sum ≤ 8) (hdg : decode cc pc = .ok (.invokestatic index, 3)) (hf : cells ≤ R.cells ∧ slots ≤ R.slots)
    (kk : ∀ (H1 : Heap) (locs1 : List Loc), Wd G M' s H1 → va_S (PA G) s.heap H1 locs1 → W p l e R s m args below meth c H1 locs1 cells slots Q (F0 m (pc + 3) ls rest)) : W p l e R s m args below meth c H locs cells slots Q (F0 m pc ls st0) := by
  refine va_callv (va_runS F hM cw ⟨PcG_blind _ _ _, fun U hU hWm => PcG_of hW hU hWm⟩ rfl hn hls hst hroom hdg hf) hS (fun q _ h => h) (fun q h => h) (fun u t H1 locs1 ht hvm hw hB hz hk hS1 => ?_)
  have hB' : BcG G M' t := hB
  unfold BcG at hB'; rw [ht] at hB'
  exact kk H1 locs1 (hW.back hB'.1 hB'.2 hk) hS1
theorem k_cSl {r : Int64} (F : CallFix p m c cc nL s args Ts own) (hM : Met l y wy rm (PcG G M As) (QcL G M' r) 0 0 (PA G)) (cw : CallB R s args own index y bytes maxL ret wy rm 0 0 n ∧ (Cond.static y).before args s = true) (hW : Wd G M s H) (hS : va_S (PA G) s.heap H locs) (hn : As.length = n) (hls : ls.size = nL) (hst : st0 = As.reverse ++ rest) (hroom : 2 * (F0 m pc ls st0).monitorRoom + (rest.map fun v => v.category).sum ≤ 8) (hdg : decode cc pc = .ok (.invokestatic index, 3)) (hf : cells ≤ R.cells ∧ slots ≤ R.slots)
    (kk : ∀ (H1 : Heap) (locs1 : List Loc), Wd G M' s H1 → va_S (PA G) s.heap H1 locs1 → W p l e R s m args below meth c H1 locs1 cells slots Q (F0 m (pc + 3) ls (.long r :: rest))) : W p l e R s m args below meth c H locs cells slots Q (F0 m pc ls st0) := by
  refine va_calll (va_runS F hM cw ⟨PcG_blind _ _ _, fun U hU hWm => PcG_of hW hU hWm⟩ rfl hn hls hst hroom hdg hf) hS (fun q _ h => h) (fun q h => h) (fun x u t H1 locs1 ht hvm hw hB hz hk hS1 => ?_)
  have hw' : x = r := hw
  subst hw'
  have hB' : BcG G M' t := hB
  unfold BcG at hB'; rw [ht] at hB'
  exact kk H1 locs1 (hW.back hB'.1 hB'.2 hk) hS1
theorem k_cSa {i : Nat} (F : CallFix p m c cc nL s args Ts own) (hM : Met l y wy rm (PcG G M As) (QcA G M' i) 0 0 (PA G)) (cw : CallB R s args own index y bytes maxL ret wy rm 0 0 n ∧ (Cond.static y).before args s = true) (hW : Wd G M s H) (hS : va_S (PA G) s.heap H locs) (hn : As.length = n) (hls : ls.size = nL) (hst : st0 = As.reverse ++ rest) (hroom : 2 * (F0 m pc ls st0).monitorRoom + (rest.map fun v => v.category).sum ≤ 8) (hdg : decode cc pc = .ok (.invokestatic index, 3)) (hf : cells ≤ R.cells ∧ slots ≤ R.slots)
    (kk : ∀ (H1 : Heap) (locs1 : List Loc), Wd G M' s H1 → va_S (PA G) s.heap H1 locs1 → W p l e R s m args below meth c H1 locs1 cells slots Q (F0 m (pc + 3) ls (.ref (gA G i) :: rest))) : W p l e R s m args below meth c H locs cells slots Q (F0 m pc ls st0) := by
  refine va_callr (va_runS F hM cw ⟨PcG_blind _ _ _, fun U hU hWm => PcG_of hW hU hWm⟩ rfl hn hls hst hroom hdg hf) hS (fun q _ h => h) (fun q h => h) (fun u ra t H1 locs1 ht hvm hw hB hz hk hS1 => ?_)
  have hB' : ra = gA G i ∧ BcG G M' t := hB
  obtain ⟨rfl, hB'⟩ := hB'
  unfold BcG at hB'; rw [ht] at hB'
  exact kk H1 locs1 (hW.back hB'.1 hB'.2 hk) hS1
theorem k_cNi {r : Int} (F : CallFix p m c cc nL s args Ts own) (hM : Met l y wy rm (PcG G M As) (QcI G M' r) 0 0 (PA G)) {host : String} (cw : va_CN R s args own index y host bytes maxL ret wy rm 0 0 n ∧ (Cond.static y).before args s = true ∧ True) (hW : Wd G M s H) (hS : va_S (PA G) s.heap H locs) (hn : As.length = n) (hls : ls.size = nL) (hst : st0 = As.reverse ++ rest) (hroom : 2 * (F0 m pc ls st0).monitorRoom + (rest.map fun v => v.category).sum ≤ 8) (hdg : decode cc pc = .ok (.invokestatic index, 3)) (hf : cells ≤ R.cells ∧ slots ≤ R.slots)
    (kk : inR r → ∀ (H1 : Heap) (locs1 : List Loc), Wd G M' s H1 → va_S (PA G) s.heap H1 locs1 → W p l e R s m args below meth c H1 locs1 cells slots Q (F0 m (pc + 3) ls (.int (i3 r) :: rest))) : W p l e R s m args below meth c H locs cells slots Q (F0 m pc ls st0) := by
  refine va_calli (va_runSN F hM cw ⟨PcG_blind _ _ _, fun U hU hWm => PcG_of hW hU hWm⟩ rfl hn hls hst hroom hdg hf) hS (fun q _ h => h) (fun q h => h) (fun x u t H1 locs1 ht hvm hw hB hz hk hS1 => ?_)
  obtain ⟨rfl, hr⟩ := hw
  have hB' : BcG G M' t := hB
  unfold BcG at hB'; rw [ht] at hB'
  exact kk hr H1 locs1 (hW.back hB'.1 hB'.2 hk) hS1
theorem k_cNz {r : Int} (F : CallFix p m c cc nL s args Ts own) (hM : Met l y wy rm (PcG G M As) (QcZ G M' r) 0 0 (PA G)) {host : String} (cw : va_CN R s args own index y host bytes maxL ret wy rm 0 0 n ∧ (Cond.static y).before args s = true ∧ True) (hW : Wd G M s H) (hS : va_S (PA G) s.heap H locs) (hn : As.length = n) (hls : ls.size = nL) (hst : st0 = As.reverse ++ rest) (hroom : 2 * (F0 m pc ls st0).monitorRoom + (rest.map fun v => v.category).sum ≤ 8) (hdg : decode cc pc = .ok (.invokestatic index, 3)) (hf : cells ≤ R.cells ∧ slots ≤ R.slots)
    (kk : (r = 0 ∨ r = 1) → ∀ (H1 : Heap) (locs1 : List Loc), Wd G M' s H1 → va_S (PA G) s.heap H1 locs1 → W p l e R s m args below meth c H1 locs1 cells slots Q (F0 m (pc + 3) ls (.int (i3 r) :: rest))) : W p l e R s m args below meth c H locs cells slots Q (F0 m pc ls st0) := by
  refine va_calli (va_runSN F hM cw ⟨PcG_blind _ _ _, fun U hU hWm => PcG_of hW hU hWm⟩ rfl hn hls hst hroom hdg hf) hS (fun q _ h => h) (fun q h => h) (fun x u t H1 locs1 ht hvm hw hB hz hk hS1 => ?_)
  obtain ⟨rfl, hr⟩ := hw
  have hB' : BcG G M' t := hB
  unfold BcG at hB'; rw [ht] at hB'
  exact kk hr H1 locs1 (hW.back hB'.1 hB'.2 hk) hS1
theorem k_cNv (F : CallFix p m c cc nL s args Ts own) (hM : Met l y wy rm (PcG G M As) (QcV G M') 0 0 (PA G)) {host : String} (cw : va_CN R s args own index y host bytes maxL ret wy rm 0 0 n ∧ (Cond.static y).before args s = true ∧ True) (hW : Wd G M s H) (hS : va_S (PA G) s.heap H locs) (hn : As.length = n) (hls : ls.size = nL) (hst : st0 = As.reverse ++ rest) (hroom : 2 * (F0 m pc ls st0).monitorRoom + (rest.map fun v => v.category).sum ≤ 8) (hdg : decode cc pc = .ok (.invokestatic index, 3)) (hf : cells ≤ R.cells ∧ slots ≤ R.slots)
    (kk : ∀ (H1 : Heap) (locs1 : List Loc), Wd G M' s H1 → va_S (PA G) s.heap H1 locs1 → W p l e R s m args below meth c H1 locs1 cells slots Q (F0 m (pc + 3) ls rest)) : W p l e R s m args below meth c H locs cells slots Q (F0 m pc ls st0) := by
  refine va_callv (va_runSN F hM cw ⟨PcG_blind _ _ _, fun U hU hWm => PcG_of hW hU hWm⟩ rfl hn hls hst hroom hdg hf) hS (fun q _ h => h) (fun q h => h) (fun u t H1 locs1 ht hvm hw hB hz hk hS1 => ?_)
  have hB' : BcG G M' t := hB
  unfold BcG at hB'; rw [ht] at hB'
  exact kk H1 locs1 (hW.back hB'.1 hB'.2 hk) hS1
/-! given rows, given fields -/
theorem k_ti {t N : Nat} {f : Nat → Int} {i : Int} (hx : p.tables.exec = Jvm.exec) (hb : c.code = cc) (hT : va_T .int t N (fun j => .int (i3 (f j))) (PA G) s H) (hi : inR i) (h0 : 0 ≤ i) (h1 : i < (N : Int)) (hdg : decode cc pc = .ok (.iaload, 1)) (k : W p l e R s m args below meth c H locs cells slots Q (F0 m (pc + 1) ls (.int (i3 (f i.toNat)) :: rest))) : W p l e R s m args below meth c H locs cells slots Q (F0 m pc ls (.int (i3 i) :: .ref t :: rest)) := by
  obtain ⟨cell, g1, g2, g3, g4, g5, g6, g7⟩ := hT
  have hin := i3_in hi h0 h1
  have hlt : (i3 i).toNatClampNeg < N := Nat.not_le.mp fun q => hin (Or.inr q)
  refine W.iald (v := .int (i3 (f i.toNat))) hx hb g1 g2 g3 (fun q => hin (q.imp id fun z => Nat.le_trans g4 z)) (by rw [g6 _ hlt, i3_clamp hi]) rfl rfl hdg k
theorem k_tq {t N : Nat} {C : String} {f : Nat → Nat} {i : Int} (hx : p.tables.exec = Jvm.exec) (hb : c.code = cc) (hT : va_T (.object C) t N (fun j => .ref (f j)) (PA G) s H) (hi : inR i) (h0 : 0 ≤ i) (h1 : i < (N : Int)) (hdg : decode cc pc = .ok (.aaload, 1)) (k : W p l e R s m args below meth c H locs cells slots Q (F0 m (pc + 1) ls (.ref (f i.toNat) :: rest))) : W p l e R s m args below meth c H locs cells slots Q (F0 m pc ls (.int (i3 i) :: .ref t :: rest)) := by
  obtain ⟨cell, g1, g2, g3, g4, g5, g6, g7⟩ := hT
  have hin := i3_in hi h0 h1
  have hlt : (i3 i).toNatClampNeg < N := Nat.not_le.mp fun q => hin (Or.inr q)
  refine W.aald (v := .ref (f i.toNat)) (ty := .object C) hx hb g1 g2 rfl g3 (fun q => hin (q.imp id fun z => Nat.le_trans g4 z)) (by rw [g6 _ hlt, i3_clamp hi]) rfl rfl hdg k
theorem k_tb {t N : Nat} {f : Nat → Value} {i : Int32} {v : Value} (hx : p.tables.exec = Jvm.exec) (hb : c.code = cc) (hT : va_T .byte t N f (PA G) s H) (hin : vp_in i N) (hv : f i.toNatClampNeg = v) (hdg : decode cc pc = .ok (.baload, 1)) (k : W p l e R s m args below meth c H locs cells slots Q (F0 m (pc + 1) ls (v :: rest))) : W p l e R s m args below meth c H locs cells slots Q (F0 m pc ls (.int i :: .ref t :: rest)) := by
  obtain ⟨cell, g1, g2, g3, g4, g5, g6, g7⟩ := hT
  have hlt : i.toNatClampNeg < N := Nat.not_le.mp fun q => hin (Or.inr q)
  exact W.bald (v := v) hx hb g1 g2 g3 (fun q => hin (q.imp id fun z => Nat.le_trans g4 z)) (by rw [g6 _ hlt, hv]) rfl rfl hdg k
theorem k_tlen {t N : Nat} {ty : FieldType} {f : Nat → Value} {v : Int} (hx : p.tables.exec = Jvm.exec) (hb : c.code = cc) (hT : va_T ty t N f (PA G) s H) (hv : (N : Int) = v) (hdg : decode cc pc = .ok (.arraylength, 1)) (k : W p l e R s m args below meth c H locs cells slots Q (F0 m (pc + 1) ls (.int (i3 v) :: rest))) : W p l e R s m args below meth c H locs cells slots Q (F0 m pc ls (.ref t :: rest)) := by
  subst hv
  obtain ⟨cell, g1, g2, g3, g4, g5, g6, g7⟩ := hT
  exact W.alen (n := i3 (N : Int)) hx hb g1 g2 (by rw [g5, i3_nat]) rfl rfl hdg k
theorem k_gets {C n d : String} {v : Value} (hx : p.tables.exec = Jvm.exec) (hb : c.code = cc) (hZ : va_Z C n d v (PA G) s H) (hown : s.vm.findClass own = some m.cls) (hlink : (Cond.fieldLink own index C n d).before args s = true) (hdg : decode cc pc = .ok (.getstatic index, 3)) (k : W p l e R s m args below meth c H locs cells slots Q (F0 m (pc + 3) ls (v :: rest))) : W p l e R s m args below meth c H locs cells slots Q (F0 m pc ls rest) := by
  obtain ⟨cf, kf, fi, f, a, cell, g1, g2, g3, g4, g5, g6, g7, g8⟩ := hZ
  exact W.gets hx hb hown hlink g1 g2 g3 g4 g5 (fun q => by rw [q] at g6; cases g6) g7 rfl hdg k
theorem k_getsN {C n d host : String} {v : Value} (hx : p.tables.exec = Jvm.exec) (hb : c.code = cc) (hZ : va_Z C n d v (PA G) s H) (hown : s.vm.findClass own = some m.cls) (hlink : (Cond.fieldLinkNest own index C n d host).before args s = true) (hdg : decode cc pc = .ok (.getstatic index, 3)) (k : W p l e R s m args below meth c H locs cells slots Q (F0 m (pc + 3) ls (v :: rest))) : W p l e R s m args below meth c H locs cells slots Q (F0 m pc ls rest) := by
  obtain ⟨cf, kf, fi, f, a, cell, g1, g2, g3, g4, g5, g6, g7, g8⟩ := hZ
  exact va_WgetsN hx hb hown hlink g1 g2 g3 g4 g5 (fun q => by rw [q] at g6; cases g6) g7 rfl hdg k
theorem k_getO {o n d : String} {q : Nat} {v : Value} (hx : p.tables.exec = Jvm.exec) (hb : c.code = cc) (hE : va_OF o n d v q (PA G) s H) (hown : s.vm.findClass own = some m.cls) (hlink : (Cond.fieldLink own index o n d).before args s = true) (hdg : decode cc pc = .ok (.getfield index, 3)) (k : W p l e R s m args below meth c H locs cells slots Q (F0 m (pc + 3) ls (v :: rest))) : W p l e R s m args below meth c H locs cells slots Q (F0 m pc ls (.ref q :: rest)) := by
  obtain ⟨cf, kf, fi, f, cell, g1, g2, g3, g4, g5, g6⟩ := hE
  exact W.getf hx hb hown hlink g1 g2 g3 g4 (v := v) g5 rfl rfl hdg k
/-- a wall of the row of walls -/
theorem k_aald {i : Int} (hx : p.tables.exec = Jvm.exec) (hb : c.code = cc) (hW : Wd G M s H) (hi : inR i) (h0 : 0 ≤ i) (h1 : i < 8) (hdg : decode cc pc = .ok (.aaload, 1)) (k : W p l e R s m args below meth c H locs cells slots Q (F0 m (pc + 1) ls (.ref (gA G (5 + (3 + i.toNat))) :: rest))) : W p l e R s m args below meth c H locs cells slots Q (F0 m pc ls (.int (i3 i) :: .ref (gA G 4) :: rest)) := by
  have he : (pW G M)[4]? = some (gA G 4, .inl (G.2.2.1, 8, .inr (.inr (.inr (.inr (fun j => some (gA G (5 + (3 + j))))))))) := by rw [pW_get G M (by decide)]; rfl
  refine va_aldq hx hb hW.K hW.P 4 1 he rfl (i3_in hi h0 h1) hdg ?_
  rw [i3_clamp hi]
  exact k
theorem k_walen (hx : p.tables.exec = Jvm.exec) (hb : c.code = cc) (hW : Wd G M s H) (hdg : decode cc pc = .ok (.arraylength, 1)) (k : W p l e R s m args below meth c H locs cells slots Q (F0 m (pc + 1) ls (.int (i3 8) :: rest))) : W p l e R s m args below meth c H locs cells slots Q (F0 m pc ls (.ref (gA G 4) :: rest)) := by
  have he : (pW G M)[4]? = some (gA G 4, .inl (G.2.2.1, 8, .inr (.inr (.inr (.inr (fun j => some (gA G (5 + (3 + j))))))))) := by rw [pW_get G M (by decide)]; rfl
  exact va_alen hx hb hW.K hW.P 4 1 he rfl (i3_nat 8) hdg k
end KR
theorem ent_wall {k : Nat} (hk : k < 11) (G : gG) (f : Nat → Int) : entF G f (5 + k) = .inr (3, [.ref (gA G (16 + 6 * k)), .ref (gA G (16 + 6 * k + 1)), .ref (gA G (16 + 6 * k + 2)), .ref (gA G (16 + 6 * k + 3)), .ref (gA G (16 + 6 * k + 4)), .ref (gA G (16 + 6 * k + 5))]) := by
  unfold entF
  rw [if_neg (by omega), if_pos (by omega), show 5 + k - 5 = k by omega]
theorem he_wall {k : Nat} (hk : k < 11) (G : gG) (M : MemG) : (pW G M)[5 + k]? = some (gA G (5 + k), .inr (3, [.ref (gA G (16 + 6 * k)), .ref (gA G (16 + 6 * k + 1)), .ref (gA G (16 + 6 * k + 2)), .ref (gA G (16 + 6 * k + 3)), .ref (gA G (16 + 6 * k + 4)), .ref (gA G (16 + 6 * k + 5))])) := by
  rw [pW_get G M (by omega), ent_wall hk]
theorem he_G (G : gG) (M : MemG) : (pW G M)[0]? = some (gA G 0, .inr (4, [.ref (gA G 5), .ref (gA G 6), .ref (gA G 7), .int (i3 (M 0 3)), .ref (gA G 1), .ref (gA G 2), .ref (gA G 3), .int (i3 (M 0 7)), .int (i3 (M 0 8)), .ref (gA G 85)])) := by rw [pW_get G M (by decide)]; rfl
theorem he_P (G : gG) (M : MemG) : (pW G M)[1]? = some (gA G 1, .inr (2, [.ref (gA G 4), .int (i3 (M 1 1)), .int (i3 (M 1 2))])) := by rw [pW_get G M (by decide)]; rfl
theorem he_T (G : gG) (M : MemG) : (pW G M)[2]? = some (gA G 2, .inr (0, [.ref (gA G 82), .int (i3 (M 2 1)), .ref (gA G 83), .int (i3 (M 2 3)), .int (i3 (M 2 4)), .int (i3 (M 2 5))])) := by rw [pW_get G M (by decide)]; rfl
theorem he_N (G : gG) (M : MemG) : (pW G M)[3]? = some (gA G 3, .inr (1, [.ref (gA G 84), .int (i3 (M 3 1))])) := by rw [pW_get G M (by decide)]; rfl
theorem rv_wall {k : Nat} (hk : k < 11) {G : gG} {M : MemG} {s : State} {H : Heap} (h : Wd G M s H) : ∃ cell : Cell, H[gA G (5 + k)]? = some cell ∧ cell.vm.isStatics = false ∧ s.vm.findClass RX3 = some cell.cls := va_recv (q := (RX3, TX3, 6)) h.K h.P rfl (he_wall hk G M)
theorem rv_G {G : gG} {M : MemG} {s : State} {H : Heap} (h : Wd G M s H) : ∃ cell : Cell, H[gA G 0]? = some cell ∧ cell.vm.isStatics = false ∧ s.vm.findClass RX4 = some cell.cls := va_recv (q := (RX4, TX4, 10)) h.K h.P rfl (he_G G M)
theorem rv_P {G : gG} {M : MemG} {s : State} {H : Heap} (h : Wd G M s H) : ∃ cell : Cell, H[gA G 1]? = some cell ∧ cell.vm.isStatics = false ∧ s.vm.findClass RX2 = some cell.cls := va_recv (q := (RX2, TX2, 3)) h.K h.P rfl (he_P G M)
theorem rv_T {G : gG} {M : MemG} {s : State} {H : Heap} (h : Wd G M s H) : ∃ cell : Cell, H[gA G 2]? = some cell ∧ cell.vm.isStatics = false ∧ s.vm.findClass RX0 = some cell.cls := va_recv (q := (RX0, TX0, 6)) h.K h.P rfl (he_T G M)
theorem rv_N {G : gG} {M : MemG} {s : State} {H : Heap} (h : Wd G M s H) : ∃ cell : Cell, H[gA G 3]? = some cell ∧ cell.vm.isStatics = false ∧ s.vm.findClass RX1 = some cell.cls := va_recv (q := (RX1, TX1, 2)) h.K h.P rfl (he_N G M)
theorem rv_S {i : Nat} (hi : i < 26) {G : gG} {M : MemG} {s : State} {H : Heap} (h : Wd G M s H) : ∃ cell : Cell, H[gA G (100 + i)]? = some cell ∧ cell.vm.isStatics = false ∧ s.vm.findClass "java/lang/String" = some cell.cls := by
  obtain ⟨cell, h1, h2, h3, -⟩ := (h.S.2.2.2.2.1.1 i hi).1
  exact ⟨cell, h1, h2, h3⟩
theorem i3_min {a b : Int} (ha : inR a) (hb : inR b) : (if i3 b < i3 a then i3 b else i3 a) = i3 (min a b) := by
  by_cases h : b < a
  · rw [if_pos ((i3_lt hb ha).mpr h), show min a b = b by omega]
  · rw [if_neg (fun q => h ((i3_lt hb ha).mp q)), show min a b = a by omega]
theorem i3_max {a b : Int} (ha : inR a) (hb : inR b) : (if i3 a < i3 b then i3 b else i3 a) = i3 (max a b) := by
  by_cases h : a < b
  · rw [if_pos ((i3_lt ha hb).mpr h), show max a b = b by omega]
  · rw [if_neg (fun q => h ((i3_lt ha hb).mp q)), show max a b = a by omega]
theorem inR_min {a b : Int} (ha : inR a) (hb : inR b) : inR (min a b) := by
  have := ha.1; have := ha.2; have := hb.1; have := hb.2
  constructor <;> omega
theorem inR_max {a b : Int} (ha : inR a) (hb : inR b) : inR (max a b) := by
  have := ha.1; have := ha.2; have := hb.1; have := hb.2
  constructor <;> omega
def lcI (a b : Int64) : Int := (lg_cmp a b).toInt
def fcI (a b : UInt32) : Int := (Op.cmpValue (FP.fcmp a b) CmpOp.l).toInt
def dcI (a b : UInt64) : Int := (Op.cmpValue (FP.dcmp a b) CmpOp.l).toInt
/-- a division of floats, of doubles, that answers a number -/
def gff {α : Type} (x : UInt32) (k : Option α) : Option α := if x &&& 0x7fffffff ≤ 0x7f800000 then k else none
theorem gff_el {α : Type} {x : UInt32} {k : Option α} {r : α} (h : gff x k = some r) : vf_n32 x ∧ k = some r := by
  unfold gff at h
  by_cases c : x &&& 0x7fffffff ≤ 0x7f800000
  · rw [if_pos c] at h; exact ⟨c, h⟩
  · rw [if_neg c] at h; cases h
def gdd {α : Type} (x : UInt64) (k : Option α) : Option α := if x &&& 0x7fffffffffffffff ≤ 0x7ff0000000000000 then k else none
theorem gdd_el {α : Type} {x : UInt64} {k : Option α} {r : α} (h : gdd x k = some r) : vf_n64 x ∧ k = some r := by
  unfold gdd at h
  by_cases c : x &&& 0x7fffffffffffffff ≤ 0x7ff0000000000000
  · rw [if_pos c] at h; exact ⟨c, h⟩
  · rw [if_neg c] at h; cases h
section KT
variable {p : Program} {l : Launch} {e : Env} {R : Room} {s : State} {m : MethodId} {args : Array Value} {below : List Frame} {meth : Method} {c : Code} {H : Heap} {locs : List Loc} {cells slots : Nat} {Q : State → Prop} {cc : ByteArray} {pc : Nat} {ls : Array Slot} {rest : List Value}
theorem k_lcmp {x y : Int64} (hx : p.tables.exec = Jvm.exec) (hb : c.code = cc) (hdg : decode cc pc = .ok (.lcmp, 1)) (k : W p l e R s m args below meth c H locs cells slots Q (F0 m (pc + 1) ls (.int (i3 (lcI x y)) :: rest))) : W p l e R s m args below meth c H locs cells slots Q (F0 m pc ls (.long y :: .long x :: rest)) := W.lcmp hx hb hdg (by unfold lcI at k; rw [i3_of] at k; exact k)
theorem k_fcmp {x y : UInt32} (hx : p.tables.exec = Jvm.exec) (hb : c.code = cc) (hdg : decode cc pc = .ok (.fcmp .l, 1)) (k : W p l e R s m args below meth c H locs cells slots Q (F0 m (pc + 1) ls (.int (i3 (fcI x y)) :: rest))) : W p l e R s m args below meth c H locs cells slots Q (F0 m pc ls (.float y :: .float x :: rest)) := lv_fcmp hx hb hdg (by unfold fcI at k; rw [i3_of] at k; exact k)
theorem k_dcmp {x y : UInt64} (hx : p.tables.exec = Jvm.exec) (hb : c.code = cc) (hdg : decode cc pc = .ok (.dcmp .l, 1)) (k : W p l e R s m args below meth c H locs cells slots Q (F0 m (pc + 1) ls (.int (i3 (dcI x y)) :: rest))) : W p l e R s m args below meth c H locs cells slots Q (F0 m pc ls (.double y :: .double x :: rest)) := lv_dcmp hx hb hdg (by unfold dcI at k; rw [i3_of] at k; exact k)
theorem k_tin {x : Int} {dflt lo hi : Int} {offs : Array Int} {len : Nat} {off : Int} {tgt : Nat} (hx : p.tables.exec = Jvm.exec) (hb : c.code = cc) (hr : inR x) (hdg : decode cc pc = .ok (.tableswitch dflt lo hi offs, len)) (h1 : lo ≤ x) (h2 : x ≤ hi) (ho : offs[(x - lo).toNat]? = some off) (ht : (pc : Int) + off = (tgt : Int)) (k : W p l e R s m args below meth c H locs cells slots Q (F0 m tgt ls rest)) : W p l e R s m args below meth c H locs cells slots Q (F0 m pc ls (.int (i3 x) :: rest)) := lv_tableIn hx hb hdg (by rw [i3_toInt hr]; omega) (by rw [i3_toInt hr]; omega) (by rw [i3_toInt hr]; exact ho) ht k
theorem k_tout {x : Int} {dflt lo hi : Int} {offs : Array Int} {len : Nat} {tgt : Nat} (hx : p.tables.exec = Jvm.exec) (hb : c.code = cc) (hr : inR x) (hdg : decode cc pc = .ok (.tableswitch dflt lo hi offs, len)) (h : x < lo ∨ hi < x) (ht : (pc : Int) + dflt = (tgt : Int)) (k : W p l e R s m args below meth c H locs cells slots Q (F0 m tgt ls rest)) : W p l e R s m args below meth c H locs cells slots Q (F0 m pc ls (.int (i3 x) :: rest)) := lv_tableOut hx hb hdg (by rw [i3_toInt hr]; exact h) ht k
theorem k_tdef {x : Int} {dflt lo hi : Int} {offs : Array Int} {len : Nat} {tgt : Nat} (hx : p.tables.exec = Jvm.exec) (hb : c.code = cc) (hr : inR x) (hdg : decode cc pc = .ok (.tableswitch dflt lo hi offs, len)) (h : (x < lo ∨ hi < x) ∨ (lo ≤ x ∧ x ≤ hi ∧ offs[(x - lo).toNat]? = some dflt)) (ht : (pc : Int) + dflt = (tgt : Int)) (k : W p l e R s m args below meth c H locs cells slots Q (F0 m tgt ls rest)) : W p l e R s m args below meth c H locs cells slots Q (F0 m pc ls (.int (i3 x) :: rest)) := by
  rcases h with h | ⟨h1, h2, h3⟩
  · exact k_tout hx hb hr hdg h ht k
  · exact k_tin hx hb hr hdg h1 h2 h3 ht k
theorem k_min {own : String} {index : Nat} {a b : Int} (hx : p.tables.exec = Jvm.exec) (hb : c.code = cc) (hml : c.maxLocals = ls.size) (hown : s.vm.findClass own = some m.cls) (hlink : (Cond.methodLink own index Lib.Math.min.name).before args s = true) (hstat : (Cond.static Lib.Math.min.name).before args s = true) (hini : (Cond.initialized "java/lang/Math").before args s = true) (hcode : (Cond.code Lib.Math.min.name Lib.Math.min.code 2 (some .int)).before args s = true) (hframes : 1 ≤ R.frames) (hlocals : (rest.map fun v => v.category).sum + 13 ≤ R.locals) (hc : cells ≤ R.cells) (hs : slots ≤ R.slots) (ha : inR a) (hb2 : inR b) (hdg : decode cc pc = .ok (.invokestatic index, 3))
    (k : W p l e R s m args below meth c H locs cells slots Q (F0 m (pc + 3) ls (.int (i3 (min a b)) :: rest))) : W p l e R s m args below meth c H locs cells slots Q (F0 m pc ls (.int (i3 b) :: .int (i3 a) :: rest)) := va_mmin hx hb hml hown hlink hstat hini hcode hframes hlocals hc hs hdg (by rw [i3_min ha hb2]; exact k)
theorem k_max {own : String} {index : Nat} {a b : Int} (hx : p.tables.exec = Jvm.exec) (hb : c.code = cc) (hml : c.maxLocals = ls.size) (hown : s.vm.findClass own = some m.cls) (hlink : (Cond.methodLink own index Lib.Math.max.name).before args s = true) (hstat : (Cond.static Lib.Math.max.name).before args s = true) (hini : (Cond.initialized "java/lang/Math").before args s = true) (hcode : (Cond.code Lib.Math.max.name Lib.Math.max.code 2 (some .int)).before args s = true) (hframes : 1 ≤ R.frames) (hlocals : (rest.map fun v => v.category).sum + 13 ≤ R.locals) (hc : cells ≤ R.cells) (hs : slots ≤ R.slots) (ha : inR a) (hb2 : inR b) (hdg : decode cc pc = .ok (.invokestatic index, 3))
    (k : W p l e R s m args below meth c H locs cells slots Q (F0 m (pc + 3) ls (.int (i3 (max a b)) :: rest))) : W p l e R s m args below meth c H locs cells slots Q (F0 m pc ls (.int (i3 b) :: .int (i3 a) :: rest)) := va_mmax hx hb hml hown hlink hstat hini hcode hframes hlocals hc hs hdg (by rw [i3_max ha hb2]; exact k)
end KT
/-! an object of the pool with another number in a field -/
theorem pe_0 (G : gG) (f : Nat → Int) : entF G f 0 = .inr (4, [.ref (gA G 5), .ref (gA G 6), .ref (gA G 7), .int (i3 (f 3)), .ref (gA G 1), .ref (gA G 2), .ref (gA G 3), .int (i3 (f 7)), .int (i3 (f 8)), .ref (gA G 85)]) := rfl
theorem pu_0_3 (G : gG) (M : MemG) (x : Int) : entF G (up M 0 3 x 0) 0 = .inr (4, [.ref (gA G 5), .ref (gA G 6), .ref (gA G 7), .int (i3 x), .ref (gA G 1), .ref (gA G 2), .ref (gA G 3), .int (i3 (M 0 7)), .int (i3 (M 0 8)), .ref (gA G 85)]) := by simp [entF, up]
theorem pu_0_7 (G : gG) (M : MemG) (x : Int) : entF G (up M 0 7 x 0) 0 = .inr (4, [.ref (gA G 5), .ref (gA G 6), .ref (gA G 7), .int (i3 (M 0 3)), .ref (gA G 1), .ref (gA G 2), .ref (gA G 3), .int (i3 x), .int (i3 (M 0 8)), .ref (gA G 85)]) := by simp [entF, up]
theorem pu_0_8 (G : gG) (M : MemG) (x : Int) : entF G (up M 0 8 x 0) 0 = .inr (4, [.ref (gA G 5), .ref (gA G 6), .ref (gA G 7), .int (i3 (M 0 3)), .ref (gA G 1), .ref (gA G 2), .ref (gA G 3), .int (i3 (M 0 7)), .int (i3 x), .ref (gA G 85)]) := by simp [entF, up]
theorem pe_1 (G : gG) (f : Nat → Int) : entF G f 1 = .inr (2, [.ref (gA G 4), .int (i3 (f 1)), .int (i3 (f 2))]) := rfl
theorem pu_1_1 (G : gG) (M : MemG) (x : Int) : entF G (up M 1 1 x 1) 1 = .inr (2, [.ref (gA G 4), .int (i3 x), .int (i3 (M 1 2))]) := by simp [entF, up]
theorem pu_1_2 (G : gG) (M : MemG) (x : Int) : entF G (up M 1 2 x 1) 1 = .inr (2, [.ref (gA G 4), .int (i3 (M 1 1)), .int (i3 x)]) := by simp [entF, up]
theorem pe_2 (G : gG) (f : Nat → Int) : entF G f 2 = .inr (0, [.ref (gA G 82), .int (i3 (f 1)), .ref (gA G 83), .int (i3 (f 3)), .int (i3 (f 4)), .int (i3 (f 5))]) := rfl
theorem pu_2_1 (G : gG) (M : MemG) (x : Int) : entF G (up M 2 1 x 2) 2 = .inr (0, [.ref (gA G 82), .int (i3 x), .ref (gA G 83), .int (i3 (M 2 3)), .int (i3 (M 2 4)), .int (i3 (M 2 5))]) := by simp [entF, up]
theorem pu_2_3 (G : gG) (M : MemG) (x : Int) : entF G (up M 2 3 x 2) 2 = .inr (0, [.ref (gA G 82), .int (i3 (M 2 1)), .ref (gA G 83), .int (i3 x), .int (i3 (M 2 4)), .int (i3 (M 2 5))]) := by simp [entF, up]
theorem pu_2_4 (G : gG) (M : MemG) (x : Int) : entF G (up M 2 4 x 2) 2 = .inr (0, [.ref (gA G 82), .int (i3 (M 2 1)), .ref (gA G 83), .int (i3 (M 2 3)), .int (i3 x), .int (i3 (M 2 5))]) := by simp [entF, up]
theorem pu_2_5 (G : gG) (M : MemG) (x : Int) : entF G (up M 2 5 x 2) 2 = .inr (0, [.ref (gA G 82), .int (i3 (M 2 1)), .ref (gA G 83), .int (i3 (M 2 3)), .int (i3 (M 2 4)), .int (i3 x)]) := by simp [entF, up]
theorem pe_3 (G : gG) (f : Nat → Int) : entF G f 3 = .inr (1, [.ref (gA G 84), .int (i3 (f 1))]) := rfl
theorem pu_3_1 (G : gG) (M : MemG) (x : Int) : entF G (up M 3 1 x 3) 3 = .inr (1, [.ref (gA G 84), .int (i3 x)]) := by simp [entF, up]
theorem inR_len (a : Nat) : inR (lenA a : Nat) := by
  have := lenA_le a
  constructor <;> omega
theorem inR_tab (a j : Nat) : inR (tabS a j) := by
  have h : ∀ (l : List Int), (∀ x ∈ l, inR x) → ∀ j, inR (l.getD j 0) := by
    intro l hl j
    rw [List.getD_eq_getElem?_getD]
    cases hj : l[j]? with
    | none => exact inR_0
    | some x => exact hl x (List.mem_of_getElem? hj)
  unfold tabS
  by_cases c : a = 86
  · rw [if_pos c]; exact h _ (by decide) j
  · rw [if_neg c]; exact h _ (by decide) j
end
section
/-! the members of String that are reached: length, isEmpty, charAt, over the claim's texts -/
theorem tx_len : ∀ i, i < 26 → lenS i < 60 := by decide +kernel
theorem tx_ch : ∀ i, i < 26 → ∀ j, j < lenS i → (Value.int ((txB.getD i []).getD j 0) = .int (i3 (chS i j)) ∧ andI (chS i j) 255 = chS i j ∧ ((i3 (chS i j)).toUInt32 % 65536).toInt32 = i3 (chS i j) ∧ narrow .char (.int (i3 (chS i j))) = .int (i3 (chS i j)) ∧ inR (chS i j)) := by decide +kernel
def fS_length (i : Nat) : Int := (lenS i : Nat)
def fS_isEmpty (i : Nat) : Int := if (lenS i : Int) = 0 then 1 else 0
def fS_charAt (i : Nat) (x : Int) : Option Int := gx x (lenS i : Nat) (some (chS i x.toNat))
theorem inR_lenS {i : Nat} (hi : i < 26) : inR (lenS i : Nat) := by
  have := tx_len i hi
  constructor <;> omega
theorem rv_B {i : Nat} (hi : i < 26) {G : gG} {M : MemG} {s : State} {H : Heap} (h : Wd G M s H) : va_O "java/lang/String" (gA G (100 + i)) (PA G) s H ∧ va_OF "java/lang/String" "coder" "B" (.int 0) (gA G (100 + i)) (PA G) s H ∧ va_OF "java/lang/String" "value" "[B" (.ref (gA G (200 + i))) (gA G (100 + i)) (PA G) s H ∧ va_T .byte (gA G (200 + i)) (lenS i) (fun j => .int ((txB.getD i []).getD j 0)) (PA G) s H := h.S.2.2.2.2.1.1 i hi
set_option maxHeartbeats 4000000 in
set_option maxRecDepth 100000 in
theorem mS_coder (l : Launch) (G : gG) (M0 : MemG) (i : Nat) (hi : i < 26) : Met l yJ0_coder_7d493 (wb yJ0_coder_7d493 cJ0_coder_7d493 1 (some .byte)) ({ frames := 0, cells := 0, slots := 0, locals := 0 } : Room) (PcG G M0 [.ref (gA G (100 + i))]) (QcI G M0 0) 0 0 (PA G) := by
  refine Met.ofW (cc := cJ0_coder_7d493) (maxL := 1) (ret := (some .byte)) (by decide) rfl ?_
  intro p e s m args below meth c s₁ B hml hv0
  obtain ⟨hav, hW⟩ := hv0
  have hx := B.exec
  have hb := B.bytes
  have hr := B.returns
  have hts := atoms_spec (ws := (wb yJ0_coder_7d493 cJ0_coder_7d493 1 (some .byte))) B.pre
  have hown : s.vm.findClass RJ0 = some m.cls := findClass_of_methodNamed B.named
  have hlocks := B.notSynchronized
  have hW : Wd G M0 s s.heap := hW
  have hS : va_S (PA G) s.heap s.heap [] := va_S.rf
  have hl := lv_entry [.ref (gA G (100 + i))] (n := 1) (Nat.le_of_ble_eq_true rfl)
  have hent := lg_entry_eq m [.ref (gA G (100 + i))] 1
  rw [← hav] at hent
  rw [hent]
  clear hent
  generalize (lg_sl [.ref (gA G (100 + i))] ++ List.replicate (1 - (lg_sl [.ref (gA G (100 + i))]).length) Slot.unset).toArray = ls at hl ⊢
  have hl : lv_has ls 1 [(0, .ref (gA G (100 + i)))] := hl
  show W p l e ({ frames := 0, cells := 0, slots := 0, locals := 0 } : Room) s m args below meth c s.heap [] 0 0 (MQ below (QcI G M0 0) args s 0 0 (PA G)) (F0 m 0 ls [])
  refine k_gets (v := .int (i3 1)) hx hb (by rw [i3_1]; exact hW.S.2.2.2.2.2.1) hown (hts _ (List.mem_cons_of_mem _ (inB_15 _ (List.mem_of_getElem? (i := 0) rfl)))) dJ0_coder_7d493_0 ?_
  refine k_if_eq (tgt := 13) hx hb (by decide) dJ0_coder_7d493_3 (by decide) (fun h => absurd h (by decide)) (fun _ => ?_)
  refine lv_aload_n hx hb dJ0_coder_7d493_6 rfl (lv_at hl 0 rfl) ?_
  refine k_getO (v := .int (i3 0)) hx hb (by rw [i3_0]; exact (rv_B hi hW).2.1) hown (hts _ (List.mem_cons_of_mem _ (inB_15 _ (List.mem_of_getElem? (i := 1) rfl)))) dJ0_coder_7d493_7 ?_
  refine lv_goto (tgt := 14) hx hb dJ0_coder_7d493_10 (by decide) ?_
  exact k_rett hx hb hr hlocks hW hS rfl (by decide) (by decide +kernel) dJ0_coder_7d493_14
set_option maxHeartbeats 4000000 in
set_option maxRecDepth 100000 in
theorem mS_isLatin1 (l : Launch) (G : gG) (M0 : MemG) (i : Nat) (hi : i < 26) : Met l yJ0_isLatin1_aae02 (wb yJ0_isLatin1_aae02 cJ0_isLatin1_aae02 1 (some .boolean)) ({ frames := 0, cells := 0, slots := 0, locals := 0 } : Room) (PcG G M0 [.ref (gA G (100 + i))]) (QcZ G M0 1) 0 0 (PA G) := by
  refine Met.ofW (cc := cJ0_isLatin1_aae02) (maxL := 1) (ret := (some .boolean)) (by decide) rfl ?_
  intro p e s m args below meth c s₁ B hml hv0
  obtain ⟨hav, hW⟩ := hv0
  have hx := B.exec
  have hb := B.bytes
  have hr := B.returns
  have hts := atoms_spec (ws := (wb yJ0_isLatin1_aae02 cJ0_isLatin1_aae02 1 (some .boolean))) B.pre
  have hown : s.vm.findClass RJ0 = some m.cls := findClass_of_methodNamed B.named
  have hlocks := B.notSynchronized
  have hW : Wd G M0 s s.heap := hW
  have hS : va_S (PA G) s.heap s.heap [] := va_S.rf
  have hl := lv_entry [.ref (gA G (100 + i))] (n := 1) (Nat.le_of_ble_eq_true rfl)
  have hent := lg_entry_eq m [.ref (gA G (100 + i))] 1
  rw [← hav] at hent
  rw [hent]
  clear hent
  generalize (lg_sl [.ref (gA G (100 + i))] ++ List.replicate (1 - (lg_sl [.ref (gA G (100 + i))]).length) Slot.unset).toArray = ls at hl ⊢
  have hl : lv_has ls 1 [(0, .ref (gA G (100 + i)))] := hl
  show W p l e ({ frames := 0, cells := 0, slots := 0, locals := 0 } : Room) s m args below meth c s.heap [] 0 0 (MQ below (QcZ G M0 1) args s 0 0 (PA G)) (F0 m 0 ls [])
  refine k_gets (v := .int (i3 1)) hx hb (by rw [i3_1]; exact hW.S.2.2.2.2.2.1) hown (hts _ (List.mem_cons_of_mem _ (inB_15 _ (List.mem_of_getElem? (i := 0) rfl)))) dJ0_isLatin1_aae02_0 ?_
  refine k_if_eq (tgt := 17) hx hb (by decide) dJ0_isLatin1_aae02_3 (by decide) (fun h => absurd h (by decide)) (fun _ => ?_)
  refine lv_aload_n hx hb dJ0_isLatin1_aae02_6 rfl (lv_at hl 0 rfl) ?_
  refine k_getO (v := .int (i3 0)) hx hb (by rw [i3_0]; exact (rv_B hi hW).2.1) hown (hts _ (List.mem_cons_of_mem _ (inB_15 _ (List.mem_of_getElem? (i := 1) rfl)))) dJ0_isLatin1_aae02_7 ?_
  refine k_if_ne (tgt := 17) hx hb (by decide) dJ0_isLatin1_aae02_10 (by decide) (fun h => absurd rfl h) (fun _ => ?_)
  refine k_const hx hb dJ0_isLatin1_aae02_13 ?_
  refine lv_goto (tgt := 18) hx hb dJ0_isLatin1_aae02_14 (by decide) ?_
  exact k_retz hx hb hr hlocks hW hS rfl (by decide) dJ0_isLatin1_aae02_18
set_option maxHeartbeats 4000000 in
set_option maxRecDepth 100000 in
theorem mS_length_b (l : Launch) (G : gG) (M0 : MemG) (i : Nat) (hi : i < 26) : Met l yJ0_length_8abf5 (wb yJ0_length_8abf5 cJ0_length_8abf5 1 (some .int)) ({ frames := 1, cells := 0, slots := 0, locals := 20 } : Room) (PcG G M0 [.ref (gA G (100 + i))]) (QcI G M0 (lenS i : Nat)) 0 0 (PA G) := by
  refine Met.ofW (cc := cJ0_length_8abf5) (maxL := 1) (ret := (some .int)) (by decide) rfl ?_
  intro p e s m args below meth c s₁ B hml hv0
  obtain ⟨hav, hW⟩ := hv0
  have hx := B.exec
  have hb := B.bytes
  have hr := B.returns
  have hts := atoms_spec (ws := (wb yJ0_length_8abf5 cJ0_length_8abf5 1 (some .int))) B.pre
  have hown : s.vm.findClass RJ0 = some m.cls := findClass_of_methodNamed B.named
  have hlocks := B.notSynchronized
  have hW : Wd G M0 s s.heap := hW
  have hS : va_S (PA G) s.heap s.heap [] := va_S.rf
  have hl := lv_entry [.ref (gA G (100 + i))] (n := 1) (Nat.le_of_ble_eq_true rfl)
  have hent := lg_entry_eq m [.ref (gA G (100 + i))] 1
  rw [← hav] at hent
  rw [hent]
  clear hent
  generalize (lg_sl [.ref (gA G (100 + i))] ++ List.replicate (1 - (lg_sl [.ref (gA G (100 + i))]).length) Slot.unset).toArray = ls at hl ⊢
  have hl : lv_has ls 1 [(0, .ref (gA G (100 + i)))] := hl
  show W p l e ({ frames := 1, cells := 0, slots := 0, locals := 20 } : Room) s m args below meth c s.heap [] 0 0 (MQ below (QcI G M0 (lenS i : Nat)) args s 0 0 (PA G)) (F0 m 0 ls [])
  refine lv_aload_n hx hb dJ0_length_8abf5_0 rfl (lv_at hl 0 rfl) ?_
  refine k_getO hx hb (rv_B hi hW).2.2.1 hown (hts _ (List.mem_cons_of_mem _ (inB_14 _ (List.mem_of_getElem? (i := 19) rfl)))) dJ0_length_8abf5_1 ?_
  refine k_tlen (v := (lenS i : Nat)) hx hb (rv_B hi hW).2.2.2 rfl dJ0_length_8abf5_4 ?_
  refine lv_aload_n hx hb dJ0_length_8abf5_5 rfl (lv_at hl 0 rfl) ?_
  refine k_cVi (As := []) (rest := [.int (i3 (lenS i : Nat))]) ⟨hx, hb, hml, hown, hts⟩ (mS_coder l G M0 i hi) (cwV 0 hts (gbV (inB_14 _ (List.mem_of_getElem? (i := 20) rfl)) (inB_14 _ (List.mem_of_getElem? (i := 21) rfl)) (inB_14 _ (List.mem_of_getElem? (i := 22) rfl)) (inB_14 _ (List.mem_of_getElem? (i := 17) rfl)) (inB_14 _ (List.mem_of_getElem? (i := 23) rfl))) rfl rfl rfl (by decide +kernel) ⟨Nat.le_of_ble_eq_true rfl, Nat.le_of_ble_eq_true rfl⟩) (rv_S hi hW) hW hS rfl hl.1 rfl (lv_room (Nat.le_of_ble_eq_true rfl)) dJ0_length_8abf5_6 ⟨Nat.zero_le _, Nat.zero_le _⟩ (fun hv H locs hW hS => ?_)
  refine k_shr hx hb dJ0_length_8abf5_9 ?_
  have he : ∀ i, i < 26 → shrI (lenS i : Nat) 0 = (lenS i : Nat) := by decide +kernel
  rw [he i hi]
  exact k_ret hx hb hr hlocks hW hS rfl (inR_lenS hi) dJ0_length_8abf5_10
theorem mS_length (l : Launch) (G : gG) (M0 : MemG) (i : Nat) (hi : i < 26) (r : Int) (hf : fS_length i = r) : Met l yJ0_length_8abf5 (wb yJ0_length_8abf5 cJ0_length_8abf5 1 (some .int)) ({ frames := 1, cells := 0, slots := 0, locals := 20 } : Room) (PcG G M0 [.ref (gA G (100 + i))]) (QcI G M0 r) 0 0 (PA G) := by
  subst hf
  exact mS_length_b l G M0 i hi
set_option maxHeartbeats 4000000 in
set_option maxRecDepth 100000 in
theorem mS_isEmpty (l : Launch) (G : gG) (M0 : MemG) (i : Nat) (hi : i < 26) (r : Int) (hf : fS_isEmpty i = r) : Met l yJ0_isEmpty_aae02 (wb yJ0_isEmpty_aae02 cJ0_isEmpty_aae02 1 (some .boolean)) ({ frames := 0, cells := 0, slots := 0, locals := 0 } : Room) (PcG G M0 [.ref (gA G (100 + i))]) (QcZ G M0 r) 0 0 (PA G) := by
  refine Met.ofW (cc := cJ0_isEmpty_aae02) (maxL := 1) (ret := (some .boolean)) (by decide) rfl ?_
  intro p e s m args below meth c s₁ B hml hv0
  obtain ⟨hav, hW⟩ := hv0
  have hx := B.exec
  have hb := B.bytes
  have hr := B.returns
  have hts := atoms_spec (ws := (wb yJ0_isEmpty_aae02 cJ0_isEmpty_aae02 1 (some .boolean))) B.pre
  have hown : s.vm.findClass RJ0 = some m.cls := findClass_of_methodNamed B.named
  have hlocks := B.notSynchronized
  have hW : Wd G M0 s s.heap := hW
  have hS : va_S (PA G) s.heap s.heap [] := va_S.rf
  have hl := lv_entry [.ref (gA G (100 + i))] (n := 1) (Nat.le_of_ble_eq_true rfl)
  have hent := lg_entry_eq m [.ref (gA G (100 + i))] 1
  rw [← hav] at hent
  rw [hent]
  clear hent
  generalize (lg_sl [.ref (gA G (100 + i))] ++ List.replicate (1 - (lg_sl [.ref (gA G (100 + i))]).length) Slot.unset).toArray = ls at hl ⊢
  have hl : lv_has ls 1 [(0, .ref (gA G (100 + i)))] := hl
  show W p l e ({ frames := 0, cells := 0, slots := 0, locals := 0 } : Room) s m args below meth c s.heap [] 0 0 (MQ below (QcZ G M0 r) args s 0 0 (PA G)) (F0 m 0 ls [])
  unfold fS_isEmpty at hf
  refine lv_aload_n hx hb dJ0_isEmpty_aae02_0 rfl (lv_at hl 0 rfl) ?_
  refine k_getO hx hb (rv_B hi hW).2.2.1 hown (hts _ (List.mem_cons_of_mem _ (inB_14 _ (List.mem_of_getElem? (i := 19) rfl)))) dJ0_isEmpty_aae02_1 ?_
  refine k_tlen (v := (lenS i : Nat)) hx hb (rv_B hi hW).2.2.2 rfl dJ0_isEmpty_aae02_4 ?_
  refine k_if_ne (tgt := 12) hx hb (inR_lenS hi) dJ0_isEmpty_aae02_5 (by decide) (fun h => ?_) (fun h => ?_)
  · rw [if_neg h] at hf
    refine k_const hx hb dJ0_isEmpty_aae02_12 ?_
    subst hf
    exact k_retz hx hb hr hlocks hW hS rfl (by decide) dJ0_isEmpty_aae02_13
  · rw [if_pos h] at hf
    refine k_const hx hb dJ0_isEmpty_aae02_8 ?_
    refine lv_goto (tgt := 13) hx hb dJ0_isEmpty_aae02_9 (by decide) ?_
    subst hf
    exact k_retz hx hb hr hlocks hW hS rfl (by decide) dJ0_isEmpty_aae02_13
set_option maxHeartbeats 4000000 in
set_option maxRecDepth 100000 in
theorem mJ3_checkN (l : Launch) (G : gG) (M0 : MemG) (x n : Int) (hxr : inR x) (hnr : inR n) (h0 : 0 ≤ x) (h1 : x < n) : Met l yJ3_checkIndex_8e157 (wb yJ3_checkIndex_8e157 cJ3_checkIndex_8e157 3 (some .int)) ({ frames := 0, cells := 0, slots := 0, locals := 0 } : Room) (PcG G M0 [.int (i3 x), .int (i3 n), .null]) (QcI G M0 x) 0 0 (PA G) := by
  refine Met.ofW (cc := cJ3_checkIndex_8e157) (maxL := 3) (ret := (some .int)) (by decide) rfl ?_
  intro p e s m args below meth c s₁ B hml hv0
  obtain ⟨hav, hW⟩ := hv0
  have hx := B.exec
  have hb := B.bytes
  have hr := B.returns
  have hts := atoms_spec (ws := (wb yJ3_checkIndex_8e157 cJ3_checkIndex_8e157 3 (some .int))) B.pre
  have hown : s.vm.findClass RJ3 = some m.cls := findClass_of_methodNamed B.named
  have hlocks := B.notSynchronized
  have hW : Wd G M0 s s.heap := hW
  have hS : va_S (PA G) s.heap s.heap [] := va_S.rf
  have hl := lv_entry [.int (i3 x), .int (i3 n), .null] (n := 3) (Nat.le_of_ble_eq_true rfl)
  have hent := lg_entry_eq m [.int (i3 x), .int (i3 n), .null] 3
  rw [← hav] at hent
  rw [hent]
  clear hent
  generalize (lg_sl [.int (i3 x), .int (i3 n), .null] ++ List.replicate (3 - (lg_sl [.int (i3 x), .int (i3 n), .null]).length) Slot.unset).toArray = ls at hl ⊢
  have hl : lv_has ls 3 [(0, .int (i3 x)), (1, .int (i3 n)), (2, .null)] := hl
  show W p l e ({ frames := 0, cells := 0, slots := 0, locals := 0 } : Room) s m args below meth c s.heap [] 0 0 (MQ below (QcI G M0 x) args s 0 0 (PA G)) (F0 m 0 ls [])
  refine lv_iload_n hx hb dJ3_checkIndex_8e157_0 rfl (lv_at hl 0 rfl) ?_
  refine k_if_lt (tgt := 9) hx hb hxr dJ3_checkIndex_8e157_1 (by decide) (fun h => absurd h (by omega)) (fun _ => ?_)
  refine lv_iload_n hx hb dJ3_checkIndex_8e157_4 rfl (lv_at hl 0 rfl) ?_
  refine lv_iload_n hx hb dJ3_checkIndex_8e157_5 rfl (lv_at hl 1 rfl) ?_
  refine k_icmp_lt (tgt := 16) hx hb hxr hnr dJ3_checkIndex_8e157_6 (by decide) (fun _ => ?_) (fun h => absurd h1 h)
  refine lv_iload_n hx hb dJ3_checkIndex_8e157_16 rfl (lv_at hl 0 rfl) ?_
  exact k_ret hx hb hr hlocks hW hS rfl hxr dJ3_checkIndex_8e157_17
set_option maxHeartbeats 4000000 in
set_option maxRecDepth 100000 in
theorem mJ3_checkR (l : Launch) (G : gG) (M0 : MemG) (x n : Int) (hxr : inR x) (hnr : inR n) (h0 : 0 ≤ x) (h1 : x < n) (t : Nat) : Met l yJ3_checkIndex_8e157 (wb yJ3_checkIndex_8e157 cJ3_checkIndex_8e157 3 (some .int)) ({ frames := 0, cells := 0, slots := 0, locals := 0 } : Room) (PcG G M0 [.int (i3 x), .int (i3 n), .ref t]) (QcI G M0 x) 0 0 (PA G) := by
  refine Met.ofW (cc := cJ3_checkIndex_8e157) (maxL := 3) (ret := (some .int)) (by decide) rfl ?_
  intro p e s m args below meth c s₁ B hml hv0
  obtain ⟨hav, hW⟩ := hv0
  have hx := B.exec
  have hb := B.bytes
  have hr := B.returns
  have hts := atoms_spec (ws := (wb yJ3_checkIndex_8e157 cJ3_checkIndex_8e157 3 (some .int))) B.pre
  have hown : s.vm.findClass RJ3 = some m.cls := findClass_of_methodNamed B.named
  have hlocks := B.notSynchronized
  have hW : Wd G M0 s s.heap := hW
  have hS : va_S (PA G) s.heap s.heap [] := va_S.rf
  have hl := lv_entry [.int (i3 x), .int (i3 n), .ref t] (n := 3) (Nat.le_of_ble_eq_true rfl)
  have hent := lg_entry_eq m [.int (i3 x), .int (i3 n), .ref t] 3
  rw [← hav] at hent
  rw [hent]
  clear hent
  generalize (lg_sl [.int (i3 x), .int (i3 n), .ref t] ++ List.replicate (3 - (lg_sl [.int (i3 x), .int (i3 n), .ref t]).length) Slot.unset).toArray = ls at hl ⊢
  have hl : lv_has ls 3 [(0, .int (i3 x)), (1, .int (i3 n)), (2, .ref t)] := hl
  show W p l e ({ frames := 0, cells := 0, slots := 0, locals := 0 } : Room) s m args below meth c s.heap [] 0 0 (MQ below (QcI G M0 x) args s 0 0 (PA G)) (F0 m 0 ls [])
  refine lv_iload_n hx hb dJ3_checkIndex_8e157_0 rfl (lv_at hl 0 rfl) ?_
  refine k_if_lt (tgt := 9) hx hb hxr dJ3_checkIndex_8e157_1 (by decide) (fun h => absurd h (by omega)) (fun _ => ?_)
  refine lv_iload_n hx hb dJ3_checkIndex_8e157_4 rfl (lv_at hl 0 rfl) ?_
  refine lv_iload_n hx hb dJ3_checkIndex_8e157_5 rfl (lv_at hl 1 rfl) ?_
  refine k_icmp_lt (tgt := 16) hx hb hxr hnr dJ3_checkIndex_8e157_6 (by decide) (fun _ => ?_) (fun h => absurd h1 h)
  refine lv_iload_n hx hb dJ3_checkIndex_8e157_16 rfl (lv_at hl 0 rfl) ?_
  exact k_ret hx hb hr hlocks hW hS rfl hxr dJ3_checkIndex_8e157_17
set_option maxHeartbeats 4000000 in
set_option maxRecDepth 100000 in
theorem mS_checkIndex (l : Launch) (G : gG) (M0 : MemG) (x n : Int) (hxr : inR x) (hnr : inR n) (h0 : 0 ≤ x) (h1 : x < n) : Met l yJ0_checkIndex_df160 (wb yJ0_checkIndex_df160 cJ0_checkIndex_df160 2 none) ({ frames := 1, cells := 0, slots := 0, locals := 22 } : Room) (PcG G M0 [.int (i3 x), .int (i3 n)]) (QcV G M0) 0 0 (PA G) := by
  refine Met.ofW (cc := cJ0_checkIndex_df160) (maxL := 2) (ret := none) (by decide) rfl ?_
  intro p e s m args below meth c s₁ B hml hv0
  obtain ⟨hav, hW⟩ := hv0
  have hx := B.exec
  have hb := B.bytes
  have hr := B.returns
  have hts := atoms_spec (ws := (wb yJ0_checkIndex_df160 cJ0_checkIndex_df160 2 none)) B.pre
  have hown : s.vm.findClass RJ0 = some m.cls := findClass_of_methodNamed B.named
  have hlocks := B.notSynchronized
  have hW : Wd G M0 s s.heap := hW
  have hS : va_S (PA G) s.heap s.heap [] := va_S.rf
  have hl := lv_entry [.int (i3 x), .int (i3 n)] (n := 2) (Nat.le_of_ble_eq_true rfl)
  have hent := lg_entry_eq m [.int (i3 x), .int (i3 n)] 2
  rw [← hav] at hent
  rw [hent]
  clear hent
  generalize (lg_sl [.int (i3 x), .int (i3 n)] ++ List.replicate (2 - (lg_sl [.int (i3 x), .int (i3 n)]).length) Slot.unset).toArray = ls at hl ⊢
  have hl : lv_has ls 2 [(0, .int (i3 x)), (1, .int (i3 n))] := hl
  show W p l e ({ frames := 1, cells := 0, slots := 0, locals := 22 } : Room) s m args below meth c s.heap [] 0 0 (MQ below (QcV G M0) args s 0 0 (PA G)) (F0 m 0 ls [])
  refine lv_iload_n hx hb dJ0_checkIndex_df160_0 rfl (lv_at hl 0 rfl) ?_
  refine lv_iload_n hx hb dJ0_checkIndex_df160_1 rfl (lv_at hl 1 rfl) ?_
  rcases hW.S.2.2.2.2.2.2 with hZ | ⟨t, hZ⟩
  · refine k_gets hx hb hZ hown (hts _ (List.mem_cons_of_mem _ (inB_15 _ (List.mem_of_getElem? (i := 17) rfl)))) dJ0_checkIndex_df160_2 ?_
    refine k_cSi (As := [.int (i3 x), .int (i3 n), .null]) (rest := []) ⟨hx, hb, hml, hown, hts⟩ (mJ3_checkN l G M0 x n hxr hnr h0 h1) (va_cwS 3 hts (gbS (inB_15 _ (List.mem_of_getElem? (i := 18) rfl)) (inB_15 _ (List.mem_of_getElem? (i := 19) rfl)) (inB_15 _ (List.mem_of_getElem? (i := 20) rfl)) (inB_15 _ (List.mem_of_getElem? (i := 21) rfl))) rfl rfl rfl (by decide +kernel) ⟨Nat.le_of_ble_eq_true rfl, Nat.le_of_ble_eq_true rfl⟩) hW hS rfl hl.1 rfl (lv_room (Nat.le_of_ble_eq_true rfl)) dJ0_checkIndex_df160_5 ⟨Nat.zero_le _, Nat.zero_le _⟩ (fun hv H locs hW hS => ?_)
    refine lv_pop hx hb dJ0_checkIndex_df160_8 rfl ?_
    exact k_retv hx hb hr hlocks hW hS rfl dJ0_checkIndex_df160_9
  · refine k_gets hx hb hZ hown (hts _ (List.mem_cons_of_mem _ (inB_15 _ (List.mem_of_getElem? (i := 17) rfl)))) dJ0_checkIndex_df160_2 ?_
    refine k_cSi (As := [.int (i3 x), .int (i3 n), .ref t]) (rest := []) ⟨hx, hb, hml, hown, hts⟩ (mJ3_checkR l G M0 x n hxr hnr h0 h1 t) (va_cwS 3 hts (gbS (inB_15 _ (List.mem_of_getElem? (i := 18) rfl)) (inB_15 _ (List.mem_of_getElem? (i := 19) rfl)) (inB_15 _ (List.mem_of_getElem? (i := 20) rfl)) (inB_15 _ (List.mem_of_getElem? (i := 21) rfl))) rfl rfl rfl (by decide +kernel) ⟨Nat.le_of_ble_eq_true rfl, Nat.le_of_ble_eq_true rfl⟩) hW hS rfl hl.1 rfl (lv_room (Nat.le_of_ble_eq_true rfl)) dJ0_checkIndex_df160_5 ⟨Nat.zero_le _, Nat.zero_le _⟩ (fun hv H locs hW hS => ?_)
    refine lv_pop hx hb dJ0_checkIndex_df160_8 rfl ?_
    exact k_retv hx hb hr hlocks hW hS rfl dJ0_checkIndex_df160_9
set_option maxHeartbeats 4000000 in
set_option maxRecDepth 100000 in
theorem mS_charAtL (l : Launch) (G : gG) (M0 : MemG) (i : Nat) (hi : i < 26) (x : Int) (hxr : inR x) (h0 : 0 ≤ x) (h1 : x < (lenS i : Nat)) : Met l yJ1_charAt_3b067 (wb yJ1_charAt_3b067 cJ1_charAt_3b067 2 (some .char)) ({ frames := 2, cells := 0, slots := 0, locals := 43 } : Room) (PcG G M0 [.ref (gA G (200 + i)), .int (i3 x)]) (QcI G M0 (chS i x.toNat)) 0 0 (PA G) := by
  refine Met.ofW (cc := cJ1_charAt_3b067) (maxL := 2) (ret := (some .char)) (by decide) rfl ?_
  intro p e s m args below meth c s₁ B hml hv0
  obtain ⟨hav, hW⟩ := hv0
  have hx := B.exec
  have hb := B.bytes
  have hr := B.returns
  have hts := atoms_spec (ws := (wb yJ1_charAt_3b067 cJ1_charAt_3b067 2 (some .char))) B.pre
  have hown : s.vm.findClass RJ1 = some m.cls := findClass_of_methodNamed B.named
  have hlocks := B.notSynchronized
  have hW : Wd G M0 s s.heap := hW
  have hS : va_S (PA G) s.heap s.heap [] := va_S.rf
  have hl := lv_entry [.ref (gA G (200 + i)), .int (i3 x)] (n := 2) (Nat.le_of_ble_eq_true rfl)
  have hent := lg_entry_eq m [.ref (gA G (200 + i)), .int (i3 x)] 2
  rw [← hav] at hent
  rw [hent]
  clear hent
  generalize (lg_sl [.ref (gA G (200 + i)), .int (i3 x)] ++ List.replicate (2 - (lg_sl [.ref (gA G (200 + i)), .int (i3 x)]).length) Slot.unset).toArray = ls at hl ⊢
  have hl : lv_has ls 2 [(0, .ref (gA G (200 + i))), (1, .int (i3 x))] := hl
  show W p l e ({ frames := 2, cells := 0, slots := 0, locals := 43 } : Room) s m args below meth c s.heap [] 0 0 (MQ below (QcI G M0 (chS i x.toNat)) args s 0 0 (PA G)) (F0 m 0 ls [])
  refine lv_iload_n hx hb dJ1_charAt_3b067_0 rfl (lv_at hl 1 rfl) ?_
  refine lv_aload_n hx hb dJ1_charAt_3b067_1 rfl (lv_at hl 0 rfl) ?_
  refine k_tlen (v := (lenS i : Nat)) hx hb (rv_B hi hW).2.2.2 rfl dJ1_charAt_3b067_2 ?_
  refine k_cSv (As := [.int (i3 x), .int (i3 (lenS i : Nat))]) (rest := []) ⟨hx, hb, hml, hown, hts⟩ (mS_checkIndex l G M0 x (lenS i : Nat) hxr (inR_lenS hi) h0 h1) (va_cwS 2 hts (gbS (inB_15 _ (List.mem_of_getElem? (i := 14) rfl)) (inB_15 _ (List.mem_of_getElem? (i := 15) rfl)) (inB_14 _ (List.mem_of_getElem? (i := 17) rfl)) (inB_15 _ (List.mem_of_getElem? (i := 16) rfl))) rfl rfl rfl (by decide +kernel) ⟨Nat.le_of_ble_eq_true rfl, Nat.le_of_ble_eq_true rfl⟩) hW hS rfl hl.1 rfl (lv_room (Nat.le_of_ble_eq_true rfl)) dJ1_charAt_3b067_3 ⟨Nat.zero_le _, Nat.zero_le _⟩ (fun H locs hW hS => ?_)
  refine lv_aload_n hx hb dJ1_charAt_3b067_6 rfl (lv_at hl 0 rfl) ?_
  refine lv_iload_n hx hb dJ1_charAt_3b067_7 rfl (lv_at hl 1 rfl) ?_
  obtain ⟨e1, e2, e3, e4, e5⟩ := tx_ch i hi x.toNat (by omega)
  refine k_tb (v := .int (i3 (chS i x.toNat))) hx hb (rv_B hi hW).2.2.2 (i3_in hxr h0 h1) (by rw [i3_clamp hxr]; exact e1) dJ1_charAt_3b067_8 ?_
  refine k_sipush hx hb dJ1_charAt_3b067_9 (by decide +kernel) ?_
  refine k_and hx hb dJ1_charAt_3b067_12 ?_
  rw [e2]
  refine lv_i2c hx hb dJ1_charAt_3b067_13 e3 ?_
  exact k_rett hx hb hr hlocks hW hS rfl e5 e4 dJ1_charAt_3b067_14
set_option maxHeartbeats 4000000 in
set_option maxRecDepth 100000 in
theorem mS_charAt_b (l : Launch) (G : gG) (M0 : MemG) (i : Nat) (hi : i < 26) (x : Int) (hxr : inR x) (h0 : 0 ≤ x) (h1 : x < (lenS i : Nat)) : Met l yJ0_charAt_5068e (wb yJ0_charAt_5068e cJ0_charAt_5068e 2 (some .char)) ({ frames := 3, cells := 0, slots := 0, locals := 64 } : Room) (PcG G M0 [.ref (gA G (100 + i)), .int (i3 x)]) (QcI G M0 (chS i x.toNat)) 0 0 (PA G) := by
  refine Met.ofW (cc := cJ0_charAt_5068e) (maxL := 2) (ret := (some .char)) (by decide) rfl ?_
  intro p e s m args below meth c s₁ B hml hv0
  obtain ⟨hav, hW⟩ := hv0
  have hx := B.exec
  have hb := B.bytes
  have hr := B.returns
  have hts := atoms_spec (ws := (wb yJ0_charAt_5068e cJ0_charAt_5068e 2 (some .char))) B.pre
  have hown : s.vm.findClass RJ0 = some m.cls := findClass_of_methodNamed B.named
  have hlocks := B.notSynchronized
  have hW : Wd G M0 s s.heap := hW
  have hS : va_S (PA G) s.heap s.heap [] := va_S.rf
  have hl := lv_entry [.ref (gA G (100 + i)), .int (i3 x)] (n := 2) (Nat.le_of_ble_eq_true rfl)
  have hent := lg_entry_eq m [.ref (gA G (100 + i)), .int (i3 x)] 2
  rw [← hav] at hent
  rw [hent]
  clear hent
  generalize (lg_sl [.ref (gA G (100 + i)), .int (i3 x)] ++ List.replicate (2 - (lg_sl [.ref (gA G (100 + i)), .int (i3 x)]).length) Slot.unset).toArray = ls at hl ⊢
  have hl : lv_has ls 2 [(0, .ref (gA G (100 + i))), (1, .int (i3 x))] := hl
  show W p l e ({ frames := 3, cells := 0, slots := 0, locals := 64 } : Room) s m args below meth c s.heap [] 0 0 (MQ below (QcI G M0 (chS i x.toNat)) args s 0 0 (PA G)) (F0 m 0 ls [])
  obtain ⟨e1, e2, e3, e4, e5⟩ := tx_ch i hi x.toNat (by omega)
  refine lv_aload_n hx hb dJ0_charAt_5068e_0 rfl (lv_at hl 0 rfl) ?_
  refine k_cVz (As := []) (rest := []) ⟨hx, hb, hml, hown, hts⟩ (mS_isLatin1 l G M0 i hi) (cwV 0 hts (gbV (inB_15 _ (List.mem_of_getElem? (i := 6) rfl)) (inB_15 _ (List.mem_of_getElem? (i := 7) rfl)) (inB_15 _ (List.mem_of_getElem? (i := 8) rfl)) (inB_14 _ (List.mem_of_getElem? (i := 17) rfl)) (inB_15 _ (List.mem_of_getElem? (i := 9) rfl))) rfl rfl rfl (by decide +kernel) ⟨Nat.le_of_ble_eq_true rfl, Nat.le_of_ble_eq_true rfl⟩) (rv_S hi hW) hW hS rfl hl.1 rfl (lv_room (Nat.le_of_ble_eq_true rfl)) dJ0_charAt_5068e_1 ⟨Nat.zero_le _, Nat.zero_le _⟩ (fun hv H locs hW hS => ?_)
  refine k_if_eq (tgt := 16) hx hb (by decide) dJ0_charAt_5068e_4 (by decide) (fun h => absurd h (by decide)) (fun _ => ?_)
  refine lv_aload_n hx hb dJ0_charAt_5068e_7 rfl (lv_at hl 0 rfl) ?_
  refine k_getO hx hb (rv_B hi hW).2.2.1 hown (hts _ (List.mem_cons_of_mem _ (inB_14 _ (List.mem_of_getElem? (i := 19) rfl)))) dJ0_charAt_5068e_8 ?_
  refine lv_iload_n hx hb dJ0_charAt_5068e_11 rfl (lv_at hl 1 rfl) ?_
  refine k_cSi (As := [.ref (gA G (200 + i)), .int (i3 x)]) (rest := []) ⟨hx, hb, hml, hown, hts⟩ (mS_charAtL l G M0 i hi x hxr h0 h1) (va_cwS 2 hts (gbS (inB_15 _ (List.mem_of_getElem? (i := 10) rfl)) (inB_15 _ (List.mem_of_getElem? (i := 11) rfl)) (inB_15 _ (List.mem_of_getElem? (i := 12) rfl)) (inB_15 _ (List.mem_of_getElem? (i := 13) rfl))) rfl rfl rfl (by decide +kernel) ⟨Nat.le_of_ble_eq_true rfl, Nat.le_of_ble_eq_true rfl⟩) hW hS rfl hl.1 rfl (lv_room (Nat.le_of_ble_eq_true rfl)) dJ0_charAt_5068e_12 ⟨Nat.zero_le _, Nat.zero_le _⟩ (fun hv H locs hW hS => ?_)
  exact k_rett hx hb hr hlocks hW hS rfl e5 e4 dJ0_charAt_5068e_15
theorem mS_charAt (l : Launch) (G : gG) (M0 : MemG) (i : Nat) (hi : i < 26) (x : Int) (hxr : inR x) (r : Int) (hf : fS_charAt i x = some r) : Met l yJ0_charAt_5068e (wb yJ0_charAt_5068e cJ0_charAt_5068e 2 (some .char)) ({ frames := 3, cells := 0, slots := 0, locals := 64 } : Room) (PcG G M0 [.ref (gA G (100 + i)), .int (i3 x)]) (QcI G M0 r) 0 0 (PA G) := by
  unfold fS_charAt at hf
  obtain ⟨h, hf⟩ := gx_el hf
  obtain rfl := some_el hf
  exact mS_charAt_b l G M0 i hi x hxr h.1 h.2
end
section
/-! what each method does, over whole numbers: laid by wip/p35/gen.py out of the bytecode -/
def fI_bitCount_0f7a4 (x0 : Int) : Option (Int) := gd (x0 - (andI (ushrI x0 1) 1431655765)) (gd ((andI (x0 - (andI (ushrI x0 1) 1431655765)) 858993459) + (andI (ushrI (x0 - (andI (ushrI x0 1) 1431655765)) 2) 858993459)) (gd ((andI (((andI (x0 - (andI (ushrI x0 1) 1431655765)) 858993459) + (andI (ushrI (x0 - (andI (ushrI x0 1) 1431655765)) 2) 858993459)) + (ushrI ((andI (x0 - (andI (ushrI x0 1) 1431655765)) 858993459) + (andI (ushrI (x0 - (andI (ushrI x0 1) 1431655765)) 2) 858993459)) 4)) 252645135) + (ushrI (andI (((andI (x0 - (andI (ushrI x0 1) 1431655765)) 858993459) + (andI (ushrI (x0 - (andI (ushrI x0 1) 1431655765)) 2) 858993459)) + (ushrI ((andI (x0 - (andI (ushrI x0 1) 1431655765)) 858993459) + (andI (ushrI (x0 - (andI (ushrI x0 1) 1431655765)) 2) 858993459)) 4)) 252645135) 8)) (gd (((andI (((andI (x0 - (andI (ushrI x0 1) 1431655765)) 858993459) + (andI (ushrI (x0 - (andI (ushrI x0 1) 1431655765)) 2) 858993459)) + (ushrI ((andI (x0 - (andI (ushrI x0 1) 1431655765)) 858993459) + (andI (ushrI (x0 - (andI (ushrI x0 1) 1431655765)) 2) 858993459)) 4)) 252645135) + (ushrI (andI (((andI (x0 - (andI (ushrI x0 1) 1431655765)) 858993459) + (andI (ushrI (x0 - (andI (ushrI x0 1) 1431655765)) 2) 858993459)) + (ushrI ((andI (x0 - (andI (ushrI x0 1) 1431655765)) 858993459) + (andI (ushrI (x0 - (andI (ushrI x0 1) 1431655765)) 2) 858993459)) 4)) 252645135) 8)) + (ushrI ((andI (((andI (x0 - (andI (ushrI x0 1) 1431655765)) 858993459) + (andI (ushrI (x0 - (andI (ushrI x0 1) 1431655765)) 2) 858993459)) + (ushrI ((andI (x0 - (andI (ushrI x0 1) 1431655765)) 858993459) + (andI (ushrI (x0 - (andI (ushrI x0 1) 1431655765)) 2) 858993459)) 4)) 252645135) + (ushrI (andI (((andI (x0 - (andI (ushrI x0 1) 1431655765)) 858993459) + (andI (ushrI (x0 - (andI (ushrI x0 1) 1431655765)) 2) 858993459)) + (ushrI ((andI (x0 - (andI (ushrI x0 1) 1431655765)) 858993459) + (andI (ushrI (x0 - (andI (ushrI x0 1) 1431655765)) 2) 858993459)) 4)) 252645135) 8)) 16)) (some (andI (((andI (((andI (x0 - (andI (ushrI x0 1) 1431655765)) 858993459) + (andI (ushrI (x0 - (andI (ushrI x0 1) 1431655765)) 2) 858993459)) + (ushrI ((andI (x0 - (andI (ushrI x0 1) 1431655765)) 858993459) + (andI (ushrI (x0 - (andI (ushrI x0 1) 1431655765)) 2) 858993459)) 4)) 252645135) + (ushrI (andI (((andI (x0 - (andI (ushrI x0 1) 1431655765)) 858993459) + (andI (ushrI (x0 - (andI (ushrI x0 1) 1431655765)) 2) 858993459)) + (ushrI ((andI (x0 - (andI (ushrI x0 1) 1431655765)) 858993459) + (andI (ushrI (x0 - (andI (ushrI x0 1) 1431655765)) 2) 858993459)) 4)) 252645135) 8)) + (ushrI ((andI (((andI (x0 - (andI (ushrI x0 1) 1431655765)) 858993459) + (andI (ushrI (x0 - (andI (ushrI x0 1) 1431655765)) 2) 858993459)) + (ushrI ((andI (x0 - (andI (ushrI x0 1) 1431655765)) 858993459) + (andI (ushrI (x0 - (andI (ushrI x0 1) 1431655765)) 2) 858993459)) 4)) 252645135) + (ushrI (andI (((andI (x0 - (andI (ushrI x0 1) 1431655765)) 858993459) + (andI (ushrI (x0 - (andI (ushrI x0 1) 1431655765)) 2) 858993459)) + (ushrI ((andI (x0 - (andI (ushrI x0 1) 1431655765)) 858993459) + (andI (ushrI (x0 - (andI (ushrI x0 1) 1431655765)) 2) 858993459)) 4)) 252645135) 8)) 16)) 63)))))
def fG_put (M0 : MemG) (a : Nat) (x1 : Int) (x2 : Int) : Option (MemG) := if x1 < 0 then some (M0) else if x1 < (lenA (a) : Nat) then (some (up M0 (a) (x1).toNat (x2))).bind fun m3 => some (m3) else some (M0)
def fT_addCode (M0 : MemG) (x1 : Int) : Option (MemG × Int) := if M0 2 1 < 60 then (fG_put M0 (82) (M0 2 1) x1).bind fun m2 => gd ((m2 2 1) + 1) ((some (up m2 2 1 ((m2 2 1) + 1))).bind fun m5 => some ((m5, m5 2 1))) else some ((M0, (-13)))
def fG_isWithin (x0 : Int) (x1 : Int) (x2 : Int) : Int := if x0 < x1 then 0 else if x2 < x0 then 0 else 1
def fG_append (M0 : MemG) (x1 : Int) : Option (MemG × Int) := if (fG_isWithin x1 32 126) = 0 then some ((M0, (-12))) else (fT_addCode M0 x1).bind fun q3 => some ((q3.1, q3.2))
def fL_write_l2 (i : Nat) (z : (Int × MemG)) : Option ((Int × MemG) ⊕ (MemG)) := if z.1 < (fS_length (i)) then (fS_charAt (i) z.1).bind fun q3 => (fG_append z.2 q3).bind fun q5 => gd (z.1 + 1) (some (Sum.inl (z.1 + 1, q5.1))) else some (Sum.inr ((z.2)))
def fL_write (M0 : MemG) (i : Nat) : Option (MemG) := (loopN (fL_write_l2 (i)) 200 (0, M0)).bind fun q9 => some (q9)
def fG_copyRow_l2 (a : Nat) (b : Nat) (z : (Int × MemG)) : Option ((Int × MemG) ⊕ (MemG)) := if z.1 < (lenA (a) : Nat) then if z.1 < (lenA (b) : Nat) then gx (z.1) (lenA (a) : Nat) ((some (up z.2 (b) (z.1).toNat (z.2 (a) (z.1).toNat))).bind fun m4 => gd (z.1 + 1) (some (Sum.inl (z.1 + 1, m4)))) else some (Sum.inr (z.2)) else some (Sum.inr (z.2))
def fG_copyRow (M0 : MemG) (a : Nat) (b : Nat) : Option (MemG) := loopN (fG_copyRow_l2 (a) (b)) 200 (0, M0)
def fW_copyFrom (M0 : MemG) (k : Nat) (k2 : Nat) : Option (MemG) := (fG_copyRow M0 (16 + 6 * k2) (16 + 6 * k)).bind fun m1 => (fG_copyRow m1 (16 + 6 * k2 + 1) (16 + 6 * k + 1)).bind fun m3 => (fG_copyRow m3 (16 + 6 * k2 + 2) (16 + 6 * k + 2)).bind fun m5 => (fG_copyRow m5 (16 + 6 * k2 + 3) (16 + 6 * k + 3)).bind fun m7 => (fG_copyRow m7 (16 + 6 * k2 + 4) (16 + 6 * k + 4)).bind fun m9 => (fG_copyRow m9 (16 + 6 * k2 + 5) (16 + 6 * k + 5)).bind fun m11 => some (m11)
def fG_at (M0 : MemG) (a : Nat) (x1 : Int) : Int := if x1 < 0 then 0 else if x1 < (lenA (a) : Nat) then M0 (a) (x1).toNat else 0
def fG_atS (a : Nat) (x1 : Int) : Int := if x1 < 0 then 0 else if x1 < 4 then tabS a (x1).toNat else 0
def fW_count (M0 : MemG) (k : Nat) (x1 : Int) (x2 : Int) : Option (MemG) := gd (((fG_at M0 (16 + 6 * k + 5) x1)) + x2) ((fG_put M0 (16 + 6 * k + 5) x1 (((fG_at M0 (16 + 6 * k + 5) x1)) + x2)).bind fun m3 => some (m3))
def fW_counted (M0 : MemG) (k : Nat) (x1 : Int) : Int := (fG_at M0 (16 + 6 * k + 5) x1)
def fW_isCracked (M0 : MemG) (k : Nat) (x1 : Int) : Int := if (fG_at M0 (16 + 6 * k + 4) x1) = 1 then 1 else 0
def fW_makeSound (M0 : MemG) (k : Nat) (x1 : Int) : Option (MemG) := (fG_put M0 (16 + 6 * k + 4) x1 0).bind fun m1 => some (m1)
def fW_sumOf (M0 : MemG) (k : Nat) (x1 : Int) : Int := (fG_at M0 (16 + 6 * k + 3) x1)
def fG_isRung (x0 : Int) : Int := (fG_isWithin x0 1 32)
def fG_sizeOf (x0 : Int) : Int := andI x0 (-x0)
def fG_loadOf (x0 : Int) : Option (Int) := gd (100 * ((fG_sizeOf x0))) (some (100 * ((fG_sizeOf x0))))
def fG_refuse (M0 : MemG) (x1 : Int) (x2 : Int) : Option (MemG × Int) := (some (up M0 0 7 (x1))).bind fun m1 => (some (up m1 0 8 (x2))).bind fun m2 => some ((m2, (-14)))
def fG_mend (M0 : MemG) (x1 : Int) : Option (MemG × Int) := if (fG_isRung x1) = 0 then some ((M0, (-11))) else if (fW_isCracked M0 0 x1) = 0 then (fG_refuse M0 6 x1).bind fun q31 => some ((q31.1, q31.2)) else (fG_loadOf x1).bind fun q6 => if q6 < (fW_sumOf M0 0 x1) then (fG_loadOf x1).bind fun q26 => gd (((fW_sumOf M0 0 x1)) - q26) ((fG_refuse M0 7 (((fW_sumOf M0 0 x1)) - q26)).bind fun q29 => some ((q29.1, q29.2))) else gd (((fG_sizeOf x1)) + 1) (if (fW_counted M0 0 1) < ((fG_sizeOf x1)) + 1 then gd ((((fG_sizeOf x1)) + 1) - ((fW_counted M0 0 1))) ((fG_refuse M0 5 ((((fG_sizeOf x1)) + 1) - ((fW_counted M0 0 1)))).bind fun q23 => some ((q23.1, q23.2))) else (fW_makeSound M0 0 x1).bind fun m13 => gd (-(((fG_sizeOf x1)) + 1)) ((fW_count m13 0 1 (-(((fG_sizeOf x1)) + 1))).bind fun m16 => (fW_count m16 0 15 (((fG_sizeOf x1)) + 1)).bind fun m18 => some ((m18, (fW_counted m18 0 1)))))
def fP_keep_j44 (M : MemG) (k : Nat) : Option (MemG) := gd ((M 1 1) + 1) (gq ((M 1 1) + 1) (8) ((some (up M 1 1 (((M 1 1) + 1) % 8))).bind fun m5 => gd ((m5 1 2) + 1) ((some (up m5 1 2 (min ((m5 1 2) + 1) 8))).bind fun m7 => some (m7))))
def fP_keep (M0 : MemG) (k : Nat) : Option (MemG) := if M0 1 1 < 0 then fP_keep_j44 (M0) (k) else if M0 1 1 < 8 then (fW_copyFrom M0 ((3 + (M0 1 1).toNat)) (k)).bind fun m9 => fP_keep_j44 (m9) (k) else fP_keep_j44 (M0) (k)
def fG_remember (M0 : MemG) (x1 : Int) : Option (MemG × Int) := if x1 < 0 then some ((M0, x1)) else (fP_keep M0 1).bind fun m2 => some ((m2, x1))
def fG_fix (M0 : MemG) (x1 : Int) : Option (MemG × Int) := (fW_copyFrom M0 1 0).bind fun m1 => (fG_mend m1 x1).bind fun q3 => (fG_remember q3.1 q3.2).bind fun q5 => some ((q5.1, q5.2))
def fW_ageIn (M0 : MemG) (k : Nat) (x1 : Int) : Int := (fG_at M0 (16 + 6 * k + 2) x1)
def fW_changeSacks_l25 (k : Nat) (x2 : Int) (z : (Int × Int × MemG)) : Option ((Int × Int × MemG) ⊕ (MemG)) := if z.2.1 < 32 then if 32 < z.1 then some (Sum.inr (z.2.2)) else gd (((fG_at z.2.2 (16 + 6 * k + 3) z.1)) + x2) ((fG_put z.2.2 (16 + 6 * k + 3) z.1 (((fG_at z.2.2 (16 + 6 * k + 3) z.1)) + x2)).bind fun m10 => gd (z.1 + ((fG_sizeOf z.1))) (gd (z.2.1 + 1) (some (Sum.inl (z.1 + ((fG_sizeOf z.1)), z.2.1 + 1, m10))))) else some (Sum.inr (z.2.2))
def fW_changeSacks (M0 : MemG) (k : Nat) (x1 : Int) (x2 : Int) : Option (MemG) := gd (((fG_at M0 (16 + 6 * k + 1) x1)) + x2) ((fG_put M0 (16 + 6 * k + 1) x1 (((fG_at M0 (16 + 6 * k + 1) x1)) + x2)).bind fun m3 => gd (x1 + 1) (loopN (fW_changeSacks_l25 (k) (x2)) 200 (x1 + 1, 0, m3)))
def fW_crackOver_j54 (M : MemG) (k : Nat) (x2 : Int) (x3 : Int) (x4 : Int) : Option ((Int × Int × Int × MemG) ⊕ (Int × MemG)) := gd (x3 + ((fG_sizeOf x3))) (gd (x4 + 1) (some (Sum.inl (x2, x3 + ((fG_sizeOf x3)), x4 + 1, M))))
def fW_crackOver_l9 (k : Nat) (z : (Int × Int × Int × MemG)) : Option ((Int × Int × Int × MemG) ⊕ (Int × MemG)) := if z.2.2.1 < 32 then if 32 < z.2.1 then some (Sum.inr ((z.1, z.2.2.2))) else if (fW_isCracked z.2.2.2 (k) z.2.1) = 0 then (fG_loadOf z.2.1).bind fun q11 => if q11 < (fW_sumOf z.2.2.2 (k) z.2.1) then (fG_put z.2.2.2 (16 + 6 * k + 4) z.2.1 1).bind fun m14 => gd (z.1 + 1) (fW_crackOver_j54 (m14) (k) (z.1 + 1) (z.2.1) (z.2.2.1)) else fW_crackOver_j54 (z.2.2.2) (k) (z.1) (z.2.1) (z.2.2.1) else fW_crackOver_j54 (z.2.2.2) (k) (z.1) (z.2.1) (z.2.2.1) else some (Sum.inr ((z.1, z.2.2.2)))
def fW_crackOver (M0 : MemG) (k : Nat) (x1 : Int) : Option (MemG × Int) := gd (x1 + 1) ((loopN (fW_crackOver_l9 (k)) 200 (0, x1 + 1, 0, M0)).bind fun q18 => (fW_count q18.2 (k) 14 q18.1).bind fun m20 => some ((m20, q18.1)))
def fW_bring (M0 : MemG) (k : Nat) (x1 : Int) (x2 : Int) (x3 : Int) (x4 : Int) : Option (MemG × Int) := (fG_put M0 (16 + 6 * k) x1 x2).bind fun m1 => (fG_put m1 (16 + 6 * k + 2) x1 x4).bind fun m3 => (fW_changeSacks m3 (k) x1 x3).bind fun m5 => (fW_crackOver m5 (k) x1).bind fun q7 => some ((q7.1, q7.2))
def fW_kindIn (M0 : MemG) (k : Nat) (x1 : Int) : Int := (fG_at M0 (16 + 6 * k) x1)
def fW_isEmpty (M0 : MemG) (k : Nat) (x1 : Int) : Int := if (fG_at M0 (16 + 6 * k + 1) x1) = 0 then 1 else 0
def fW_remove (M0 : MemG) (k : Nat) (x1 : Int) (x2 : Int) : Option (MemG) := gd (-x2) ((fW_changeSacks M0 (k) x1 (-x2)).bind fun m2 => if (fW_isEmpty m2 (k) x1) = 0 then some (m2) else (fG_put m2 (16 + 6 * k) x1 0).bind fun m6 => (fG_put m6 (16 + 6 * k + 2) x1 0).bind fun m8 => some (m8))
def fW_sacksIn (M0 : MemG) (k : Nat) (x1 : Int) : Int := (fG_at M0 (16 + 6 * k + 1) x1)
def fG_hasRoom (M0 : MemG) (x1 : Int) (x2 : Int) (x3 : Int) : Option (Int) := if (fW_isEmpty M0 0 x1) = 0 then if (fW_kindIn M0 0 x1) = x2 then gd (((fW_sacksIn M0 0 x1)) + x3) (if 200 < ((fW_sacksIn M0 0 x1)) + x3 then some (0) else some (1)) else some (0) else some (1)
def fG_hasSacks (M0 : MemG) (x1 : Int) (x2 : Int) : Int := if (fW_sacksIn M0 0 x1) < x2 then 0 else 1
def fG_isBay (x0 : Int) : Int := (fG_isWithin x0 0 31)
def fG_refuseRoom (M0 : MemG) (x1 : Int) (x2 : Int) (x3 : Int) : Option (MemG × Int) := if (fW_kindIn M0 0 x1) = x2 then gd ((((fW_sacksIn M0 0 x1)) + x3) - 200) ((fG_refuse M0 2 ((((fW_sacksIn M0 0 x1)) + x3) - 200)).bind fun q5 => some ((q5.1, q5.2))) else (fG_refuse M0 1 ((fW_kindIn M0 0 x1))).bind fun q8 => some ((q8.1, q8.2))
def fG_refuseSacks (M0 : MemG) (x1 : Int) : Option (MemG × Int) := if (fW_isEmpty M0 0 x1) = 0 then (fG_refuse M0 3 ((fW_sacksIn M0 0 x1))).bind fun q4 => some ((q4.1, q4.2)) else (fG_refuse M0 8 x1).bind fun q6 => some ((q6.1, q6.2))
def fG_moveSacks (M0 : MemG) (x1 : Int) (x2 : Int) (x3 : Int) : Option (MemG × Int) := if (fG_isBay x1) = 0 then some ((M0, (-11))) else if (fG_isBay x2) = 0 then some ((M0, (-11))) else if (fG_isWithin x3 1 200) = 0 then some ((M0, (-12))) else if x1 = x2 then (fG_refuse M0 4 x1).bind fun q26 => some ((q26.1, q26.2)) else if (fG_hasSacks M0 x1 x3) = 0 then (fG_refuseSacks M0 x1).bind fun q24 => some ((q24.1, q24.2)) else (fG_hasRoom M0 x2 ((fW_kindIn M0 0 x1)) x3).bind fun q11 => if q11 = 0 then (fG_refuseRoom M0 x2 ((fW_kindIn M0 0 x1)) x3).bind fun q22 => some ((q22.1, q22.2)) else (fW_remove M0 0 x1 x3).bind fun m16 => (fW_count m16 0 12 x3).bind fun m18 => (fW_bring m18 0 x2 ((fW_kindIn M0 0 x1)) x3 (max ((fW_ageIn M0 0 x1)) ((fW_ageIn M0 0 x2)))).bind fun q20 => some ((q20.1, q20.2))
def fG_move (M0 : MemG) (x1 : Int) (x2 : Int) (x3 : Int) : Option (MemG × Int) := (fW_copyFrom M0 1 0).bind fun m1 => (fG_moveSacks m1 x1 x2 x3).bind fun q3 => (fG_remember q3.1 q3.2).bind fun q5 => some ((q5.1, q5.2))
def fW_oldestOfKind_j49 (M0 : MemG) (k : Nat) (x1 : Int) (x2 : Int) (x3 : Int) : Option ((Int × Int) ⊕ (Int)) := gd (x3 + 1) (some (Sum.inl (x2, x3 + 1)))
def fW_oldestOfKind_j47 (M0 : MemG) (k : Nat) (x1 : Int) (x3 : Int) : Option ((Int × Int) ⊕ (Int)) := fW_oldestOfKind_j49 (M0) (k) (x1) (x3) (x3)
def fW_oldestOfKind_l5 (M0 : MemG) (k : Nat) (x1 : Int) (z : (Int × Int)) : Option ((Int × Int) ⊕ (Int)) := if z.2 < 32 then if (fW_isEmpty M0 (k) z.2) = 0 then if (fW_kindIn M0 (k) z.2) = x1 then if z.1 = (-15) then fW_oldestOfKind_j47 (M0) (k) (x1) (z.2) else if (fW_ageIn M0 (k) z.1) < (fW_ageIn M0 (k) z.2) then fW_oldestOfKind_j47 (M0) (k) (x1) (z.2) else fW_oldestOfKind_j49 (M0) (k) (x1) (z.1) (z.2) else fW_oldestOfKind_j49 (M0) (k) (x1) (z.1) (z.2) else fW_oldestOfKind_j49 (M0) (k) (x1) (z.1) (z.2) else some (Sum.inr (z.1))
def fW_oldestOfKind (M0 : MemG) (k : Nat) (x1 : Int) : Option (Int) := loopN (fW_oldestOfKind_l5 (M0) (k) (x1)) 200 ((-15), 0)
def fW_sacksOfKind_j27 (M0 : MemG) (k : Nat) (x1 : Int) (x2 : Int) (x3 : Int) : Option ((Int × Int) ⊕ (Int)) := gd (x3 + 1) (some (Sum.inl (x2, x3 + 1)))
def fW_sacksOfKind_l4 (M0 : MemG) (k : Nat) (x1 : Int) (z : (Int × Int)) : Option ((Int × Int) ⊕ (Int)) := if z.2 < 32 then if (fW_kindIn M0 (k) z.2) = x1 then gd (z.1 + ((fW_sacksIn M0 (k) z.2))) (fW_sacksOfKind_j27 (M0) (k) (x1) (z.1 + ((fW_sacksIn M0 (k) z.2))) (z.2)) else fW_sacksOfKind_j27 (M0) (k) (x1) (z.1) (z.2) else some (Sum.inr (z.1))
def fW_sacksOfKind (M0 : MemG) (k : Nat) (x1 : Int) : Option (Int) := loopN (fW_sacksOfKind_l4 (M0) (k) (x1)) 200 (0, 0)
def fG_coinsFor (x0 : Int) (x1 : Int) : Option (Int) := if x0 = 0 then gq (x1) (10) (gd ((4 * x1) - (x1 / 10)) (some ((4 * x1) - (x1 / 10)))) else if x0 = 1 then gd (3 * x1) (some (3 * x1)) else if x0 = 2 then gd (2 * x1) (some (2 * x1)) else gq (x1) (20) (gd ((3 * x1) - (x1 / 20)) (some ((3 * x1) - (x1 / 20))))
def fG_isKind (x0 : Int) : Int := (fG_isWithin x0 0 3)
def fG_fillOrder_l48 (x1 : Int) (x2 : Int) (z : (Int × Int × MemG)) : Option ((Int × Int × MemG) ⊕ (MemG)) := if z.2.1 < 32 then if 0 < z.1 then (fW_oldestOfKind z.2.2 0 x1).bind fun q10 => (fW_remove z.2.2 0 q10 (min z.1 ((fW_sacksIn z.2.2 0 q10)))).bind fun m13 => gd (z.1 - (min z.1 ((fW_sacksIn z.2.2 0 q10)))) (gd (z.2.1 + 1) (some (Sum.inl (z.1 - (min z.1 ((fW_sacksIn z.2.2 0 q10))), z.2.1 + 1, m13)))) else some (Sum.inr ((z.2.2))) else some (Sum.inr ((z.2.2)))
def fG_fillOrder (M0 : MemG) (x1 : Int) (x2 : Int) : Option (MemG × Int) := if (fG_isKind x1) = 0 then some ((M0, (-12))) else if (fG_isWithin x2 1 999) = 0 then some ((M0, (-12))) else (fW_sacksOfKind M0 0 x1).bind fun q5 => if q5 < x2 then (fG_refuse M0 3 q5).bind fun q27 => some ((q27.1, q27.2)) else (loopN (fG_fillOrder_l48 (x1) (x2)) 200 (x2, 0, M0)).bind fun q18 => (fW_count q18 0 10 x2).bind fun m19 => (fG_coinsFor x1 x2).bind fun q21 => (fW_count m19 0 1 q21).bind fun m23 => (fG_coinsFor x1 x2).bind fun q25 => some ((m23, q25))
def fG_order (M0 : MemG) (x1 : Int) (x2 : Int) : Option (MemG × Int) := (fW_copyFrom M0 1 0).bind fun m1 => (fG_fillOrder m1 x1 x2).bind fun q3 => (fG_remember q3.1 q3.2).bind fun q5 => some ((q5.1, q5.2))
def fW_spoilingAt (M0 : MemG) (k : Nat) (x1 : Int) (x2 : Int) : Option (Int) := if (fG_atS 86 ((fW_kindIn M0 (k) x1))) < x2 then gd (((fW_sacksIn M0 (k) x1)) + 9) (gq (((fW_sacksIn M0 (k) x1)) + 9) (10) (some ((((fW_sacksIn M0 (k) x1)) + 9) / 10))) else some (0)
def fW_growOlder_j54 (M : MemG) (k : Nat) (x1 : Int) (x2 : Int) : Option ((Int × Int × MemG) ⊕ (MemG × Int)) := gd (x2 + 1) (some (Sum.inl (x1, x2 + 1, M)))
def fW_growOlder_l4 (k : Nat) (z : (Int × Int × MemG)) : Option ((Int × Int × MemG) ⊕ (MemG × Int)) := if z.2.1 < 32 then if (fW_isEmpty z.2.2 (k) z.2.1) = 0 then gd (((fW_ageIn z.2.2 (k) z.2.1)) + 1) ((fG_put z.2.2 (16 + 6 * k + 2) z.2.1 (((fW_ageIn z.2.2 (k) z.2.1)) + 1)).bind fun m8 => (fW_spoilingAt m8 (k) z.2.1 ((fW_ageIn m8 (k) z.2.1))).bind fun q11 => (fW_remove m8 (k) z.2.1 q11).bind fun m13 => gd (z.1 + q11) (fW_growOlder_j54 (m13) (k) (z.1 + q11) (z.2.1))) else fW_growOlder_j54 (z.2.2) (k) (z.1) (z.2.1) else some (Sum.inr ((z.2.2, z.1)))
def fW_growOlder (M0 : MemG) (k : Nat) : Option (MemG × Int) := loopN (fW_growOlder_l4 (k)) 200 (0, 0, M0)
def fG_letWeeksPass_l17 (x1 : Int) (z : (Int × Int × MemG)) : Option ((Int × Int × MemG) ⊕ (Int × MemG)) := if z.2.1 < x1 then (fW_growOlder z.2.2 0).bind fun q4 => gd (z.1 + q4.2) (gd (z.2.1 + 1) (some (Sum.inl (z.1 + q4.2, z.2.1 + 1, q4.1)))) else some (Sum.inr ((z.1, z.2.2)))
def fG_letWeeksPass (M0 : MemG) (x1 : Int) : Option (MemG × Int) := if (fG_isWithin x1 1 52) = 0 then some ((M0, (-12))) else (loopN (fG_letWeeksPass_l17 (x1)) 200 (0, 0, M0)).bind fun q9 => (fW_count q9.2 0 0 x1).bind fun m11 => (fW_count m11 0 11 q9.1).bind fun m13 => some ((m13, q9.1))
def fG_pass (M0 : MemG) (x1 : Int) : Option (MemG × Int) := (fW_copyFrom M0 1 0).bind fun m1 => (fG_letWeeksPass m1 x1).bind fun q3 => (fG_remember q3.1 q3.2).bind fun q5 => some ((q5.1, q5.2))
def fP_forget (M0 : MemG) : Option (MemG) := (some (up M0 1 2 (0))).bind fun m1 => some (m1)
def fW_sumByBays_j33 (M0 : MemG) (k : Nat) (x1 : Int) (x2 : Int) (x3 : Int) (x4 : Int) : Option ((Int × Int) ⊕ (Int)) := gd (x4 + 1) (some (Sum.inl (x3, x4 + 1)))
def fW_sumByBays_l5 (M0 : MemG) (k : Nat) (x1 : Int) (x2 : Int) (z : (Int × Int)) : Option ((Int × Int) ⊕ (Int)) := if z.2 < 32 then if z.2 < x1 then fW_sumByBays_j33 (M0) (k) (x1) (x2) (z.1) (z.2) else if x2 < z.2 then fW_sumByBays_j33 (M0) (k) (x1) (x2) (z.1) (z.2) else gd (z.1 + ((fW_sacksIn M0 (k) z.2))) (fW_sumByBays_j33 (M0) (k) (x1) (x2) (z.1 + ((fW_sacksIn M0 (k) z.2))) (z.2)) else some (Sum.inr (z.1))
def fW_sumByBays (M0 : MemG) (k : Nat) (x1 : Int) (x2 : Int) : Option (Int) := loopN (fW_sumByBays_l5 (M0) (k) (x1) (x2)) 200 (0, 0)
def fW_allSacks (M0 : MemG) (k : Nat) : Option (Int) := (fW_sumByBays M0 (k) 0 31).bind fun q1 => some (q1)
def fG_restore (M0 : MemG) : Option (MemG × Int) := if M0 0 3 = 0 then some ((M0, (-15))) else (fW_copyFrom M0 0 2).bind fun m2 => (fP_forget m2).bind fun m4 => (fW_allSacks m4 0).bind fun q6 => some ((m4, q6))
def fT_becomeEmpty (M0 : MemG) : Option (MemG) := (some (up M0 2 1 (0))).bind fun m1 => some (m1)
def fT_commandCount (M0 : MemG) : Int := M0 2 3
def fT_faultPosition (M0 : MemG) : Int := M0 2 5
def fT_nextCode (M0 : MemG) : Int := if M0 2 5 < M0 2 1 then (fG_at M0 (82) (M0 2 5)) else (-11)
def fT_readCode (M0 : MemG) (x1 : Int) : Option (MemG × Int) := if (fT_nextCode M0) = x1 then gd ((M0 2 5) + 1) ((some (up M0 2 5 ((M0 2 5) + 1))).bind fun m4 => some ((m4, 1))) else some ((M0, 0))
def fT_addCell (M0 : MemG) (x1 : Int) : Option (MemG) := (fG_put M0 (83) (M0 2 4) x1).bind fun m1 => gd ((m1 2 4) + 1) ((some (up m1 2 4 ((m1 2 4) + 1))).bind fun m4 => some (m4))
def fT_patternOf (x0 : Int) : Nat := if x0 = 0 then 0 else if x0 = 1 then 1 else if x0 = 2 then 2 else if x0 = 3 then 3 else if x0 = 4 then 4 else if x0 = 5 then 5 else 6
theorem fT_pat_lt (x : Int) : fT_patternOf x < 26 := by
  unfold fT_patternOf
  repeat' split
  all_goals decide
def fT_readKind_l2 (M : MemG) (z : (Int)) : Option ((Int) ⊕ ((Int) ⊕ (MemG × Int))) := if z < 4 then if (fT_nextCode M) = (fG_atS 87 z) then some (Sum.inr (Sum.inl ((z)))) else gd (z + 1) (some (Sum.inl (z + 1))) else some (Sum.inr (Sum.inr ((M, 0))))
def fT_readKind (M0 : MemG) : Option (MemG × Int) := (loopN (fT_readKind_l2 (M0)) 200 (0)).bind fun q7 => (match q7 with | .inl w8 => ((fT_addCell M0 w8).bind fun m11 => gd ((m11 2 5) + 1) ((some (up m11 2 5 ((m11 2 5) + 1))).bind fun m14 => some ((m14, 1)))) | .inr w9 => some w9)
def fT_readNumber_l4 (x1 : Int) (z : (Int × Int × MemG)) : Option ((Int × Int × MemG) ⊕ (Int × Int × MemG)) := if z.2.1 < x1 then if (fG_isWithin ((fT_nextCode z.2.2)) 48 57) = 0 then some (Sum.inr ((z.1, z.2.1, z.2.2))) else gd (((10 * z.1) + ((fT_nextCode z.2.2))) - 48) (gd (z.2.1 + 1) (gd ((z.2.2 2 5) + 1) ((some (up z.2.2 2 5 ((z.2.2 2 5) + 1))).bind fun m9 => some (Sum.inl (((10 * z.1) + ((fT_nextCode z.2.2))) - 48, z.2.1 + 1, m9))))) else some (Sum.inr ((z.1, z.2.1, z.2.2)))
def fT_readNumber (M0 : MemG) (x1 : Int) : Option (MemG × Int) := (loopN (fT_readNumber_l4 (x1)) 200 (0, 0, M0)).bind fun q11 => (fT_addCell q11.2.2 q11.1).bind fun m14 => if 0 < q11.2.1 then some ((m14, 1)) else some ((m14, 0))
def fT_readAlong_j77 (M : MemG) (i : Nat) (x2 : Int) (x3 : Int) : Option ((Int × Int × MemG) ⊕ (MemG × Int)) := gd (x3 + 1) (some (Sum.inl (x2, x3 + 1, M)))
def fT_readAlong_l4 (i : Nat) (z : (Int × Int × MemG)) : Option ((Int × Int × MemG) ⊕ (MemG × Int)) := if z.2.1 < (fS_length (i)) then if z.1 = 0 then gz (z.1) (some (Sum.inr ((z.2.2, z.1)))) else (fS_charAt (i) z.2.1).bind fun q6 => if q6 = 50 then (fT_readNumber z.2.2 2).bind fun q19 => fT_readAlong_j77 (q19.1) (i) (q19.2) (z.2.1) else if q6 = 51 then (fT_readNumber z.2.2 3).bind fun q17 => fT_readAlong_j77 (q17.1) (i) (q17.2) (z.2.1) else if q6 = 63 then (fT_readKind z.2.2).bind fun q15 => fT_readAlong_j77 (q15.1) (i) (q15.2) (z.2.1) else (fT_readCode z.2.2 q6).bind fun q11 => fT_readAlong_j77 (q11.1) (i) (q11.2) (z.2.1) else gz (z.1) (some (Sum.inr ((z.2.2, z.1))))
def fT_readAlong (M0 : MemG) (i : Nat) : Option (MemG × Int) := loopN (fT_readAlong_l4 (i)) 200 (1, 0, M0)
def fT_readCommand_j63 (M : MemG) (x1 : Int) : Option ((Int) ⊕ ((Int × Nat) ⊕ (MemG × Int))) := gd (x1 + 1) (some (Sum.inl (x1 + 1)))
def fT_readCommand_l2 (M : MemG) (z : (Int)) : Option ((Int) ⊕ ((Int × Nat) ⊕ (MemG × Int))) := if z < 6 then if (fS_isEmpty ((fT_patternOf z))) = 0 then (fS_charAt ((fT_patternOf z)) 0).bind fun q8 => if (fT_nextCode M) = q8 then some (Sum.inr (Sum.inl ((z, (fT_patternOf z))))) else fT_readCommand_j63 (M) (z) else fT_readCommand_j63 (M) (z) else some (Sum.inr (Sum.inr ((M, 0))))
def fT_readCommand (M0 : MemG) : Option (MemG × Int) := (loopN (fT_readCommand_l2 (M0)) 200 (0)).bind fun q12 => (match q12 with | .inl w13 => (gd ((M0 2 3) * 4) ((some (up M0 2 4 ((M0 2 3) * 4))).bind fun m18 => (fT_addCell m18 w13.1).bind fun m19 => gd ((m19 2 3) + 1) ((some (up m19 2 3 ((m19 2 3) + 1))).bind fun m22 => (fT_readAlong m22 (w13.2)).bind fun q23 => some ((q23.1, q23.2))))) | .inr w14 => some w14)
def fT_readCommands_l12  (z : (Int × MemG)) : Option ((Int × MemG) ⊕ (MemG × Int)) := if 10 < z.1 then some (Sum.inr ((z.2, 0))) else (fT_readCommand z.2).bind fun q4 => if q4.2 = 0 then some (Sum.inr ((q4.1, 0))) else if q4.1 2 5 = q4.1 2 1 then some (Sum.inr ((q4.1, 1))) else (fT_readCode q4.1 59).bind fun q8 => if q8.2 = 0 then some (Sum.inr ((q8.1, 0))) else gd (z.1 + 1) (some (Sum.inl (z.1 + 1, q8.1)))
def fT_readCommands (M0 : MemG) : Option (MemG × Int) := (some (up M0 2 5 (0))).bind fun m1 => (some (up m1 2 3 (0))).bind fun m2 => loopN (fT_readCommands_l12) 200 (0, m2)
def fT_argument (M0 : MemG) (x1 : Int) (x2 : Int) : Option (Int) := gd ((x1 * 4) + x2) (some ((fG_at M0 (83) ((x1 * 4) + x2))))
def fT_verb (M0 : MemG) (x1 : Int) : Option (Int) := gd (x1 * 4) (some ((fG_at M0 (83) (x1 * 4))))
def fG_storeSacks (M0 : MemG) (x1 : Int) (x2 : Int) (x3 : Int) : Option (MemG × Int) := if (fG_isBay x1) = 0 then some ((M0, (-11))) else if (fG_isKind x2) = 0 then some ((M0, (-12))) else if (fG_isWithin x3 1 200) = 0 then some ((M0, (-12))) else (fG_hasRoom M0 x1 x2 x3).bind fun q7 => if q7 = 0 then (fG_refuseRoom M0 x1 x2 x3).bind fun q15 => some ((q15.1, q15.2)) else (fW_count M0 0 8 x3).bind fun m10 => (fW_bring m10 0 x1 x2 x3 ((fW_ageIn m10 0 x1))).bind fun q13 => some ((q13.1, q13.2))
def fG_takeSacks (M0 : MemG) (x1 : Int) (x2 : Int) : Option (MemG × Int) := if (fG_isBay x1) = 0 then some ((M0, (-11))) else if (fG_isWithin x2 1 200) = 0 then some ((M0, (-12))) else if (fG_hasSacks M0 x1 x2) = 0 then (fG_refuseSacks M0 x1).bind fun q12 => some ((q12.1, q12.2)) else (fW_remove M0 0 x1 x2).bind fun m7 => (fW_count m7 0 9 x2).bind fun m9 => some ((m9, (fW_sacksIn m9 0 x1)))
def fG_carryOut (M0 : MemG) (x1 : Int) : Option (MemG × Int) := (fT_argument M0 x1 1).bind fun q1 => (fT_argument M0 x1 2).bind fun q3 => (fT_argument M0 x1 3).bind fun q5 => (fT_verb M0 x1).bind fun q7 => if q7 = 0 then (fG_storeSacks M0 q1 q3 q5).bind fun q10 => some ((q10.1, q10.2)) else if q7 = 1 then (fG_takeSacks M0 q1 q3).bind fun q13 => some ((q13.1, q13.2)) else if q7 = 2 then (fG_moveSacks M0 q1 q3 q5).bind fun q16 => some ((q16.1, q16.2)) else if q7 = 3 then (fG_fillOrder M0 q1 q3).bind fun q19 => some ((q19.1, q19.2)) else if q7 = 4 then (fG_mend M0 q1).bind fun q22 => some ((q22.1, q22.2)) else if q7 = 5 then (fG_letWeeksPass M0 q1).bind fun q25 => some ((q25.1, q25.2)) else some ((M0, (-12)))
def fG_run_l52 (x2 : Int) (z : (Int × MemG)) : Option ((Int × MemG) ⊕ ((MemG) ⊕ (Int × MemG))) := if z.1 < x2 then (fG_carryOut z.2 z.1).bind fun q10 => if q10.2 < 0 then some (Sum.inr (Sum.inr ((z.1, q10.1)))) else gd (z.1 + 1) (some (Sum.inl (z.1 + 1, q10.1))) else some (Sum.inr (Sum.inl ((z.2))))
def fG_run (M0 : MemG) : Option (MemG × Int) := (fT_readCommands M0).bind fun q1 => (fT_becomeEmpty q1.1).bind fun m3 => if q1.2 = 0 then gd (((-1000)) - ((fT_faultPosition m3))) (some ((m3, ((-1000)) - ((fT_faultPosition m3))))) else (fW_copyFrom m3 1 0).bind fun m6 => (loopN (fG_run_l52 ((fT_commandCount m6))) 200 (0, m6)).bind fun q15 => (match q15 with | .inl w16 => ((fG_remember w16 ((fT_commandCount m6))).bind fun q18 => some ((q18.1, q18.2))) | .inr w17 => ((fW_copyFrom w17.2 0 1).bind fun m21 => (fG_refuse m21 9 w17.1).bind fun q23 => some ((q23.1, q23.2))))
def fG_save (M0 : MemG) : Option (MemG × Int) := (fW_copyFrom M0 2 0).bind fun m1 => (some (up m1 0 3 (1))).bind fun m3 => (fW_allSacks m3 0).bind fun q4 => some ((m3, q4))
def fG_store (M0 : MemG) (x1 : Int) (x2 : Int) (x3 : Int) : Option (MemG × Int) := (fW_copyFrom M0 1 0).bind fun m1 => (fG_storeSacks m1 x1 x2 x3).bind fun q3 => (fG_remember q3.1 q3.2).bind fun q5 => some ((q5.1, q5.2))
def fG_take (M0 : MemG) (x1 : Int) (x2 : Int) : Option (MemG × Int) := (fW_copyFrom M0 1 0).bind fun m1 => (fG_takeSacks m1 x1 x2).bind fun q3 => (fG_remember q3.1 q3.2).bind fun q5 => some ((q5.1, q5.2))
def fP_giveBack (M0 : MemG) (k : Nat) : Option (MemG) := gd (((M0 1 1) + 8) - 1) (gq (((M0 1 1) + 8) - 1) (8) ((some (up M0 1 1 ((((M0 1 1) + 8) - 1) % 8))).bind fun m3 => gd ((m3 1 2) - 1) ((some (up m3 1 2 (max ((m3 1 2) - 1) 0))).bind fun m5 => if m5 1 1 < 0 then some (m5) else if m5 1 1 < 8 then (fW_copyFrom m5 (k) ((3 + (m5 1 1).toNat))).bind fun m8 => some (m8) else some (m5))))
def fP_size (M0 : MemG) : Int := M0 1 2
def fG_undo (M0 : MemG) : Option (MemG × Int) := if (fP_size M0) = 0 then some ((M0, (-15))) else (fP_giveBack M0 0).bind fun m3 => some ((m3, (fP_size m3)))
def fL_act_j138 (M : MemG) (t1 : Int) (t2 : Int) (t3 : Int) : Option (MemG × Int) := (fG_store M t1 t2 t3).bind fun q10 => some ((q10.1, q10.2))
def fL_act_j224 (M : MemG) (t1 : Int) : Option (MemG × Int) := (fG_pass M t1).bind fun q35 => some ((q35.1, q35.2))
def fL_act_j28 (M : MemG) (x1 : Int) (x2 : Int) (t0 : Int) : Option (MemG × Int) := if 0 ≤ andI x1 15 ∧ andI x1 15 ≤ 4 then gq (shrI x2 7) (5) (gq (shrI x2 5) (8) (if (shrI x2 5) % 8 = 0 then fL_act_j138 (M) (t0) ((shrI x2 7) % 5) (200) else gq (shrI x2 4) (202) (fL_act_j138 (M) (t0) ((shrI x2 7) % 5) ((shrI x2 4) % 202)))) else if andI x1 15 = 5 then gq (shrI x2 5) (60) ((fG_take M t0 ((shrI x2 5) % 60)).bind fun q14 => some ((q14.1, q14.2))) else if 6 ≤ andI x1 15 ∧ andI x1 15 ≤ 8 then gq (shrI x2 8) (8) (gq (shrI x2 4) (120) ((fG_move M t0 ((shrI x2 8) % 8) ((shrI x2 4) % 120)).bind fun q19 => some ((q19.1, q19.2)))) else if andI x1 15 = 9 then gq (shrI x2 1) (5) (gq (shrI x2 3) (300) ((fG_order M ((shrI x2 1) % 5) ((shrI x2 3) % 300)).bind fun q24 => some ((q24.1, q24.2)))) else if 10 ≤ andI x1 15 ∧ andI x1 15 ≤ 11 then gq (shrI x2 1) (34) ((fG_fix M ((shrI x2 1) % 34)).bind fun q28 => some ((q28.1, q28.2))) else if andI x1 15 = 12 then if andI x2 7 = 0 then gq (shrI x2 3) (54) (fL_act_j224 (M) ((shrI x2 3) % 54)) else gq (x2) (6) (gd (1 + (x2 % 6)) (fL_act_j224 (M) (1 + (x2 % 6)))) else if 13 ≤ andI x1 15 ∧ andI x1 15 ≤ 14 then gq (x2) (19) (gx (x2 % 19) 19 ((fL_write M ((7 + (x2 % 19).toNat))).bind fun m41 => (fG_run m41).bind fun q43 => some ((q43.1, max ((-14)) q43.2)))) else if andI x2 3 = 0 then (fG_save M).bind fun q51 => some ((q51.1, q51.2)) else if andI x2 3 = 1 then (fG_restore M).bind fun q49 => some ((q49.1, q49.2)) else (fG_undo M).bind fun q47 => some ((q47.1, q47.2))
def fL_act (M0 : MemG) (x1 : Int) : Option (MemG × Int) := if andI (andI (shrI x1 4) 65535) 1 = 0 then gq (shrI (andI (shrI x1 4) 65535) 1) (33) (fL_act_j28 (M0) (x1) (andI (shrI x1 4) 65535) ((shrI (andI (shrI x1 4) 65535) 1) % 33)) else gq (shrI (andI (shrI x1 4) 65535) 1) (6) (fL_act_j28 (M0) (x1) (andI (shrI x1 4) 65535) ((shrI (andI (shrI x1 4) 65535) 1) % 6))
def fT_size (M0 : MemG) : Int := M0 2 1
def fW_crackedRungs_j21 (M0 : MemG) (k : Nat) (x1 : Int) (x2 : Int) : Option ((Int × Int) ⊕ (Int)) := gd (x2 + 1) (some (Sum.inl (x1, x2 + 1)))
def fW_crackedRungs_l4 (M0 : MemG) (k : Nat) (z : (Int × Int)) : Option ((Int × Int) ⊕ (Int)) := if 32 < z.2 then some (Sum.inr (z.1)) else if (fW_isCracked M0 (k) z.2) = 0 then fW_crackedRungs_j21 (M0) (k) (z.1) (z.2) else gd (z.1 + 1) (fW_crackedRungs_j21 (M0) (k) (z.1 + 1) (z.2))
def fW_crackedRungs (M0 : MemG) (k : Nat) : Option (Int) := loopN (fW_crackedRungs_l4 (M0) (k)) 200 (0, 1)
def fW_filledBays_j21 (M0 : MemG) (k : Nat) (x1 : Int) (x2 : Int) : Option ((Int × Int) ⊕ (Int)) := gd (x2 + 1) (some (Sum.inl (x1, x2 + 1)))
def fW_filledBays_l4 (M0 : MemG) (k : Nat) (z : (Int × Int)) : Option ((Int × Int) ⊕ (Int)) := if z.2 < 32 then if (fW_isEmpty M0 (k) z.2) = 0 then gd (z.1 + 1) (fW_filledBays_j21 (M0) (k) (z.1 + 1) (z.2)) else fW_filledBays_j21 (M0) (k) (z.1) (z.2) else some (Sum.inr (z.1))
def fW_filledBays (M0 : MemG) (k : Nat) : Option (Int) := loopN (fW_filledBays_l4 (M0) (k)) 200 (0, 0)
def fG_account (M0 : MemG) (x1 : Int) : Option (Int) := if x1 = 2 then (fW_filledBays M0 0).bind fun q2 => some (q2) else if x1 = 3 then (fW_allSacks M0 0).bind fun q5 => some (q5) else if 4 ≤ x1 ∧ x1 ≤ 7 then gd (x1 - 4) ((fW_sacksOfKind M0 0 (x1 - 4)).bind fun q9 => some (q9)) else if x1 = 13 then (fW_crackedRungs M0 0).bind fun q12 => some (q12) else if x1 = 16 then some ((fT_size M0)) else if x1 = 17 then some ((fP_size M0)) else if (fG_isWithin x1 0 15) = 0 then some ((-12)) else some ((fW_counted M0 0 x1))
def fW_crackedOver_j37 (M0 : MemG) (k : Nat) (x2 : Int) (x3 : Int) (x4 : Int) : Option ((Int × Int × Int) ⊕ (Int)) := gd (x3 + ((fG_sizeOf x3))) (gd (x4 + 1) (some (Sum.inl (x2, x3 + ((fG_sizeOf x3)), x4 + 1))))
def fW_crackedOver_l9 (M0 : MemG) (k : Nat) (z : (Int × Int × Int)) : Option ((Int × Int × Int) ⊕ (Int)) := if z.2.2 < 32 then if 32 < z.2.1 then some (Sum.inr (z.1)) else if (fW_isCracked M0 (k) z.2.1) = 0 then fW_crackedOver_j37 (M0) (k) (z.1) (z.2.1) (z.2.2) else gd (z.1 + ((fG_sizeOf z.2.1))) (fW_crackedOver_j37 (M0) (k) (z.1 + ((fG_sizeOf z.2.1))) (z.2.1) (z.2.2)) else some (Sum.inr (z.1))
def fW_crackedOver (M0 : MemG) (k : Nat) (x1 : Int) : Option (Int) := gd (x1 + 1) (loopN (fW_crackedOver_l9 (M0) (k)) 200 (0, x1 + 1, 0))
def fW_rungsOver_l9 (k : Nat) (z : (Int × Int × Int)) : Option ((Int × Int × Int) ⊕ (Int)) := if z.2.2 < 32 then if 32 < z.2.1 then some (Sum.inr (z.1)) else gd (z.1 + 1) (gd (z.2.1 + ((fG_sizeOf z.2.1))) (gd (z.2.2 + 1) (some (Sum.inl (z.1 + 1, z.2.1 + ((fG_sizeOf z.2.1)), z.2.2 + 1))))) else some (Sum.inr (z.1))
def fW_rungsOver (k : Nat) (x1 : Int) : Option (Int) := gd (x1 + 1) (loopN (fW_rungsOver_l9 (k)) 200 (0, x1 + 1, 0))
def fG_bayOf (M0 : MemG) (x1 : Int) (x2 : Int) : Option (Int) := if (fG_isBay x1) = 0 then some ((-11)) else if x2 = 0 then if (fW_isEmpty M0 0 x1) = 0 then some ((fW_kindIn M0 0 x1)) else some ((-15)) else if x2 = 1 then some ((fW_sacksIn M0 0 x1)) else if x2 = 2 then some ((fW_ageIn M0 0 x1)) else if x2 = 3 then gd (((fW_ageIn M0 0 x1)) + 1) ((fW_spoilingAt M0 0 x1 (((fW_ageIn M0 0 x1)) + 1)).bind fun q14 => some (q14)) else if x2 = 4 then (fW_rungsOver 0 x1).bind fun q17 => some (q17) else if x2 = 5 then (fW_crackedOver M0 0 x1).bind fun q20 => some (q20) else some ((-12))
def fW_sacksAsOldAs_j27 (M0 : MemG) (k : Nat) (x1 : Int) (x2 : Int) (x3 : Int) : Option ((Int × Int) ⊕ (Int)) := gd (x3 + 1) (some (Sum.inl (x2, x3 + 1)))
def fW_sacksAsOldAs_l4 (M0 : MemG) (k : Nat) (x1 : Int) (z : (Int × Int)) : Option ((Int × Int) ⊕ (Int)) := if z.2 < 32 then if (fW_ageIn M0 (k) z.2) = x1 then gd (z.1 + ((fW_sacksIn M0 (k) z.2))) (fW_sacksAsOldAs_j27 (M0) (k) (x1) (z.1 + ((fW_sacksIn M0 (k) z.2))) (z.2)) else fW_sacksAsOldAs_j27 (M0) (k) (x1) (z.1) (z.2) else some (Sum.inr (z.1))
def fW_sacksAsOldAs (M0 : MemG) (k : Nat) (x1 : Int) : Option (Int) := loopN (fW_sacksAsOldAs_l4 (M0) (k) (x1)) 200 (0, 0)
def fG_commonAge_j69 (M0 : MemG) (x1 : Int) (x2 : Int) (x3 : Int) : Option ((Int × Int × Int) ⊕ (Int)) := gd (x3 + 1) (some (Sum.inl (x1, x2, x3 + 1)))
def fG_commonAge_j63 (M0 : MemG) (x3 : Int) (x4 : Int) (x5 : Int) : Option ((Int × Int × Int) ⊕ (Int)) := fG_commonAge_j69 (M0) (x4) (x5) (x3)
def fG_commonAge_l7 (M0 : MemG) (z : (Int × Int × Int)) : Option ((Int × Int × Int) ⊕ (Int)) := if z.2.2 < 32 then (fW_sacksAsOldAs M0 0 ((fW_ageIn M0 0 z.2.2))).bind fun q3 => if (fW_isEmpty M0 0 z.2.2) = 0 then if z.2.1 < q3 then fG_commonAge_j63 (M0) (z.2.2) ((fW_ageIn M0 0 z.2.2)) (q3) else if q3 = z.2.1 then if (fW_ageIn M0 0 z.2.2) < z.1 then fG_commonAge_j63 (M0) (z.2.2) ((fW_ageIn M0 0 z.2.2)) (q3) else fG_commonAge_j69 (M0) (z.1) (z.2.1) (z.2.2) else fG_commonAge_j69 (M0) (z.1) (z.2.1) (z.2.2) else fG_commonAge_j69 (M0) (z.1) (z.2.1) (z.2.2) else some (Sum.inr (z.1))
def fG_commonAge (M0 : MemG) : Option (Int) := loopN (fG_commonAge_l7 (M0)) 200 ((-15), 0, 0)
def fW_isAhead (M0 : MemG) (k : Nat) (x1 : Int) (x2 : Int) : Int := if (fW_ageIn M0 (k) x1) = (fW_ageIn M0 (k) x2) then if (fW_sacksIn M0 (k) x1) = (fW_sacksIn M0 (k) x2) then if x1 < x2 then 1 else 0 else if (fW_sacksIn M0 (k) x2) < (fW_sacksIn M0 (k) x1) then 1 else 0 else if (fW_ageIn M0 (k) x2) < (fW_ageIn M0 (k) x1) then 1 else 0
def fW_placeOf_j30 (M0 : MemG) (k : Nat) (x1 : Int) (x2 : Int) (x3 : Int) : Option ((Int × Int) ⊕ (Int)) := gd (x3 + 1) (some (Sum.inl (x2, x3 + 1)))
def fW_placeOf_l4 (M0 : MemG) (k : Nat) (x1 : Int) (z : (Int × Int)) : Option ((Int × Int) ⊕ (Int)) := if z.2 < 32 then if (fW_isEmpty M0 (k) z.2) = 0 then if (fW_isAhead M0 (k) z.2 x1) = 0 then fW_placeOf_j30 (M0) (k) (x1) (z.1) (z.2) else gd (z.1 + 1) (fW_placeOf_j30 (M0) (k) (x1) (z.1 + 1) (z.2)) else fW_placeOf_j30 (M0) (k) (x1) (z.1) (z.2) else some (Sum.inr (z.1))
def fW_placeOf (M0 : MemG) (k : Nat) (x1 : Int) : Option (Int) := loopN (fW_placeOf_l4 (M0) (k) (x1)) 200 (0, 0)
def fG_oldest_j33 (M0 : MemG) (x1 : Int) (x2 : Int) : Option ((Int) ⊕ (Int)) := gd (x2 + 1) (some (Sum.inl (x2 + 1)))
def fG_oldest_l2 (M0 : MemG) (x1 : Int) (z : (Int)) : Option ((Int) ⊕ (Int)) := if z < 32 then if (fW_isEmpty M0 0 z) = 0 then (fW_placeOf M0 0 z).bind fun q6 => if q6 = x1 then some (Sum.inr (z)) else fG_oldest_j33 (M0) (x1) (z) else fG_oldest_j33 (M0) (x1) (z) else some (Sum.inr ((-11)))
def fG_oldest (M0 : MemG) (x1 : Int) : Option (Int) := loopN (fG_oldest_l2 (M0) (x1)) 200 (0)
def fG_firstBayOf (x0 : Int) : Option (Int) := gd (x0 - ((fG_sizeOf x0))) (some (x0 - ((fG_sizeOf x0))))
def fG_rungsBelow_l8 (x0 : Int) (z : (Int × Int × Int)) : Option ((Int × Int × Int) ⊕ (Int)) := if z.2.2 < 32 then (fG_firstBayOf x0).bind fun q3 => if q3 < z.2.1 then gd (z.1 + 1) (gd (z.2.1 - ((fG_sizeOf z.2.1))) (gd (z.2.2 + 1) (some (Sum.inl (z.1 + 1, z.2.1 - ((fG_sizeOf z.2.1)), z.2.2 + 1))))) else some (Sum.inr (z.1)) else some (Sum.inr (z.1))
def fG_rungsBelow (x0 : Int) : Option (Int) := gd (x0 - 1) (loopN (fG_rungsBelow_l8 (x0)) 200 (0, x0 - 1, 0))
def fG_rungOf (M0 : MemG) (x1 : Int) (x2 : Int) : Option (Int) := if (fG_isRung x1) = 0 then some ((-11)) else if x2 = 0 then some ((fG_sizeOf x1)) else if x2 = 1 then some ((fW_sumOf M0 0 x1)) else if x2 = 2 then (fG_loadOf x1).bind fun q8 => some (q8) else if x2 = 3 then if (fW_isCracked M0 0 x1) = 0 then some (0) else some (1) else if x2 = 4 then (fG_firstBayOf x1).bind fun q14 => some (q14) else if x2 = 5 then (fG_rungsBelow x1).bind fun q17 => some (q17) else some ((-12))
def fG_soundShare (M0 : MemG) : Option (UInt32) := (fW_crackedRungs M0 0).bind fun q1 => gff (FP.fdiv (FP.i2f (i3 (32 - q1))) 1107296256) (some (FP.fdiv (FP.i2f (i3 (32 - q1))) 1107296256))
def fG_tightest_j56 (M0 : MemG) (x1 : Int) (x2 : Int) (x3 : Int) : Option ((Int × Int × Int) ⊕ (Int)) := gd (x3 + 1) (some (Sum.inl (x1, x2, x3 + 1)))
def fG_tightest_j51 (M0 : MemG) (x3 : Int) (x4 : Int) : Option ((Int × Int × Int) ⊕ (Int)) := fG_tightest_j56 (M0) (x3) (x4) (x3)
def fG_tightest_l7 (M0 : MemG) (z : (Int × Int × Int)) : Option ((Int × Int × Int) ⊕ (Int)) := if 32 < z.2.2 then some (Sum.inr (z.1)) else (fG_loadOf z.2.2).bind fun q2 => gd (q2 - ((fW_sumOf M0 0 z.2.2))) (if (fW_isCracked M0 0 z.2.2) = 0 then if z.1 = (-15) then fG_tightest_j51 (M0) (z.2.2) (q2 - ((fW_sumOf M0 0 z.2.2))) else if q2 - ((fW_sumOf M0 0 z.2.2)) < z.2.1 then fG_tightest_j51 (M0) (z.2.2) (q2 - ((fW_sumOf M0 0 z.2.2))) else fG_tightest_j56 (M0) (z.1) (z.2.1) (z.2.2) else fG_tightest_j56 (M0) (z.1) (z.2.1) (z.2.2))
def fG_tightest (M0 : MemG) : Option (Int) := loopN (fG_tightest_l7 (M0)) 200 ((-15), 0, 1)
def fL_areRanks_j125 (M0 : MemG) (x1 : Int) (x3 : Int) (t0 : Int) : Option ((Int × Int) ⊕ (Int)) := gd (x3 + 1) (some (Sum.inl (t0, x3 + 1)))
def fL_areRanks_l34 (M0 : MemG) (x1 : Int) (z : (Int × Int)) : Option ((Int × Int) ⊕ (Int)) := if z.1 = 0 then some (Sum.inr ((z.1))) else if z.2 < x1 then gd (z.2 - 1) ((fG_oldest M0 (z.2 - 1)).bind fun q10 => (fG_oldest M0 z.2).bind fun q12 => (fG_bayOf M0 q10 2).bind fun q14 => (fG_bayOf M0 q12 2).bind fun q16 => gd (q14 - q16) ((fG_bayOf M0 q10 1).bind fun q19 => (fG_bayOf M0 q12 1).bind fun q21 => gd (q19 - q21) (if 0 < q14 - q16 then fL_areRanks_j125 (M0) (x1) (z.2) (1) else if q14 - q16 = 0 then if 0 < q19 - q21 then fL_areRanks_j125 (M0) (x1) (z.2) (1) else if q19 - q21 = 0 then if q10 < q12 then fL_areRanks_j125 (M0) (x1) (z.2) (1) else fL_areRanks_j125 (M0) (x1) (z.2) (0) else fL_areRanks_j125 (M0) (x1) (z.2) (0) else fL_areRanks_j125 (M0) (x1) (z.2) (0)))) else some (Sum.inr ((z.1)))
def fL_areRanks_j208 (M0 : MemG) (x1 : Int) (x3 : Int) (x4 : Int) (t0 : Int) : Option ((Int × Int) ⊕ (Int)) := gd (x4 + 1) (some (Sum.inl (t0, x4 + 1)))
def fL_areRanks_l140 (M0 : MemG) (x1 : Int) (x3 : Int) (z : (Int × Int)) : Option ((Int × Int) ⊕ (Int)) := if z.1 = 0 then some (Sum.inr ((z.1))) else if z.2 < 33 then (fG_rungOf M0 z.2 2).bind fun q38 => (fG_rungOf M0 z.2 1).bind fun q40 => gd (q38 - q40) ((fG_rungOf M0 z.2 3).bind fun q43 => if q43 = 1 then fL_areRanks_j208 (M0) (x1) (x3) (z.2) (1) else if x3 = (-15) then fL_areRanks_j208 (M0) (x1) (x3) (z.2) (0) else (fG_rungOf M0 x3 2).bind fun q49 => (fG_rungOf M0 x3 1).bind fun q51 => gd (q49 - q51) (if q38 - q40 < q49 - q51 then fL_areRanks_j208 (M0) (x1) (x3) (z.2) (0) else fL_areRanks_j208 (M0) (x1) (x3) (z.2) (1))) else some (Sum.inr ((z.1)))
def fL_areRanks_j242 (M0 : MemG) (t0 : Int) (t1 : Int) : Option (Int) := if t0 = t1 then (fG_soundShare M0).bind fun q66 => (fG_account M0 13).bind fun q68 => gff (FP.fdiv (FP.i2f (i3 (32 - q68))) 1107296256) (if fcI q66 (FP.fdiv (FP.i2f (i3 (32 - q68))) 1107296256) = 0 then some (1) else some (0)) else some (0)
def fL_areRanks_j228 (M0 : MemG) (t0 : Int) : Option (Int) := (fG_commonAge M0).bind fun q61 => if q61 = (-15) then fL_areRanks_j242 (M0) (t0) (1) else fL_areRanks_j242 (M0) (t0) (0)
def fL_areRanks_j31 (M0 : MemG) (x1 : Int) (t0 : Int) : Option (Int) := (loopN (fL_areRanks_l34 (M0) (x1)) 200 (t0, 1)).bind fun q32 => (fG_tightest M0).bind fun q34 => (loopN (fL_areRanks_l140 (M0) (x1) (q34)) 200 (q32, 1)).bind fun q56 => if q56 = 0 then some (0) else if x1 = 0 then fL_areRanks_j228 (M0) (1) else fL_areRanks_j228 (M0) (0)
def fL_areRanks (M0 : MemG) : Option (Int) := (fG_account M0 2).bind fun q1 => (fG_oldest M0 q1).bind fun q3 => if q3 = (-11) then (fG_oldest M0 ((-1))).bind fun q72 => if q72 = (-11) then fL_areRanks_j31 (M0) (q1) (1) else fL_areRanks_j31 (M0) (q1) (0) else fL_areRanks_j31 (M0) (q1) (0)
def fG_reach_j69 (M0 : MemG) (x2 : Int) (x3 : Int) (x4 : Int) : Option ((Int × Int × Int) ⊕ (Int)) := gq (x4) (2) (some (Sum.inl (x2, x3, x4 / 2)))
def fG_reach_l22 (M0 : MemG) (z : (Int × Int × Int)) : Option ((Int × Int × Int) ⊕ (Int)) := if z.2.2 < 1 then some (Sum.inr ((z.1))) else gd (z.1 + z.2.2) (if 32 < z.1 + z.2.2 then fG_reach_j69 (M0) (z.1) (z.2.1) (z.2.2) else if (fW_sumOf M0 0 (z.1 + z.2.2)) < z.2.1 then gd (z.2.1 - ((fW_sumOf M0 0 (z.1 + z.2.2)))) (fG_reach_j69 (M0) (z.1 + z.2.2) (z.2.1 - ((fW_sumOf M0 0 (z.1 + z.2.2)))) (z.2.2)) else fG_reach_j69 (M0) (z.1) (z.2.1) (z.2.2))
def fG_reach (M0 : MemG) (x1 : Int) : Option (Int) := if (fG_isWithin x1 1 9999) = 0 then some ((-12)) else (loopN (fG_reach_l22 (M0)) 200 (0, x1, 32)).bind fun q13 => if q13 < 32 then some (q13) else some ((-15))
def fG_reachAgain_l18 (M0 : MemG) (x1 : Int) (z : (Int × Int)) : Option ((Int × Int) ⊕ (Int)) := if z.2 < 32 then gd (z.1 + ((fW_sacksIn M0 0 z.2))) (if z.1 + ((fW_sacksIn M0 0 z.2)) < x1 then gd (z.2 + 1) (some (Sum.inl (z.1 + ((fW_sacksIn M0 0 z.2)), z.2 + 1))) else some (Sum.inr (z.2))) else some (Sum.inr ((-15)))
def fG_reachAgain (M0 : MemG) (x1 : Int) : Option (Int) := if (fG_isWithin x1 1 9999) = 0 then some ((-12)) else loopN (fG_reachAgain_l18 (M0) (x1)) 200 (0, 0)
def fW_sumByClimbing_l9 (M0 : MemG) (k : Nat) (z : (Int × Int × Int)) : Option ((Int × Int × Int) ⊕ (Int)) := if z.2.2 < 32 then if 0 < z.2.1 then gd (z.1 + ((fW_sumOf M0 (k) z.2.1))) (gd (z.2.1 - ((fG_sizeOf z.2.1))) (gd (z.2.2 + 1) (some (Sum.inl (z.1 + ((fW_sumOf M0 (k) z.2.1)), z.2.1 - ((fG_sizeOf z.2.1)), z.2.2 + 1))))) else some (Sum.inr (z.1)) else some (Sum.inr (z.1))
def fW_sumByClimbing (M0 : MemG) (k : Nat) (x1 : Int) : Option (Int) := gd (x1 + 1) (loopN (fW_sumByClimbing_l9 (M0) (k)) 200 (0, x1 + 1, 0))
def fG_sum (M0 : MemG) (x1 : Int) (x2 : Int) : Option (Int) := if (fG_isBay x1) = 0 then some ((-11)) else if (fG_isBay x2) = 0 then some ((-11)) else if x2 < x1 then some ((-12)) else (fW_sumByClimbing M0 0 x2).bind fun q6 => gd (x1 - 1) ((fW_sumByClimbing M0 0 (x1 - 1)).bind fun q9 => gd (q6 - q9) (some (q6 - q9)))
def fL_areReached_j119 (M0 : MemG) (x1 : Int) (x3 : Int) (t0 : Int) : Option ((Int × Int) ⊕ (Int)) := gd (x3 + 1) (some (Sum.inl (t0, x3 + 1)))
def fL_areReached_l38 (M0 : MemG) (x1 : Int) (z : (Int × Int)) : Option ((Int × Int) ⊕ (Int)) := if z.1 = 0 then gz (z.1) (some (Sum.inr (z.1))) else if z.2 < 9 then if 0 < x1 then gd ((x1 - 1) * z.2) (gq ((x1 - 1) * z.2) (8) (gd (1 + (((x1 - 1) * z.2) / 8)) ((fG_reach M0 (1 + (((x1 - 1) * z.2) / 8))).bind fun q17 => (fG_reachAgain M0 (1 + (((x1 - 1) * z.2) / 8))).bind fun q19 => if q17 = q19 then (fG_sum M0 0 q17).bind fun q24 => if q24 < 1 + (((x1 - 1) * z.2) / 8) then fL_areReached_j119 (M0) (x1) (z.2) (0) else if q17 = 0 then fL_areReached_j119 (M0) (x1) (z.2) (1) else gd (q17 - 1) ((fG_sum M0 0 (q17 - 1)).bind fun q29 => if q29 < 1 + (((x1 - 1) * z.2) / 8) then fL_areReached_j119 (M0) (x1) (z.2) (1) else fL_areReached_j119 (M0) (x1) (z.2) (0)) else fL_areReached_j119 (M0) (x1) (z.2) (0)))) else gz (z.1) (some (Sum.inr (z.1))) else gz (z.1) (some (Sum.inr (z.1)))
def fL_areReached_j35 (M0 : MemG) (x1 : Int) (t0 : Int) : Option (Int) := loopN (fL_areReached_l38 (M0) (x1)) 200 (t0, 1)
def fL_areReached (M0 : MemG) : Option (Int) := (fG_account M0 3).bind fun q1 => gd (q1 + 1) ((fG_reach M0 (q1 + 1)).bind fun q4 => if q4 = (-15) then gd (q1 + 1) ((fG_reachAgain M0 (q1 + 1)).bind fun q34 => if q34 = (-15) then fL_areReached_j35 (M0) (q1) (1) else fL_areReached_j35 (M0) (q1) (0)) else fL_areReached_j35 (M0) (q1) (0))
def fL_cell (G : gG) (M0 : MemG) (x1 : Int) : Option (Int) := if (gL G : Nat) = 0 then gd (577 * x1) (some (577 * x1)) else gq (andI x1 65535) ((gL G : Nat)) (gx ((andI x1 65535) % ((gL G : Nat))) (gL G : Nat) (some (gXs G ((andI x1 65535) % ((gL G : Nat))).toNat)))
def fL_digest_l6 (M0 : MemG) (z : (Int64 × Int)) : Option ((Int64 × Int) ⊕ (Int64)) := if z.2 < 16 then (fG_account M0 z.2).bind fun q2 => gd (z.2 + 1) (some (Sum.inl ((31 * z.1) + ((i3 q2).toInt64), z.2 + 1))) else some (Sum.inr ((z.1)))
def fL_digest_l33 (M0 : MemG) (z : (Int64 × Int)) : Option ((Int64 × Int) ⊕ (Int64)) := if z.2 < 96 then gq (z.2) (3) (gq (z.2) (3) ((fG_bayOf M0 (z.2 / 3) (z.2 % 3)).bind fun q10 => gd (z.2 + 1) (some (Sum.inl ((31 * z.1) + ((i3 q10).toInt64), z.2 + 1))))) else some (Sum.inr ((z.1)))
def fL_digest_l65 (M0 : MemG) (z : (Int64 × Int)) : Option ((Int64 × Int) ⊕ (Int64)) := if z.2 < 33 then (fG_rungOf M0 z.2 3).bind fun q16 => gd (z.2 + 1) (some (Sum.inl ((31 * z.1) + ((i3 q16).toInt64), z.2 + 1))) else some (Sum.inr ((z.1)))
def fL_digest (M0 : MemG) : Option (Int64) := (loopN (fL_digest_l6 (M0)) 200 (7, 0)).bind fun q6 => (loopN (fL_digest_l33 (M0)) 200 (q6, 0)).bind fun q14 => (loopN (fL_digest_l65 (M0)) 200 (q14, 1)).bind fun q20 => some (q20)
def fL_keeps (x0 : Int) : Int := if x0 = 0 then 20 else if x0 = 1 then 15 else if x0 = 2 then 10 else 12
def fG_stepsBelow_l25 (rec : Int → Int → Option Int) (M0 : MemG) (k : Nat) (x1 : Int) (x2 : Int) (z : (Int × Int × Int)) : Option ((Int × Int × Int) ⊕ (Int)) := if z.2.2 < 32 then (fG_firstBayOf x1).bind fun q6 => if q6 < z.2.1 then gd (x2 + 1) ((rec z.2.1 (x2 + 1)).bind fun q10 => gd (z.1 + q10) (gd (z.2.1 - ((fG_sizeOf z.2.1))) (gd (z.2.2 + 1) (some (Sum.inl (z.1 + q10, z.2.1 - ((fG_sizeOf z.2.1)), z.2.2 + 1)))))) else some (Sum.inr (z.1)) else some (Sum.inr (z.1))
def fG_stepsBelow_b (rec : Int → Int → Option Int) (M0 : MemG) (k : Nat) (x1 : Int) (x2 : Int) : Option (Int) := if (fW_isCracked M0 (k) x1) = 0 then some (1) else if 5 < x2 then some (1) else gd (x1 - 1) (loopN (fG_stepsBelow_l25 rec (M0) (k) (x1) (x2)) 200 (1, x1 - 1, 0))
def fG_stepsBelow : Nat → MemG → Nat → Int → Int → Option Int
  | 0, _, _, _, _ => none
  | n + 1, M0, k, x1, x2 => fG_stepsBelow_b (fun a b => fG_stepsBelow n M0 k a b) M0 k x1 x2
def fG_steps_l19 (M0 : MemG) (z : (Int × Int × Int)) : Option ((Int × Int × Int) ⊕ (Int)) := if z.2.2 < 32 then if 0 < z.2.1 then (fG_stepsBelow 7 M0 0 z.2.1 0).bind fun q6 => gd (z.1 + q6) (gd (z.2.1 - ((fG_sizeOf z.2.1))) (gd (z.2.2 + 1) (some (Sum.inl (z.1 + q6, z.2.1 - ((fG_sizeOf z.2.1)), z.2.2 + 1))))) else some (Sum.inr (z.1)) else some (Sum.inr (z.1))
def fG_steps (M0 : MemG) (x1 : Int) : Option (Int) := if (fG_isBay x1) = 0 then some ((-11)) else gd (x1 + 1) (loopN (fG_steps_l19 (M0)) 200 (0, x1 + 1, 0))
def fG_knownSteps_l8 (M0 : MemG) (x2 : Int) (z : (Int × Int × Int)) : Option ((Int × Int × Int) ⊕ (Int)) := if z.2.2 < 32 then if x2 < z.2.1 then gd (z.1 + ((fG_at M0 (85) z.2.1))) (gd (z.2.1 - ((fG_sizeOf z.2.1))) (gd (z.2.2 + 1) (some (Sum.inl (z.1 + ((fG_at M0 (85) z.2.1)), z.2.1 - ((fG_sizeOf z.2.1)), z.2.2 + 1))))) else some (Sum.inr (z.1)) else some (Sum.inr (z.1))
def fG_knownSteps (M0 : MemG) (x1 : Int) (x2 : Int) : Option (Int) := loopN (fG_knownSteps_l8 (M0) (x2)) 200 (0, x1, 0)
def fG_stepsByKnown (M0 : MemG) (x1 : Int) : Option (Int) := if (fW_isCracked M0 0 x1) = 0 then some (1) else (fG_firstBayOf x1).bind fun q3 => gd (x1 - 1) ((fG_knownSteps M0 (x1 - 1) q3).bind fun q6 => gd (1 + q6) (some (1 + q6)))
def fG_stepsAgain_l12 (x1 : Int) (z : (Int × MemG)) : Option ((Int × MemG) ⊕ (MemG)) := gd (x1 + 1) (if x1 + 1 < z.1 then some (Sum.inr ((z.2))) else (fG_stepsByKnown z.2 z.1).bind fun q5 => (fG_put z.2 (85) z.1 q5).bind fun m7 => gd (z.1 + 1) (some (Sum.inl (z.1 + 1, m7))))
def fG_stepsAgain (M0 : MemG) (x1 : Int) : Option (MemG × Int) := if (fG_isBay x1) = 0 then some ((M0, (-11))) else (loopN (fG_stepsAgain_l12 (x1)) 200 (1, M0)).bind fun q11 => gd (x1 + 1) ((fG_knownSteps q11 (x1 + 1) 0).bind fun q13 => some ((q11, q13)))
def fG_sumAgain (M0 : MemG) (x1 : Int) (x2 : Int) : Option (Int) := if (fG_isBay x1) = 0 then some ((-11)) else if (fG_isBay x2) = 0 then some ((-11)) else if x2 < x1 then some ((-12)) else (fW_sumByBays M0 0 x1 x2).bind fun q6 => some (q6)
def fL_isBay_j185 (M : MemG) (x1 : Int) (x3 : Int) (x6 : Int) (x7 : Int) (x8 : Int) (x9 : Int) : Option ((Int × Int × Int) ⊕ (Int × Int)) := gd (x9 + 1) (some (Sum.inl (x7, x8, x9 + 1)))
def fL_isBay_j182 (M : MemG) (x1 : Int) (x3 : Int) (x6 : Int) (x7 : Int) (x9 : Int) (t0 : Int) (t1 : Int) : Option ((Int × Int × Int) ⊕ (Int × Int)) := fL_isBay_j185 (M) (x1) (x3) (x6) (x7) (orI t0 t1) (x9)
def fL_isBay_l127 (M : MemG) (x1 : Int) (x3 : Int) (x6 : Int) (z : (Int × Int × Int)) : Option ((Int × Int × Int) ⊕ (Int × Int)) := if z.2.2 < 33 then (fG_rungOf M z.2.2 0).bind fun q14 => (fG_rungOf M z.2.2 4).bind fun q16 => if x1 < q16 then fL_isBay_j185 (M) (x1) (x3) (x6) (z.1) (z.2.1) (z.2.2) else if x1 < z.2.2 then gd (z.1 + 1) ((fG_rungOf M z.2.2 3).bind fun q23 => if q23 = 1 then fL_isBay_j182 (M) (x1) (x3) (x6) (z.1 + 1) (z.2.2) (z.2.1) (q14) else fL_isBay_j182 (M) (x1) (x3) (x6) (z.1 + 1) (z.2.2) (z.2.1) (0)) else fL_isBay_j185 (M) (x1) (x3) (x6) (z.1) (z.2.1) (z.2.2) else some (Sum.inr ((z.1, z.2.1)))
def fL_isBay_j116 (M : MemG) (x1 : Int) (x3 : Int) (t0 : Int) : Option (MemG × Int) := (loopN (fL_isBay_l127 (M) (x1) (x3) (t0)) 200 (0, 0, 1)).bind fun q28 => if t0 = 0 then some ((M, 0)) else (fG_bayOf M x1 4).bind fun q32 => if q28.1 = q32 then (fG_bayOf M x1 5).bind fun q35 => if q28.2 = q35 then (fG_steps M x1).bind fun q38 => (fG_stepsAgain M x1).bind fun q40 => if q38 = q40.2 then (fG_steps q40.1 x1).bind fun q43 => gd (x1 + 1) ((fI_bitCount_0f7a4 (x1 + 1)).bind fun q46 => if q43 < q46 then some ((q40.1, 0)) else (fG_sum q40.1 0 x1).bind fun q49 => (fG_sumAgain q40.1 0 x1).bind fun q51 => if q49 = q51 then (fG_sum q40.1 x1 x1).bind fun q54 => if q54 = x3 then (fG_sum q40.1 x1 31).bind fun q57 => (fG_sumAgain q40.1 x1 31).bind fun q59 => if q57 = q59 then some ((q40.1, 1)) else some ((q40.1, 0)) else some ((q40.1, 0)) else some ((q40.1, 0))) else some ((q40.1, 0)) else some ((M, 0)) else some ((M, 0))
def fL_isBay_j108 (M : MemG) (x1 : Int) (x3 : Int) (t0 : Int) (t1 : Int) : Option (MemG × Int) := if t0 = t1 then fL_isBay_j116 (M) (x1) (x3) (1) else fL_isBay_j116 (M) (x1) (x3) (0)
def fL_isBay_j75 (M : MemG) (x1 : Int) (x2 : Int) (x3 : Int) (x4 : Int) (x5 : Int) : Option (MemG × Int) := (fG_bayOf M x1 3).bind fun q67 => if x5 = 0 then gd (x4 + 1) (if (fL_keeps x2) < x4 + 1 then gd (x3 + 9) (gq (x3 + 9) (10) (fL_isBay_j108 (M) (x1) (x3) (q67) ((x3 + 9) / 10))) else fL_isBay_j108 (M) (x1) (x3) (q67) (0)) else fL_isBay_j108 (M) (x1) (x3) (q67) (0)
def fL_isBay_j44 (M : MemG) (x1 : Int) (x2 : Int) (x3 : Int) (x4 : Int) (x5 : Int) (t0 : Int) : Option (MemG × Int) := if t0 = x5 then if x3 < 0 then fL_isBay_j116 (M) (x1) (x3) (0) else if 200 < x3 then fL_isBay_j116 (M) (x1) (x3) (0) else if x4 < 0 then fL_isBay_j116 (M) (x1) (x3) (0) else if x5 = 0 then fL_isBay_j75 (M) (x1) (x2) (x3) (x4) (x5) else if x4 = 0 then fL_isBay_j75 (M) (x1) (x2) (x3) (x4) (x5) else fL_isBay_j116 (M) (x1) (x3) (0) else fL_isBay_j116 (M) (x1) (x3) (0)
def fL_isBay_j31 (M : MemG) (x1 : Int) (x2 : Int) (x3 : Int) (x4 : Int) (t0 : Int) : Option (MemG × Int) := if x2 = (-15) then fL_isBay_j44 (M) (x1) (x2) (x3) (x4) (t0) (1) else fL_isBay_j44 (M) (x1) (x2) (x3) (x4) (t0) (0)
def fL_isBay (M0 : MemG) (x1 : Int) : Option (MemG × Int) := (fG_bayOf M0 x1 0).bind fun q1 => (fG_bayOf M0 x1 1).bind fun q3 => (fG_bayOf M0 x1 2).bind fun q5 => if q3 = 0 then fL_isBay_j31 (M0) (x1) (q1) (q3) (q5) (1) else fL_isBay_j31 (M0) (x1) (q1) (q3) (q5) (0)
def fN_codeAt (M0 : MemG) (x1 : Int) : Option (Int) := gd ((M0 3 1) - 1) (if (fG_isWithin x1 0 ((M0 3 1) - 1)) = 0 then some ((-11)) else some ((fG_at M0 (84) x1)))
def fG_character (M0 : MemG) (x1 : Int) : Option (Int) := (fN_codeAt M0 x1).bind fun q1 => some (q1)
def fN_addCode (M0 : MemG) (x1 : Int) : Option (MemG) := if M0 3 1 < 39 then (fG_put M0 (84) (M0 3 1) x1).bind fun m2 => gd ((m2 3 1) + 1) ((some (up m2 3 1 ((m2 3 1) + 1))).bind fun m5 => some (m5)) else some (M0)
def fN_addNumber_j32 (M : MemG) (x1 : Int) (x2 : Int) : Option ((Int × MemG) ⊕ (MemG)) := gq (x2) (10) (some (Sum.inl (x2 / 10, M)))
def fN_addNumber_j19 (M : MemG) (x1 : Int) (x2 : Int) : Option ((Int × MemG) ⊕ (MemG)) := gq (x1) (x2) (gq (x1 / x2) (10) (gd (48 + ((x1 / x2) % 10)) ((fN_addCode M (48 + ((x1 / x2) % 10))).bind fun m7 => fN_addNumber_j32 (m7) (x1) (x2))))
def fN_addNumber_l4 (x1 : Int) (z : (Int × MemG)) : Option ((Int × MemG) ⊕ (MemG)) := if z.1 < 1 then some (Sum.inr (z.2)) else if x1 < z.1 then if z.1 = 1 then fN_addNumber_j19 (z.2) (x1) (z.1) else fN_addNumber_j32 (z.2) (x1) (z.1) else fN_addNumber_j19 (z.2) (x1) (z.1)
def fN_addNumber (M0 : MemG) (x1 : Int) : Option (MemG) := loopN (fN_addNumber_l4 (x1)) 200 (1000, M0)
def fN_becomeEmpty (M0 : MemG) : Option (MemG) := (some (up M0 3 1 (0))).bind fun m1 => some (m1)
def fN_size (M0 : MemG) : Int := M0 3 1
def fG_tellRung_j108 (M : MemG) : Option (MemG × Int) := some ((M, (fN_size M)))
def fG_tellRung (M0 : MemG) (x1 : Int) : Option (MemG × Int) := if (fG_isRung x1) = 0 then some ((M0, (-11))) else (fN_becomeEmpty M0).bind fun m3 => (fN_addNumber m3 x1).bind fun m5 => (fN_addCode m5 58).bind fun m7 => (fG_firstBayOf x1).bind fun q9 => (fN_addNumber m7 q9).bind fun m11 => (fN_addCode m11 45).bind fun m13 => gd (x1 - 1) ((fN_addNumber m13 (x1 - 1)).bind fun m16 => (fN_addCode m16 61).bind fun m18 => (fN_addNumber m18 ((fW_sumOf m18 0 x1))).bind fun m21 => if (fW_isCracked m21 0 x1) = 0 then fG_tellRung_j108 (m21) else (fN_addCode m21 33).bind fun m27 => fG_tellRung_j108 (m27))
def fL_isRung_j165 (M : MemG) (t0 : Int) (t1 : Int) (t2 : Int) : Option (MemG × Int) := gd (t1 + t2) (if t0 = t1 + t2 then some ((M, 1)) else some ((M, 0)))
def fL_isRung_j128 (M : MemG) (x1 : Int) (x4 : Int) (x5 : Int) (t0 : Int) : Option (MemG × Int) := if t0 = x4 then (fG_character M x5).bind fun q36 => if q36 = (-11) then (fG_character M 0).bind fun q39 => if 9 < x1 then gq (x1) (10) (fL_isRung_j165 (M) (q39) (48) (x1 / 10)) else fL_isRung_j165 (M) (q39) (48) (x1) else some ((M, 0)) else some ((M, 0))
def fL_isRung_j110 (M : MemG) (x1 : Int) (x4 : Int) (x5 : Int) : Option (MemG × Int) := gd (x5 - 1) ((fG_character M (x5 - 1)).bind fun q31 => if q31 = 33 then fL_isRung_j128 (M) (x1) (x4) (x5) (1) else fL_isRung_j128 (M) (x1) (x4) (x5) (0))
def fL_isRung_j31 (M : MemG) (x1 : Int) (x2 : Int) (x3 : Int) (t0 : Int) : Option (MemG × Int) := (fG_tellRung M x1).bind fun q9 => (fG_rungOf q9.1 x1 0).bind fun q11 => if q11 = x2 then (fG_rungOf q9.1 x1 1).bind fun q14 => if q14 = x3 then (fG_rungOf q9.1 x1 2).bind fun q17 => gd (100 * x2) (if q17 = 100 * x2 then (fG_rungOf q9.1 x1 4).bind fun q21 => gd (x1 - x2) (if q21 = x1 - x2 then (fG_rungOf q9.1 x1 5).bind fun q25 => if shlI 1 q25 = x2 then if t0 = 0 then gd (100 * x2) (if 100 * x2 < x3 then some ((q9.1, 0)) else fL_isRung_j110 (q9.1) (x1) (t0) (q9.2)) else fL_isRung_j110 (q9.1) (x1) (t0) (q9.2) else some ((q9.1, 0)) else some ((q9.1, 0))) else some ((q9.1, 0))) else some ((q9.1, 0)) else some ((q9.1, 0))
def fL_isRung (M0 : MemG) (x1 : Int) : Option (MemG × Int) := gd (x1 - (andI x1 (-x1))) (gd (x1 - 1) ((fG_sumAgain M0 (x1 - (andI x1 (-x1))) (x1 - 1)).bind fun q3 => (fG_rungOf M0 x1 3).bind fun q5 => if q5 = 1 then fL_isRung_j31 (M0) (x1) (andI x1 (-x1)) (q3) (1) else fL_isRung_j31 (M0) (x1) (andI x1 (-x1)) (q3) (0)))
def fG_isBalanced_l2 (M0 : MemG) (z : (Int)) : Option ((Int) ⊕ (Unit ⊕ (Int))) := if 32 < z then some (Sum.inr (Sum.inl (()))) else (fG_firstBayOf z).bind fun q3 => gd (z - 1) ((fW_sumByBays M0 0 q3 (z - 1)).bind fun q6 => if (fW_sumOf M0 0 z) = q6 then gd (z + 1) (some (Sum.inl (z + 1))) else some (Sum.inr (Sum.inr (0))))
def fG_isBalanced (M0 : MemG) : Option (Int) := (loopN (fG_isBalanced_l2 (M0)) 200 (1)).bind fun q11 => (match q11 with | .inl w12 => (gd ((((fW_counted M0 0 9)) + ((fW_counted M0 0 10))) + ((fW_counted M0 0 11))) ((fW_allSacks M0 0).bind fun q18 => gd (((fW_counted M0 0 8)) - ((((fW_counted M0 0 9)) + ((fW_counted M0 0 10))) + ((fW_counted M0 0 11)))) (if q18 = ((fW_counted M0 0 8)) - ((((fW_counted M0 0 9)) + ((fW_counted M0 0 10))) + ((fW_counted M0 0 11))) then some (1) else some (0)))) | .inr w13 => some w13)
def fG_meanSacks (M0 : MemG) : Option (UInt64) := (fW_filledBays M0 0).bind fun q1 => if q1 = 0 then some (FP.dconst0) else (fW_allSacks M0 0).bind fun q4 => gdd (FP.ddiv (FP.i2d (i3 q4)) (FP.i2d (i3 q1))) (some (FP.ddiv (FP.i2d (i3 q4)) (FP.i2d (i3 q1))))
def fL_isFit_j76 (M : MemG) (x1 : Int) (x3 : Int) (x5 : Int) (t0 : Int) (t1 : Int) : Option ((Int × Int × Int × Int × MemG) ⊕ (Int × Int × Int × MemG)) := gd (t0 + t1) ((fL_isBay M x5).bind fun q15 => gd (x5 + 1) (some (Sum.inl (x1, t0 + t1, q15.2, x5 + 1, q15.1))))
def fL_isFit_l38 (x3 : Int) (z : (Int × Int × Int × Int × MemG)) : Option ((Int × Int × Int × Int × MemG) ⊕ (Int × Int × Int × MemG)) := if z.2.2.1 = 0 then some (Sum.inr ((z.1, z.2.1, z.2.2.1, z.2.2.2.2))) else if z.2.2.2.1 < 32 then (fG_bayOf z.2.2.2.2 z.2.2.2.1 1).bind fun q7 => gd (z.1 + q7) ((fG_bayOf z.2.2.2.2 z.2.2.2.1 1).bind fun q10 => if 0 < q10 then fL_isFit_j76 (z.2.2.2.2) (z.1 + q7) (x3) (z.2.2.2.1) (z.2.1) (1) else fL_isFit_j76 (z.2.2.2.2) (z.1 + q7) (x3) (z.2.2.2.1) (z.2.1) (0)) else some (Sum.inr ((z.1, z.2.1, z.2.2.1, z.2.2.2.2)))
def fL_isFit_l95 (x1 : Int) (x2 : Int) (z : (Int × Int × Int × MemG)) : Option ((Int × Int × Int × MemG) ⊕ (Int × Int × MemG)) := if z.2.1 = 0 then some (Sum.inr ((z.1, z.2.1, z.2.2.2))) else if z.2.2.1 < 33 then (fG_rungOf z.2.2.2 z.2.2.1 3).bind fun q25 => gd (z.1 + q25) ((fL_isRung z.2.2.2 z.2.2.1).bind fun q28 => gd (z.2.2.1 + 1) (some (Sum.inl (z.1 + q25, q28.2, z.2.2.1 + 1, q28.1)))) else some (Sum.inr ((z.1, z.2.1, z.2.2.2)))
def fL_isFit_j144 (M : MemG) (x1 : Int) (x2 : Int) (x3 : Int) (x4 : Int) (t0 : UInt64) : Option (MemG × Int) := if x4 = 0 then some ((M, 0)) else (fG_account M 3).bind fun q39 => if x1 = q39 then (fG_account M 2).bind fun q42 => if x2 = q42 then (fG_account M 13).bind fun q45 => if x3 = q45 then (fG_account M 4).bind fun q48 => (fG_account M 5).bind fun q50 => (fG_account M 6).bind fun q52 => (fG_account M 7).bind fun q54 => gd (((q48 + q50) + q52) + q54) (if x1 = ((q48 + q50) + q52) + q54 then (fG_account M 8).bind fun q58 => (fG_account M 9).bind fun q60 => (fG_account M 10).bind fun q62 => (fG_account M 11).bind fun q64 => gd (((q58 - q60) - q62) - q64) (if x1 = ((q58 - q60) - q62) - q64 then (fG_meanSacks M).bind fun q68 => if dcI q68 t0 = 0 then (fG_account M 1).bind fun q71 => if q71 < 0 then some ((M, 0)) else (fG_account M 14).bind fun q74 => if q74 < x3 then some ((M, 0)) else some ((M, 1)) else some ((M, 0)) else some ((M, 0))) else some ((M, 0))) else some ((M, 0)) else some ((M, 0)) else some ((M, 0))
def fL_isFit_j33 (M : MemG) (x1 : Int) (x2 : Int) (x3 : Int) (t0 : Int) : Option (MemG × Int) := (loopN (fL_isFit_l38 (x3)) 200 (x1, x2, t0, 0, M)).bind fun q19 => (loopN (fL_isFit_l95 (q19.1) (q19.2.1)) 200 (x3, q19.2.2.1, 1, q19.2.2.2)).bind fun q32 => if q19.2.1 = 0 then fL_isFit_j144 (q32.2.2) (q19.1) (q19.2.1) (q32.1) (q32.2.1) (FP.dconst0) else gdd (FP.ddiv (FP.i2d (i3 q19.1)) (FP.i2d (i3 q19.2.1))) (fL_isFit_j144 (q32.2.2) (q19.1) (q19.2.1) (q32.1) (q32.2.1) (FP.ddiv (FP.i2d (i3 q19.1)) (FP.i2d (i3 q19.2.1))))
def fL_isFit (M0 : MemG) : Option (MemG × Int) := (fL_areRanks M0).bind fun q1 => if q1 = 0 then fL_isFit_j33 (M0) (0) (0) (0) (0) else (fL_areReached M0).bind fun q77 => if q77 = 0 then fL_isFit_j33 (M0) (0) (0) (0) (0) else (fG_isBalanced M0).bind fun q80 => if q80 = 1 then fL_isFit_j33 (M0) (0) (0) (0) (1) else fL_isFit_j33 (M0) (0) (0) (0) (0)
def fW_cracksUnder_j44 (M0 : MemG) (k : Nat) (x2 : Int) (x3 : Int) (x4 : Int) : Option ((Int × Int) ⊕ (Int)) := gd (x3 + ((fG_sizeOf x3))) (gd (x4 + 1) (some (Sum.inl (x3 + ((fG_sizeOf x3)), x4 + 1))))
def fW_cracksUnder_l7 (M0 : MemG) (k : Nat) (x2 : Int) (z : (Int × Int)) : Option ((Int × Int) ⊕ (Int)) := if z.2 < 32 then if 32 < z.1 then some (Sum.inr (0)) else if (fW_isCracked M0 (k) z.1) = 0 then (fG_loadOf z.1).bind fun q11 => gd (((fW_sumOf M0 (k) z.1)) + x2) (if q11 < ((fW_sumOf M0 (k) z.1)) + x2 then some (Sum.inr (1)) else fW_cracksUnder_j44 (M0) (k) (x2) (z.1) (z.2)) else fW_cracksUnder_j44 (M0) (k) (x2) (z.1) (z.2) else some (Sum.inr (0))
def fW_cracksUnder (M0 : MemG) (k : Nat) (x1 : Int) (x2 : Int) : Option (Int) := gd (x1 + 1) (loopN (fW_cracksUnder_l7 (M0) (k) (x2)) 200 (x1 + 1, 0))
def fG_bestBay_j99 (M0 : MemG) (x1 : Int) (x2 : Int) (x3 : Int) (x4 : Int) : Option ((Int × Int) ⊕ (Int)) := gd (x4 + 1) (some (Sum.inl (x3, x4 + 1)))
def fG_bestBay_j85 (M0 : MemG) (x1 : Int) (x2 : Int) (x3 : Int) (x4 : Int) (x5 : Int) : Option ((Int × Int) ⊕ (Int)) := if x5 = 0 then fG_bestBay_j99 (M0) (x1) (x2) (x3) (x4) else if x3 = (-15) then fG_bestBay_j99 (M0) (x1) (x2) (x4) (x4) else fG_bestBay_j99 (M0) (x1) (x2) (x3) (x4)
def fG_bestBay_j63 (M0 : MemG) (x1 : Int) (x2 : Int) (x3 : Int) (x4 : Int) (t0 : Int) : Option ((Int × Int) ⊕ (Int)) := if t0 = 0 then fG_bestBay_j85 (M0) (x1) (x2) (x3) (x4) (t0) else if (fW_isEmpty M0 0 x4) = 0 then some (Sum.inr (x4)) else fG_bestBay_j85 (M0) (x1) (x2) (x3) (x4) (t0)
def fG_bestBay_l27 (M0 : MemG) (x1 : Int) (x2 : Int) (z : (Int × Int)) : Option ((Int × Int) ⊕ (Int)) := if z.2 < 32 then (fG_hasRoom M0 z.2 x1 x2).bind fun q6 => if q6 = 0 then fG_bestBay_j63 (M0) (x1) (x2) (z.1) (z.2) (0) else (fW_cracksUnder M0 0 z.2 x2).bind fun q18 => if q18 = 0 then fG_bestBay_j63 (M0) (x1) (x2) (z.1) (z.2) (1) else fG_bestBay_j63 (M0) (x1) (x2) (z.1) (z.2) (0) else some (Sum.inr (z.1))
def fG_bestBay (M0 : MemG) (x1 : Int) (x2 : Int) : Option (Int) := if (fG_isKind x1) = 0 then some ((-12)) else if (fG_isWithin x2 1 200) = 0 then some ((-12)) else loopN (fG_bestBay_l27 (M0) (x1) (x2)) 200 ((-15), 0)
def fL_isBest_j84 (M : MemG) (x3 : Int64) (t0 : Int) : Option (MemG × Int) := if t0 = 0 then some ((M, 0)) else (fG_undo M).bind fun q15 => if q15.2 < 0 then some ((q15.1, 0)) else (fL_digest q15.1).bind fun q18 => if lcI q18 x3 = 0 then some ((q15.1, 1)) else some ((q15.1, 0))
def fL_isBest_j47 (M : MemG) (x1 : Int) (x2 : Int) (x3 : Int64) (x5 : Int) (x6 : Int) : Option (MemG × Int) := (fG_store M x5 x1 x2).bind fun q10 => if q10.2 = 0 then (fG_bayOf q10.1 x5 1).bind fun q21 => gd (x6 + x2) (if q21 = x6 + x2 then (fL_isFit q10.1).bind fun q25 => if q25.2 = 0 then fL_isBest_j84 (q25.1) (x3) (0) else fL_isBest_j84 (q25.1) (x3) (1) else fL_isBest_j84 (q10.1) (x3) (0)) else fL_isBest_j84 (q10.1) (x3) (0)
def fL_isBest (M0 : MemG) (x1 : Int) (x2 : Int) : Option (MemG × Int) := (fL_digest M0).bind fun q1 => (fG_bestBay M0 x1 x2).bind fun q3 => if q3 = (-15) then some ((M0, 1)) else (fG_bayOf M0 q3 1).bind fun q6 => if q6 = 0 then fL_isBest_j47 (M0) (x1) (x2) (q1) (q3) (q6) else (fG_bayOf M0 q3 0).bind fun q28 => if q28 = x1 then fL_isBest_j47 (M0) (x1) (x2) (q1) (q3) (q6) else fL_isBest_j84 (M0) (q1) (0)
def fL_isPassed_l10 (M : MemG) (x1 : Int64) (z : (Int × Int)) : Option ((Int × Int) ⊕ (Int)) := if z.2 < 32 then (fG_bayOf M z.2 3).bind fun q4 => gd (z.1 + q4) (gd (z.2 + 1) (some (Sum.inl (z.1 + q4, z.2 + 1)))) else some (Sum.inr ((z.1)))
def fL_isPassed_j54 (M : MemG) (x1 : Int64) (t0 : Int) : Option (MemG × Int) := if t0 = 0 then some ((M, 0)) else (fG_undo M).bind fun q16 => if q16.2 < 0 then some ((q16.1, 0)) else (fL_digest q16.1).bind fun q19 => if lcI q19 x1 = 0 then some ((q16.1, 1)) else some ((q16.1, 0))
def fL_isPassed (M0 : MemG) : Option (MemG × Int) := (fL_digest M0).bind fun q1 => (loopN (fL_isPassed_l10 (M0) (q1)) 200 (0, 0)).bind fun q9 => (fG_pass M0 1).bind fun q11 => if q11.2 = q9 then (fL_isFit q11.1).bind fun q22 => if q22.2 = 0 then fL_isPassed_j54 (q22.1) (q1) (0) else fL_isPassed_j54 (q22.1) (q1) (1) else fL_isPassed_j54 (q11.1) (q1) (0)
def fG_price (x1 : Int) (x2 : Int) : Option (Int) := if (fG_isKind x1) = 0 then some ((-12)) else if (fG_isWithin x2 1 999) = 0 then some ((-12)) else (fG_coinsFor x1 x2).bind fun q5 => some (q5)
def fG_reason (M0 : MemG) (x1 : Int) : Int := if M0 0 7 = 0 then (-15) else if x1 = 0 then M0 0 7 else M0 0 8
def fL_isSold_j132 (M : MemG) (x3 : Int64) (t0 : Int) : Option (MemG × Int) := if t0 = 0 then some ((M, 0)) else (fG_undo M).bind fun q14 => if q14.2 < 0 then some ((q14.1, 0)) else (fL_digest q14.1).bind fun q17 => if lcI q17 x3 = 0 then some ((q14.1, 1)) else some ((q14.1, 0))
def fL_isSold (M0 : MemG) (x1 : Int) (x2 : Int) : Option (MemG × Int) := (fL_digest M0).bind fun q1 => gd (4 + x1) ((fG_account M0 (4 + x1)).bind fun q4 => (fG_account M0 1).bind fun q6 => (fG_order M0 x1 x2).bind fun q8 => if q8.2 = (-14) then if q4 < x2 then if (fG_reason q8.1 0) = 3 then if (fG_reason q8.1 1) = q4 then (fL_digest q8.1).bind fun q40 => if lcI q40 q1 = 0 then some ((q8.1, 1)) else some ((q8.1, 0)) else some ((q8.1, 0)) else some ((q8.1, 0)) else some ((q8.1, 0)) else if q4 < x2 then fL_isSold_j132 (q8.1) (q1) (0) else (fG_price x1 x2).bind fun q20 => if q8.2 = q20 then (fG_account q8.1 1).bind fun q23 => gd (q6 + q8.2) (if q23 = q6 + q8.2 then gd (4 + x1) ((fG_account q8.1 (4 + x1)).bind fun q28 => gd (q4 - x2) (if q28 = q4 - x2 then (fL_isFit q8.1).bind fun q32 => if q32.2 = 0 then fL_isSold_j132 (q32.1) (q1) (0) else fL_isSold_j132 (q32.1) (q1) (1) else fL_isSold_j132 (q8.1) (q1) (0))) else fL_isSold_j132 (q8.1) (q1) (0)) else fL_isSold_j132 (q8.1) (q1) (0))
end
section
set_option maxHeartbeats 4000000 in
set_option maxRecDepth 100000 in
theorem mI_bitCount_0f7a4 (l : Launch) (G : gG) (M0 : MemG) (x0 : Int) (hx0 : inR x0) (r : Int) (hf : fI_bitCount_0f7a4 x0 = some r) : Met l yJ6_bitCount_0f7a4 (wb yJ6_bitCount_0f7a4 cJ6_bitCount_0f7a4 1 (some .int)) ({ frames := 0, cells := 0, slots := 0, locals := 0 } : Room) (PcG G M0 [.int (i3 (x0))]) (QcI G M0 r) 0 0 (PA G) := by
  refine Met.ofW (cc := cJ6_bitCount_0f7a4) (maxL := 1) (ret := (some .int)) (by decide) rfl ?_
  intro p e s m args below meth c s₁ B hml hv0
  obtain ⟨hav, hW⟩ := hv0
  have hx := B.exec
  have hb := B.bytes
  have hr := B.returns
  have hts := atoms_spec (ws := (wb yJ6_bitCount_0f7a4 cJ6_bitCount_0f7a4 1 (some .int))) B.pre
  have hown : s.vm.findClass RJ6 = some m.cls := findClass_of_methodNamed B.named
  have hlocks := B.notSynchronized
  have hW : Wd G M0 s s.heap := hW
  have hS : va_S (PA G) s.heap s.heap [] := va_S.rf
  have hl := lv_entry [.int (i3 (x0))] (n := 1) (Nat.le_of_ble_eq_true rfl)
  have hent := lg_entry_eq m [.int (i3 (x0))] 1
  rw [← hav] at hent
  rw [hent]
  clear hent
  generalize (lg_sl [.int (i3 (x0))] ++ List.replicate (1 - (lg_sl [.int (i3 (x0))]).length) Slot.unset).toArray = ls at hl ⊢
  have hl : lv_has ls 1 [(0, .int (i3 (x0)))] := hl
  unfold fI_bitCount_0f7a4 at hf
  show W p l e ({ frames := 0, cells := 0, slots := 0, locals := 0 } : Room) s m args below meth c s.heap [] 0 0 (MQ below (QcI G M0 r) args s 0 0 (PA G)) (F0 m 0 ls [])
  refine lv_iload_n hx hb dJ6_bitCount_0f7a4_0 rfl (lv_at hl 0 rfl) ?_
  refine lv_iload_n hx hb dJ6_bitCount_0f7a4_1 rfl (lv_at hl 0 rfl) ?_
  refine k_const hx hb dJ6_bitCount_0f7a4_2 ?_
  refine k_ushr hx hb dJ6_bitCount_0f7a4_3 ?_
  refine lv_ldcw (v := i3 1431655765) hx hb hown (hts _ (List.mem_cons_of_mem _ (inB_24 _ (List.mem_of_getElem? (i := 12) rfl)))) dJ6_bitCount_0f7a4_4 ?_
  refine k_and hx hb dJ6_bitCount_0f7a4_7 ?_
  refine k_sub hx hb dJ6_bitCount_0f7a4_8 ?_
  obtain ⟨hg1, hf⟩ := gd_el hf
  refine lv_istore_n (lv' := [(0, .int (i3 (x0 - (andI (ushrI x0 1) 1431655765))))]) hx hb dJ6_bitCount_0f7a4_9 rfl hl (by decide) rfl (fun ls hl => ?_)
  refine lv_iload_n hx hb dJ6_bitCount_0f7a4_10 rfl (lv_at hl 0 rfl) ?_
  refine lv_ldcw (v := i3 858993459) hx hb hown (hts _ (List.mem_cons_of_mem _ (inB_24 _ (List.mem_of_getElem? (i := 13) rfl)))) dJ6_bitCount_0f7a4_11 ?_
  refine k_and hx hb dJ6_bitCount_0f7a4_14 ?_
  refine lv_iload_n hx hb dJ6_bitCount_0f7a4_15 rfl (lv_at hl 0 rfl) ?_
  refine k_const hx hb dJ6_bitCount_0f7a4_16 ?_
  refine k_ushr hx hb dJ6_bitCount_0f7a4_17 ?_
  refine lv_ldcw (v := i3 858993459) hx hb hown (hts _ (List.mem_cons_of_mem _ (inB_24 _ (List.mem_of_getElem? (i := 13) rfl)))) dJ6_bitCount_0f7a4_18 ?_
  refine k_and hx hb dJ6_bitCount_0f7a4_21 ?_
  refine k_add hx hb dJ6_bitCount_0f7a4_22 ?_
  obtain ⟨hg2, hf⟩ := gd_el hf
  refine lv_istore_n (lv' := [(0, .int (i3 ((andI (x0 - (andI (ushrI x0 1) 1431655765)) 858993459) + (andI (ushrI (x0 - (andI (ushrI x0 1) 1431655765)) 2) 858993459))))]) hx hb dJ6_bitCount_0f7a4_23 rfl hl (by decide) rfl (fun ls hl => ?_)
  refine lv_iload_n hx hb dJ6_bitCount_0f7a4_24 rfl (lv_at hl 0 rfl) ?_
  refine lv_iload_n hx hb dJ6_bitCount_0f7a4_25 rfl (lv_at hl 0 rfl) ?_
  refine k_const hx hb dJ6_bitCount_0f7a4_26 ?_
  refine k_ushr hx hb dJ6_bitCount_0f7a4_27 ?_
  refine k_add hx hb dJ6_bitCount_0f7a4_28 ?_
  refine lv_ldcw (v := i3 252645135) hx hb hown (hts _ (List.mem_cons_of_mem _ (inB_24 _ (List.mem_of_getElem? (i := 14) rfl)))) dJ6_bitCount_0f7a4_29 ?_
  refine k_and hx hb dJ6_bitCount_0f7a4_32 ?_
  refine lv_istore_n (lv' := [(0, .int (i3 (andI (((andI (x0 - (andI (ushrI x0 1) 1431655765)) 858993459) + (andI (ushrI (x0 - (andI (ushrI x0 1) 1431655765)) 2) 858993459)) + (ushrI ((andI (x0 - (andI (ushrI x0 1) 1431655765)) 858993459) + (andI (ushrI (x0 - (andI (ushrI x0 1) 1431655765)) 2) 858993459)) 4)) 252645135)))]) hx hb dJ6_bitCount_0f7a4_33 rfl hl (by decide) rfl (fun ls hl => ?_)
  refine lv_iload_n hx hb dJ6_bitCount_0f7a4_34 rfl (lv_at hl 0 rfl) ?_
  refine lv_iload_n hx hb dJ6_bitCount_0f7a4_35 rfl (lv_at hl 0 rfl) ?_
  refine k_bipush hx hb dJ6_bitCount_0f7a4_36 (by decide +kernel) ?_
  refine k_ushr hx hb dJ6_bitCount_0f7a4_38 ?_
  refine k_add hx hb dJ6_bitCount_0f7a4_39 ?_
  obtain ⟨hg3, hf⟩ := gd_el hf
  refine lv_istore_n (lv' := [(0, .int (i3 ((andI (((andI (x0 - (andI (ushrI x0 1) 1431655765)) 858993459) + (andI (ushrI (x0 - (andI (ushrI x0 1) 1431655765)) 2) 858993459)) + (ushrI ((andI (x0 - (andI (ushrI x0 1) 1431655765)) 858993459) + (andI (ushrI (x0 - (andI (ushrI x0 1) 1431655765)) 2) 858993459)) 4)) 252645135) + (ushrI (andI (((andI (x0 - (andI (ushrI x0 1) 1431655765)) 858993459) + (andI (ushrI (x0 - (andI (ushrI x0 1) 1431655765)) 2) 858993459)) + (ushrI ((andI (x0 - (andI (ushrI x0 1) 1431655765)) 858993459) + (andI (ushrI (x0 - (andI (ushrI x0 1) 1431655765)) 2) 858993459)) 4)) 252645135) 8))))]) hx hb dJ6_bitCount_0f7a4_40 rfl hl (by decide) rfl (fun ls hl => ?_)
  refine lv_iload_n hx hb dJ6_bitCount_0f7a4_41 rfl (lv_at hl 0 rfl) ?_
  refine lv_iload_n hx hb dJ6_bitCount_0f7a4_42 rfl (lv_at hl 0 rfl) ?_
  refine k_bipush hx hb dJ6_bitCount_0f7a4_43 (by decide +kernel) ?_
  refine k_ushr hx hb dJ6_bitCount_0f7a4_45 ?_
  refine k_add hx hb dJ6_bitCount_0f7a4_46 ?_
  obtain ⟨hg4, hf⟩ := gd_el hf
  refine lv_istore_n (lv' := [(0, .int (i3 (((andI (((andI (x0 - (andI (ushrI x0 1) 1431655765)) 858993459) + (andI (ushrI (x0 - (andI (ushrI x0 1) 1431655765)) 2) 858993459)) + (ushrI ((andI (x0 - (andI (ushrI x0 1) 1431655765)) 858993459) + (andI (ushrI (x0 - (andI (ushrI x0 1) 1431655765)) 2) 858993459)) 4)) 252645135) + (ushrI (andI (((andI (x0 - (andI (ushrI x0 1) 1431655765)) 858993459) + (andI (ushrI (x0 - (andI (ushrI x0 1) 1431655765)) 2) 858993459)) + (ushrI ((andI (x0 - (andI (ushrI x0 1) 1431655765)) 858993459) + (andI (ushrI (x0 - (andI (ushrI x0 1) 1431655765)) 2) 858993459)) 4)) 252645135) 8)) + (ushrI ((andI (((andI (x0 - (andI (ushrI x0 1) 1431655765)) 858993459) + (andI (ushrI (x0 - (andI (ushrI x0 1) 1431655765)) 2) 858993459)) + (ushrI ((andI (x0 - (andI (ushrI x0 1) 1431655765)) 858993459) + (andI (ushrI (x0 - (andI (ushrI x0 1) 1431655765)) 2) 858993459)) 4)) 252645135) + (ushrI (andI (((andI (x0 - (andI (ushrI x0 1) 1431655765)) 858993459) + (andI (ushrI (x0 - (andI (ushrI x0 1) 1431655765)) 2) 858993459)) + (ushrI ((andI (x0 - (andI (ushrI x0 1) 1431655765)) 858993459) + (andI (ushrI (x0 - (andI (ushrI x0 1) 1431655765)) 2) 858993459)) 4)) 252645135) 8)) 16))))]) hx hb dJ6_bitCount_0f7a4_47 rfl hl (by decide) rfl (fun ls hl => ?_)
  refine lv_iload_n hx hb dJ6_bitCount_0f7a4_48 rfl (lv_at hl 0 rfl) ?_
  refine k_bipush hx hb dJ6_bitCount_0f7a4_49 (by decide +kernel) ?_
  refine k_and hx hb dJ6_bitCount_0f7a4_51 ?_
  obtain rfl := some_el hf
  exact k_ret hx hb hr hlocks hW hS rfl (inR_toInt _) dJ6_bitCount_0f7a4_52
set_option maxHeartbeats 4000000 in
set_option maxRecDepth 100000 in
theorem mG_put (l : Launch) (G : gG) (M0 : MemG) (a : Nat) (ha : 16 ≤ a ∧ a < 86) (x1 : Int) (hx1 : inR x1) (x2 : Int) (hx2 : inR x2) (r : MemG) (hf : fG_put M0 a x1 x2 = some r) : Met l yX4_put (wb yX4_put cX4_put 3 none) ({ frames := 0, cells := 0, slots := 0, locals := 0 } : Room) (PcG G M0 [.ref (gA G (a)), .int (i3 (x1)), .int (i3 (x2))]) (QcV G r) 0 0 (PA G) := by
  refine Met.ofW (cc := cX4_put) (maxL := 3) (ret := none) (by decide) rfl ?_
  intro p e s m args below meth c s₁ B hml hv0
  obtain ⟨hav, hW⟩ := hv0
  have hx := B.exec
  have hb := B.bytes
  have hr := B.returns
  have hts := atoms_spec (ws := (wb yX4_put cX4_put 3 none)) B.pre
  have hown : s.vm.findClass RX4 = some m.cls := findClass_of_methodNamed B.named
  have hlocks := B.notSynchronized
  have hW : Wd G M0 s s.heap := hW
  have hS : va_S (PA G) s.heap s.heap [] := va_S.rf
  have hl := lv_entry [.ref (gA G (a)), .int (i3 (x1)), .int (i3 (x2))] (n := 3) (Nat.le_of_ble_eq_true rfl)
  have hent := lg_entry_eq m [.ref (gA G (a)), .int (i3 (x1)), .int (i3 (x2))] 3
  rw [← hav] at hent
  rw [hent]
  clear hent
  generalize (lg_sl [.ref (gA G (a)), .int (i3 (x1)), .int (i3 (x2))] ++ List.replicate (3 - (lg_sl [.ref (gA G (a)), .int (i3 (x1)), .int (i3 (x2))]).length) Slot.unset).toArray = ls at hl ⊢
  have hl : lv_has ls 3 [(0, .ref (gA G (a))), (1, .int (i3 (x1))), (2, .int (i3 (x2)))] := hl
  unfold fG_put at hf
  show W p l e ({ frames := 0, cells := 0, slots := 0, locals := 0 } : Room) s m args below meth c s.heap [] 0 0 (MQ below (QcV G r) args s 0 0 (PA G)) (F0 m 0 ls [])
  refine lv_iload_n hx hb dX4_put_0 rfl (lv_at hl 1 rfl) ?_
  refine k_if_lt (tgt := 14) hx hb hx1 dX4_put_1 (by decide) (fun hc1 => ?_) (fun hc1 => ?_)
  · rw [if_pos hc1] at hf
    obtain rfl := some_el hf
    exact k_retv hx hb hr hlocks hW hS rfl dX4_put_14
  · rw [if_neg hc1] at hf
    refine lv_iload_n hx hb dX4_put_4 rfl (lv_at hl 1 rfl) ?_
    refine lv_aload_n hx hb dX4_put_5 rfl (lv_at hl 0 rfl) ?_
    refine k_len hx hb hW (by omega) dX4_put_6 ?_
    refine k_icmp_ge (tgt := 14) hx hb hx1 (inR_len _) dX4_put_7 (by decide) (fun hc2 => ?_) (fun hc2 => ?_)
    · rw [if_neg hc2] at hf
      obtain rfl := some_el hf
      exact k_retv hx hb hr hlocks hW hS rfl dX4_put_14
    · rw [if_pos hc2] at hf
      refine lv_aload_n hx hb dX4_put_10 rfl (lv_at hl 0 rfl) ?_
      refine lv_iload_n hx hb dX4_put_11 rfl (lv_at hl 1 rfl) ?_
      refine lv_iload_n hx hb dX4_put_12 rfl (lv_at hl 2 rfl) ?_
      obtain ⟨m3, hm3, hf⟩ := bind_el hf
      replace hm3 := some_el hm3
      refine k_ast hx hb hW hS (by omega) hx1 (by omega) (by omega) hx2 dX4_put_13 (fun H locs hW hS => ?_)
      rw [hm3] at hW
      obtain rfl := some_el hf
      exact k_retv hx hb hr hlocks hW hS rfl dX4_put_14
set_option maxHeartbeats 4000000 in
set_option maxRecDepth 100000 in
theorem mG_isWithin (l : Launch) (G : gG) (M0 : MemG) (x0 : Int) (hx0 : inR x0) (x1 : Int) (hx1 : inR x1) (x2 : Int) (hx2 : inR x2) (r : Int) (hf : fG_isWithin x0 x1 x2 = r) : Met l yX4_isWithin (wb yX4_isWithin cX4_isWithin 3 (some .boolean)) ({ frames := 0, cells := 0, slots := 0, locals := 0 } : Room) (PcG G M0 [.int (i3 (x0)), .int (i3 (x1)), .int (i3 (x2))]) (QcZ G M0 r) 0 0 (PA G) := by
  refine Met.ofW (cc := cX4_isWithin) (maxL := 3) (ret := (some .boolean)) (by decide) rfl ?_
  intro p e s m args below meth c s₁ B hml hv0
  obtain ⟨hav, hW⟩ := hv0
  have hx := B.exec
  have hb := B.bytes
  have hr := B.returns
  have hts := atoms_spec (ws := (wb yX4_isWithin cX4_isWithin 3 (some .boolean))) B.pre
  have hown : s.vm.findClass RX4 = some m.cls := findClass_of_methodNamed B.named
  have hlocks := B.notSynchronized
  have hW : Wd G M0 s s.heap := hW
  have hS : va_S (PA G) s.heap s.heap [] := va_S.rf
  have hl := lv_entry [.int (i3 (x0)), .int (i3 (x1)), .int (i3 (x2))] (n := 3) (Nat.le_of_ble_eq_true rfl)
  have hent := lg_entry_eq m [.int (i3 (x0)), .int (i3 (x1)), .int (i3 (x2))] 3
  rw [← hav] at hent
  rw [hent]
  clear hent
  generalize (lg_sl [.int (i3 (x0)), .int (i3 (x1)), .int (i3 (x2))] ++ List.replicate (3 - (lg_sl [.int (i3 (x0)), .int (i3 (x1)), .int (i3 (x2))]).length) Slot.unset).toArray = ls at hl ⊢
  have hl : lv_has ls 3 [(0, .int (i3 (x0))), (1, .int (i3 (x1))), (2, .int (i3 (x2)))] := hl
  unfold fG_isWithin at hf
  show W p l e ({ frames := 0, cells := 0, slots := 0, locals := 0 } : Room) s m args below meth c s.heap [] 0 0 (MQ below (QcZ G M0 r) args s 0 0 (PA G)) (F0 m 0 ls [])
  refine lv_iload_n hx hb dX4_isWithin_0 rfl (lv_at hl 0 rfl) ?_
  refine lv_iload_n hx hb dX4_isWithin_1 rfl (lv_at hl 1 rfl) ?_
  refine k_icmp_lt (tgt := 14) hx hb hx0 hx1 dX4_isWithin_2 (by decide) (fun hc1 => ?_) (fun hc1 => ?_)
  · rw [if_pos hc1] at hf
    refine k_const hx hb dX4_isWithin_14 ?_
    subst hf
    exact k_retz hx hb hr hlocks hW hS rfl (show (0 : Int) = 0 ∨ (0 : Int) = 1 by decide) dX4_isWithin_15
  · rw [if_neg hc1] at hf
    refine lv_iload_n hx hb dX4_isWithin_5 rfl (lv_at hl 0 rfl) ?_
    refine lv_iload_n hx hb dX4_isWithin_6 rfl (lv_at hl 2 rfl) ?_
    refine k_icmp_gt (tgt := 14) hx hb hx0 hx2 dX4_isWithin_7 (by decide) (fun hc2 => ?_) (fun hc2 => ?_)
    · rw [if_pos hc2] at hf
      refine k_const hx hb dX4_isWithin_14 ?_
      subst hf
      exact k_retz hx hb hr hlocks hW hS rfl (show (0 : Int) = 0 ∨ (0 : Int) = 1 by decide) dX4_isWithin_15
    · rw [if_neg hc2] at hf
      refine k_const hx hb dX4_isWithin_10 ?_
      refine lv_goto (tgt := 15) hx hb dX4_isWithin_11 (by decide) ?_
      subst hf
      exact k_retz hx hb hr hlocks hW hS rfl (show (1 : Int) = 0 ∨ (1 : Int) = 1 by decide) dX4_isWithin_15
set_option maxHeartbeats 4000000 in
set_option maxRecDepth 100000 in
theorem mG_copyRow (l : Launch) (G : gG) (M0 : MemG) (a : Nat) (ha : 16 ≤ a ∧ a < 86) (b : Nat) (hb : 16 ≤ b ∧ b < 86) (r : MemG) (hf : fG_copyRow M0 a b = some r) : Met l yX4_copyRow (wb yX4_copyRow cX4_copyRow 3 none) ({ frames := 0, cells := 0, slots := 0, locals := 0 } : Room) (PcG G M0 [.ref (gA G (a)), .ref (gA G (b))]) (QcV G r) 0 0 (PA G) := by
  refine Met.ofW (cc := cX4_copyRow) (maxL := 3) (ret := none) (by decide) rfl ?_
  intro p e s m args below meth c s₁ B hml hv0
  obtain ⟨hav, hW⟩ := hv0
  have hx := B.exec
  have hb := B.bytes
  have hr := B.returns
  have hts := atoms_spec (ws := (wb yX4_copyRow cX4_copyRow 3 none)) B.pre
  have hown : s.vm.findClass RX4 = some m.cls := findClass_of_methodNamed B.named
  have hlocks := B.notSynchronized
  have hW : Wd G M0 s s.heap := hW
  have hS : va_S (PA G) s.heap s.heap [] := va_S.rf
  have hl := lv_entry [.ref (gA G (a)), .ref (gA G (b))] (n := 3) (Nat.le_of_ble_eq_true rfl)
  have hent := lg_entry_eq m [.ref (gA G (a)), .ref (gA G (b))] 3
  rw [← hav] at hent
  rw [hent]
  clear hent
  generalize (lg_sl [.ref (gA G (a)), .ref (gA G (b))] ++ List.replicate (3 - (lg_sl [.ref (gA G (a)), .ref (gA G (b))]).length) Slot.unset).toArray = ls at hl ⊢
  have hl : lv_has ls 3 [(0, .ref (gA G (a))), (1, .ref (gA G (b)))] := hl
  unfold fG_copyRow at hf
  show W p l e ({ frames := 0, cells := 0, slots := 0, locals := 0 } : Room) s m args below meth c s.heap [] 0 0 (MQ below (QcV G r) args s 0 0 (PA G)) (F0 m 0 ls [])
  have L6 : ∀ (z : (Int × MemG)) (q : (MemG)), loopN (fG_copyRow_l2 a b) 200 z = some q → (q = r) → (inR (z.1) → ∀ (H : Heap) (locs : List Loc) (ls : Array Slot), Wd G (z.2) s H → va_S (PA G) s.heap H locs → lv_has ls 3 [(0, .ref (gA G (a))), (1, .ref (gA G (b))), (2, .int (i3 (z.1)))] → W p l e ({ frames := 0, cells := 0, slots := 0, locals := 0 } : Room) s m args below meth c H locs 0 0 (MQ below (QcV G r) args s 0 0 (PA G)) (F0 m 2 ls [])) := by
    intro z q hq hex
    refine loop_rule (fG_copyRow_l2 a b) (fun z => inR (z.1) → ∀ (H : Heap) (locs : List Loc) (ls : Array Slot), Wd G (z.2) s H → va_S (PA G) s.heap H locs → lv_has ls 3 [(0, .ref (gA G (a))), (1, .ref (gA G (b))), (2, .int (i3 (z.1)))] → W p l e ({ frames := 0, cells := 0, slots := 0, locals := 0 } : Room) s m args below meth c H locs 0 0 (MQ below (QcV G r) args s 0 0 (PA G)) (F0 m 2 ls [])) (fun q => (q = r)) ?_ 200 z q hq hex
    clear hq hex q z
    intro z x hf hK hz2 H locs ls hW hS hl
    unfold fG_copyRow_l2 at hf
    refine lv_iload_n hx hb dX4_copyRow_2 rfl (lv_at hl 2 rfl) ?_
    refine lv_aload_n hx hb dX4_copyRow_3 rfl (lv_at hl 0 rfl) ?_
    refine k_len hx hb hW (by omega) dX4_copyRow_4 ?_
    refine k_icmp_ge (tgt := 26) hx hb hz2 (inR_len _) dX4_copyRow_5 (by decide) (fun hc1 => ?_) (fun hc1 => ?_)
    · rw [if_neg hc1] at hf
      obtain rfl := some_el hf
      obtain rfl : z.2 = r := hK
      exact k_retv hx hb hr hlocks hW hS rfl dX4_copyRow_26
    · rw [if_pos hc1] at hf
      refine lv_iload_n hx hb dX4_copyRow_8 rfl (lv_at hl 2 rfl) ?_
      refine lv_aload_n hx hb dX4_copyRow_9 rfl (lv_at hl 1 rfl) ?_
      refine k_len hx hb hW (by omega) dX4_copyRow_10 ?_
      refine k_icmp_ge (tgt := 26) hx hb hz2 (inR_len _) dX4_copyRow_11 (by decide) (fun hc2 => ?_) (fun hc2 => ?_)
      · rw [if_neg hc2] at hf
        obtain rfl := some_el hf
        obtain rfl : z.2 = r := hK
        exact k_retv hx hb hr hlocks hW hS rfl dX4_copyRow_26
      · rw [if_pos hc2] at hf
        refine lv_aload_n hx hb dX4_copyRow_14 rfl (lv_at hl 1 rfl) ?_
        refine lv_iload_n hx hb dX4_copyRow_15 rfl (lv_at hl 2 rfl) ?_
        refine lv_aload_n hx hb dX4_copyRow_16 rfl (lv_at hl 0 rfl) ?_
        refine lv_iload_n hx hb dX4_copyRow_17 rfl (lv_at hl 2 rfl) ?_
        obtain ⟨hg3, hf⟩ := gx_el hf
        refine k_ald hx hb hW (by omega) hz2 (by omega) (by omega) dX4_copyRow_18 ?_
        obtain ⟨m4, hm4, hf⟩ := bind_el hf
        replace hm4 := some_el hm4
        refine k_ast hx hb hW hS (by omega) hz2 (by omega) (by omega) (hW.R _ _) dX4_copyRow_19 (fun H locs hW hS => ?_)
        rw [hm4] at hW
        obtain ⟨hg5, hf⟩ := gd_el hf
        refine k_iinc (lv' := [(2, .int (i3 (z.1 + 1))), (0, .ref (gA G (a))), (1, .ref (gA G (b)))]) hx hb dX4_copyRow_20 hl (k := 2) rfl (by decide) rfl (fun ls hl => ?_)
        refine lv_goto (tgt := 2) hx hb dX4_copyRow_23 (by decide) ?_
        obtain rfl := some_el hf
        exact hK hg5 _ _ _ hW hS (lv_sub hl [1, 2, 0] rfl)
  refine k_const hx hb dX4_copyRow_0 ?_
  refine lv_istore_n (lv' := [(2, .int (i3 (0))), (0, .ref (gA G (a))), (1, .ref (gA G (b)))]) hx hb dX4_copyRow_1 rfl hl (by decide) rfl (fun ls hl => ?_)
  exact L6  (0, M0) r hf rfl (show inR (0) by decide) _ _ _ hW hS (lv_sub hl [1, 2, 0] rfl)
set_option maxHeartbeats 4000000 in
set_option maxRecDepth 100000 in
theorem mG_at (l : Launch) (G : gG) (M0 : MemG) (a : Nat) (ha : 16 ≤ a ∧ a < 86) (x1 : Int) (hx1 : inR x1) (r : Int) (hf : fG_at M0 a x1 = r) : Met l yX4_at (wb yX4_at cX4_at 2 (some .int)) ({ frames := 0, cells := 0, slots := 0, locals := 0 } : Room) (PcG G M0 [.ref (gA G (a)), .int (i3 (x1))]) (QcI G M0 r) 0 0 (PA G) := by
  refine Met.ofW (cc := cX4_at) (maxL := 2) (ret := (some .int)) (by decide) rfl ?_
  intro p e s m args below meth c s₁ B hml hv0
  obtain ⟨hav, hW⟩ := hv0
  have hx := B.exec
  have hb := B.bytes
  have hr := B.returns
  have hts := atoms_spec (ws := (wb yX4_at cX4_at 2 (some .int))) B.pre
  have hown : s.vm.findClass RX4 = some m.cls := findClass_of_methodNamed B.named
  have hlocks := B.notSynchronized
  have hW : Wd G M0 s s.heap := hW
  have hS : va_S (PA G) s.heap s.heap [] := va_S.rf
  have hl := lv_entry [.ref (gA G (a)), .int (i3 (x1))] (n := 2) (Nat.le_of_ble_eq_true rfl)
  have hent := lg_entry_eq m [.ref (gA G (a)), .int (i3 (x1))] 2
  rw [← hav] at hent
  rw [hent]
  clear hent
  generalize (lg_sl [.ref (gA G (a)), .int (i3 (x1))] ++ List.replicate (2 - (lg_sl [.ref (gA G (a)), .int (i3 (x1))]).length) Slot.unset).toArray = ls at hl ⊢
  have hl : lv_has ls 2 [(0, .ref (gA G (a))), (1, .int (i3 (x1)))] := hl
  unfold fG_at at hf
  show W p l e ({ frames := 0, cells := 0, slots := 0, locals := 0 } : Room) s m args below meth c s.heap [] 0 0 (MQ below (QcI G M0 r) args s 0 0 (PA G)) (F0 m 0 ls [])
  refine lv_iload_n hx hb dX4_at_0 rfl (lv_at hl 1 rfl) ?_
  refine k_if_lt (tgt := 16) hx hb hx1 dX4_at_1 (by decide) (fun hc1 => ?_) (fun hc1 => ?_)
  · rw [if_pos hc1] at hf
    refine k_const hx hb dX4_at_16 ?_
    subst hf
    exact k_ret hx hb hr hlocks hW hS rfl (show inR (0) by decide) dX4_at_17
  · rw [if_neg hc1] at hf
    refine lv_iload_n hx hb dX4_at_4 rfl (lv_at hl 1 rfl) ?_
    refine lv_aload_n hx hb dX4_at_5 rfl (lv_at hl 0 rfl) ?_
    refine k_len hx hb hW (by omega) dX4_at_6 ?_
    refine k_icmp_ge (tgt := 16) hx hb hx1 (inR_len _) dX4_at_7 (by decide) (fun hc2 => ?_) (fun hc2 => ?_)
    · rw [if_neg hc2] at hf
      refine k_const hx hb dX4_at_16 ?_
      subst hf
      exact k_ret hx hb hr hlocks hW hS rfl (show inR (0) by decide) dX4_at_17
    · rw [if_pos hc2] at hf
      refine lv_aload_n hx hb dX4_at_10 rfl (lv_at hl 0 rfl) ?_
      refine lv_iload_n hx hb dX4_at_11 rfl (lv_at hl 1 rfl) ?_
      refine k_ald hx hb hW (by omega) hx1 (by omega) (by omega) dX4_at_12 ?_
      refine lv_goto (tgt := 17) hx hb dX4_at_13 (by decide) ?_
      subst hf
      exact k_ret hx hb hr hlocks hW hS rfl (hW.R _ _) dX4_at_17
set_option maxHeartbeats 4000000 in
set_option maxRecDepth 100000 in
theorem mG_atS (l : Launch) (G : gG) (M0 : MemG) (a : Nat) (ht86 : ∀ (U : State) (H : Heap), StG G U H → va_T .int (gA G a) 4 (fun j => .int (i3 (tabS a j))) (PA G) U H) (x1 : Int) (hx1 : inR x1) (r : Int) (hf : fG_atS a x1 = r) : Met l yX4_at (wb yX4_at cX4_at 2 (some .int)) ({ frames := 0, cells := 0, slots := 0, locals := 0 } : Room) (PcG G M0 [.ref (gA G (a)), .int (i3 (x1))]) (QcI G M0 r) 0 0 (PA G) := by
  refine Met.ofW (cc := cX4_at) (maxL := 2) (ret := (some .int)) (by decide) rfl ?_
  intro p e s m args below meth c s₁ B hml hv0
  obtain ⟨hav, hW⟩ := hv0
  have hx := B.exec
  have hb := B.bytes
  have hr := B.returns
  have hts := atoms_spec (ws := (wb yX4_at cX4_at 2 (some .int))) B.pre
  have hown : s.vm.findClass RX4 = some m.cls := findClass_of_methodNamed B.named
  have hlocks := B.notSynchronized
  have hW : Wd G M0 s s.heap := hW
  have hS : va_S (PA G) s.heap s.heap [] := va_S.rf
  have ht86 := ht86 s s.heap hW.S
  have hl := lv_entry [.ref (gA G (a)), .int (i3 (x1))] (n := 2) (Nat.le_of_ble_eq_true rfl)
  have hent := lg_entry_eq m [.ref (gA G (a)), .int (i3 (x1))] 2
  rw [← hav] at hent
  rw [hent]
  clear hent
  generalize (lg_sl [.ref (gA G (a)), .int (i3 (x1))] ++ List.replicate (2 - (lg_sl [.ref (gA G (a)), .int (i3 (x1))]).length) Slot.unset).toArray = ls at hl ⊢
  have hl : lv_has ls 2 [(0, .ref (gA G (a))), (1, .int (i3 (x1)))] := hl
  unfold fG_atS at hf
  show W p l e ({ frames := 0, cells := 0, slots := 0, locals := 0 } : Room) s m args below meth c s.heap [] 0 0 (MQ below (QcI G M0 r) args s 0 0 (PA G)) (F0 m 0 ls [])
  refine lv_iload_n hx hb dX4_at_0 rfl (lv_at hl 1 rfl) ?_
  refine k_if_lt (tgt := 16) hx hb hx1 dX4_at_1 (by decide) (fun hc1 => ?_) (fun hc1 => ?_)
  · rw [if_pos hc1] at hf
    refine k_const hx hb dX4_at_16 ?_
    subst hf
    exact k_ret hx hb hr hlocks hW hS rfl (show inR (0) by decide) dX4_at_17
  · rw [if_neg hc1] at hf
    refine lv_iload_n hx hb dX4_at_4 rfl (lv_at hl 1 rfl) ?_
    refine lv_aload_n hx hb dX4_at_5 rfl (lv_at hl 0 rfl) ?_
    refine k_tlen (v := 4) hx hb ht86 rfl dX4_at_6 ?_
    refine k_icmp_ge (tgt := 16) hx hb hx1 (by decide) dX4_at_7 (by decide) (fun hc2 => ?_) (fun hc2 => ?_)
    · rw [if_neg hc2] at hf
      refine k_const hx hb dX4_at_16 ?_
      subst hf
      exact k_ret hx hb hr hlocks hW hS rfl (show inR (0) by decide) dX4_at_17
    · rw [if_pos hc2] at hf
      refine lv_aload_n hx hb dX4_at_10 rfl (lv_at hl 0 rfl) ?_
      refine lv_iload_n hx hb dX4_at_11 rfl (lv_at hl 1 rfl) ?_
      refine k_ti (N := 4) (f := tabS a) hx hb ht86 hx1 (by omega) (by omega) dX4_at_12 ?_
      refine lv_goto (tgt := 17) hx hb dX4_at_13 (by decide) ?_
      subst hf
      exact k_ret hx hb hr hlocks hW hS rfl (inR_tab _ _) dX4_at_17
set_option maxHeartbeats 4000000 in
set_option maxRecDepth 100000 in
theorem mG_isRung (l : Launch) (G : gG) (M0 : MemG) (x0 : Int) (hx0 : inR x0) (r : Int) (hf : fG_isRung x0 = r) : Met l yX4_isRung (wb yX4_isRung cX4_isRung 1 (some .boolean)) ({ frames := 1, cells := 0, slots := 0, locals := 22 } : Room) (PcG G M0 [.int (i3 (x0))]) (QcZ G M0 r) 0 0 (PA G) := by
  refine Met.ofW (cc := cX4_isRung) (maxL := 1) (ret := (some .boolean)) (by decide) rfl ?_
  intro p e s m args below meth c s₁ B hml hv0
  obtain ⟨hav, hW⟩ := hv0
  have hx := B.exec
  have hb := B.bytes
  have hr := B.returns
  have hts := atoms_spec (ws := (wb yX4_isRung cX4_isRung 1 (some .boolean))) B.pre
  have hown : s.vm.findClass RX4 = some m.cls := findClass_of_methodNamed B.named
  have hlocks := B.notSynchronized
  have hW : Wd G M0 s s.heap := hW
  have hS : va_S (PA G) s.heap s.heap [] := va_S.rf
  have hl := lv_entry [.int (i3 (x0))] (n := 1) (Nat.le_of_ble_eq_true rfl)
  have hent := lg_entry_eq m [.int (i3 (x0))] 1
  rw [← hav] at hent
  rw [hent]
  clear hent
  generalize (lg_sl [.int (i3 (x0))] ++ List.replicate (1 - (lg_sl [.int (i3 (x0))]).length) Slot.unset).toArray = ls at hl ⊢
  have hl : lv_has ls 1 [(0, .int (i3 (x0)))] := hl
  unfold fG_isRung at hf
  show W p l e ({ frames := 1, cells := 0, slots := 0, locals := 22 } : Room) s m args below meth c s.heap [] 0 0 (MQ below (QcZ G M0 r) args s 0 0 (PA G)) (F0 m 0 ls [])
  refine lv_iload_n hx hb dX4_isRung_0 rfl (lv_at hl 0 rfl) ?_
  refine k_const hx hb dX4_isRung_1 ?_
  refine k_bipush hx hb dX4_isRung_2 (by decide +kernel) ?_
  refine k_cSz (As := [.int (i3 (x0)), .int (i3 (1)), .int (i3 (32))]) (rest := []) ⟨hx, hb, hml, hown, hts⟩ (mG_isWithin l G M0 x0 hx0 1 (show inR (1) by decide) 32 (show inR (32) by decide) _ rfl) (va_cwS 3 hts (gbS (inB_4 _ (List.mem_of_getElem? (i := 11) rfl)) (inB_4 _ (List.mem_of_getElem? (i := 12) rfl)) (inB_1 _ (List.mem_of_getElem? (i := 2) rfl)) (inB_4 _ (List.mem_of_getElem? (i := 13) rfl))) rfl rfl rfl (by decide +kernel) ⟨Nat.le_of_ble_eq_true rfl, Nat.le_of_ble_eq_true rfl⟩) hW hS rfl hl.1 rfl (lv_room (Nat.le_of_ble_eq_true rfl)) dX4_isRung_4 ⟨Nat.zero_le _, Nat.zero_le _⟩ (fun hv1 H locs hW hS => ?_)
  subst hf
  exact k_retz hx hb hr hlocks hW hS rfl hv1 dX4_isRung_7
set_option maxHeartbeats 4000000 in
set_option maxRecDepth 100000 in
theorem mG_sizeOf (l : Launch) (G : gG) (M0 : MemG) (x0 : Int) (hx0 : inR x0) (r : Int) (hf : fG_sizeOf x0 = r) : Met l yX4_sizeOf (wb yX4_sizeOf cX4_sizeOf 1 (some .int)) ({ frames := 0, cells := 0, slots := 0, locals := 0 } : Room) (PcG G M0 [.int (i3 (x0))]) (QcI G M0 r) 0 0 (PA G) := by
  refine Met.ofW (cc := cX4_sizeOf) (maxL := 1) (ret := (some .int)) (by decide) rfl ?_
  intro p e s m args below meth c s₁ B hml hv0
  obtain ⟨hav, hW⟩ := hv0
  have hx := B.exec
  have hb := B.bytes
  have hr := B.returns
  have hts := atoms_spec (ws := (wb yX4_sizeOf cX4_sizeOf 1 (some .int))) B.pre
  have hown : s.vm.findClass RX4 = some m.cls := findClass_of_methodNamed B.named
  have hlocks := B.notSynchronized
  have hW : Wd G M0 s s.heap := hW
  have hS : va_S (PA G) s.heap s.heap [] := va_S.rf
  have hl := lv_entry [.int (i3 (x0))] (n := 1) (Nat.le_of_ble_eq_true rfl)
  have hent := lg_entry_eq m [.int (i3 (x0))] 1
  rw [← hav] at hent
  rw [hent]
  clear hent
  generalize (lg_sl [.int (i3 (x0))] ++ List.replicate (1 - (lg_sl [.int (i3 (x0))]).length) Slot.unset).toArray = ls at hl ⊢
  have hl : lv_has ls 1 [(0, .int (i3 (x0)))] := hl
  unfold fG_sizeOf at hf
  show W p l e ({ frames := 0, cells := 0, slots := 0, locals := 0 } : Room) s m args below meth c s.heap [] 0 0 (MQ below (QcI G M0 r) args s 0 0 (PA G)) (F0 m 0 ls [])
  refine lv_iload_n hx hb dX4_sizeOf_0 rfl (lv_at hl 0 rfl) ?_
  refine lv_iload_n hx hb dX4_sizeOf_1 rfl (lv_at hl 0 rfl) ?_
  refine k_neg hx hb dX4_sizeOf_2 ?_
  refine k_and hx hb dX4_sizeOf_3 ?_
  subst hf
  exact k_ret hx hb hr hlocks hW hS rfl (inR_toInt _) dX4_sizeOf_4
set_option maxHeartbeats 4000000 in
set_option maxRecDepth 100000 in
theorem mG_loadOf (l : Launch) (G : gG) (M0 : MemG) (x0 : Int) (hx0 : inR x0) (r : Int) (hf : fG_loadOf x0 = some r) : Met l yX4_loadOf (wb yX4_loadOf cX4_loadOf 1 (some .int)) ({ frames := 1, cells := 0, slots := 0, locals := 20 } : Room) (PcG G M0 [.int (i3 (x0))]) (QcI G M0 r) 0 0 (PA G) := by
  refine Met.ofW (cc := cX4_loadOf) (maxL := 1) (ret := (some .int)) (by decide) rfl ?_
  intro p e s m args below meth c s₁ B hml hv0
  obtain ⟨hav, hW⟩ := hv0
  have hx := B.exec
  have hb := B.bytes
  have hr := B.returns
  have hts := atoms_spec (ws := (wb yX4_loadOf cX4_loadOf 1 (some .int))) B.pre
  have hown : s.vm.findClass RX4 = some m.cls := findClass_of_methodNamed B.named
  have hlocks := B.notSynchronized
  have hW : Wd G M0 s s.heap := hW
  have hS : va_S (PA G) s.heap s.heap [] := va_S.rf
  have hl := lv_entry [.int (i3 (x0))] (n := 1) (Nat.le_of_ble_eq_true rfl)
  have hent := lg_entry_eq m [.int (i3 (x0))] 1
  rw [← hav] at hent
  rw [hent]
  clear hent
  generalize (lg_sl [.int (i3 (x0))] ++ List.replicate (1 - (lg_sl [.int (i3 (x0))]).length) Slot.unset).toArray = ls at hl ⊢
  have hl : lv_has ls 1 [(0, .int (i3 (x0)))] := hl
  unfold fG_loadOf at hf
  show W p l e ({ frames := 1, cells := 0, slots := 0, locals := 20 } : Room) s m args below meth c s.heap [] 0 0 (MQ below (QcI G M0 r) args s 0 0 (PA G)) (F0 m 0 ls [])
  refine k_bipush hx hb dX4_loadOf_0 (by decide +kernel) ?_
  refine lv_iload_n hx hb dX4_loadOf_2 rfl (lv_at hl 0 rfl) ?_
  refine k_cSi (As := [.int (i3 (x0))]) (rest := [.int (i3 (100))]) ⟨hx, hb, hml, hown, hts⟩ (mG_sizeOf l G M0 x0 hx0 _ rfl) (va_cwS 1 hts (gbS (inB_7 _ (List.mem_of_getElem? (i := 5) rfl)) (inB_6 _ (List.mem_of_getElem? (i := 13) rfl)) (inB_1 _ (List.mem_of_getElem? (i := 2) rfl)) (inB_6 _ (List.mem_of_getElem? (i := 14) rfl))) rfl rfl rfl (by decide +kernel) ⟨Nat.le_of_ble_eq_true rfl, Nat.le_of_ble_eq_true rfl⟩) hW hS rfl hl.1 rfl (lv_room (Nat.le_of_ble_eq_true rfl)) dX4_loadOf_3 ⟨Nat.zero_le _, Nat.zero_le _⟩ (fun hv1 H locs hW hS => ?_)
  refine k_mul hx hb dX4_loadOf_6 ?_
  obtain ⟨hg2, hf⟩ := gd_el hf
  obtain rfl := some_el hf
  exact k_ret hx hb hr hlocks hW hS rfl hg2 dX4_loadOf_7
set_option maxHeartbeats 4000000 in
set_option maxRecDepth 100000 in
theorem mG_isBay (l : Launch) (G : gG) (M0 : MemG) (x0 : Int) (hx0 : inR x0) (r : Int) (hf : fG_isBay x0 = r) : Met l yX4_isBay (wb yX4_isBay cX4_isBay 1 (some .boolean)) ({ frames := 1, cells := 0, slots := 0, locals := 22 } : Room) (PcG G M0 [.int (i3 (x0))]) (QcZ G M0 r) 0 0 (PA G) := by
  refine Met.ofW (cc := cX4_isBay) (maxL := 1) (ret := (some .boolean)) (by decide) rfl ?_
  intro p e s m args below meth c s₁ B hml hv0
  obtain ⟨hav, hW⟩ := hv0
  have hx := B.exec
  have hb := B.bytes
  have hr := B.returns
  have hts := atoms_spec (ws := (wb yX4_isBay cX4_isBay 1 (some .boolean))) B.pre
  have hown : s.vm.findClass RX4 = some m.cls := findClass_of_methodNamed B.named
  have hlocks := B.notSynchronized
  have hW : Wd G M0 s s.heap := hW
  have hS : va_S (PA G) s.heap s.heap [] := va_S.rf
  have hl := lv_entry [.int (i3 (x0))] (n := 1) (Nat.le_of_ble_eq_true rfl)
  have hent := lg_entry_eq m [.int (i3 (x0))] 1
  rw [← hav] at hent
  rw [hent]
  clear hent
  generalize (lg_sl [.int (i3 (x0))] ++ List.replicate (1 - (lg_sl [.int (i3 (x0))]).length) Slot.unset).toArray = ls at hl ⊢
  have hl : lv_has ls 1 [(0, .int (i3 (x0)))] := hl
  unfold fG_isBay at hf
  show W p l e ({ frames := 1, cells := 0, slots := 0, locals := 22 } : Room) s m args below meth c s.heap [] 0 0 (MQ below (QcZ G M0 r) args s 0 0 (PA G)) (F0 m 0 ls [])
  refine lv_iload_n hx hb dX4_isBay_0 rfl (lv_at hl 0 rfl) ?_
  refine k_const hx hb dX4_isBay_1 ?_
  refine k_bipush hx hb dX4_isBay_2 (by decide +kernel) ?_
  refine k_cSz (As := [.int (i3 (x0)), .int (i3 (0)), .int (i3 (31))]) (rest := []) ⟨hx, hb, hml, hown, hts⟩ (mG_isWithin l G M0 x0 hx0 0 (show inR (0) by decide) 31 (show inR (31) by decide) _ rfl) (va_cwS 3 hts (gbS (inB_4 _ (List.mem_of_getElem? (i := 11) rfl)) (inB_4 _ (List.mem_of_getElem? (i := 12) rfl)) (inB_1 _ (List.mem_of_getElem? (i := 2) rfl)) (inB_4 _ (List.mem_of_getElem? (i := 13) rfl))) rfl rfl rfl (by decide +kernel) ⟨Nat.le_of_ble_eq_true rfl, Nat.le_of_ble_eq_true rfl⟩) hW hS rfl hl.1 rfl (lv_room (Nat.le_of_ble_eq_true rfl)) dX4_isBay_4 ⟨Nat.zero_le _, Nat.zero_le _⟩ (fun hv1 H locs hW hS => ?_)
  subst hf
  exact k_retz hx hb hr hlocks hW hS rfl hv1 dX4_isBay_7
set_option maxHeartbeats 4000000 in
set_option maxRecDepth 100000 in
theorem mG_coinsFor (l : Launch) (G : gG) (M0 : MemG) (x0 : Int) (hx0 : inR x0) (x1 : Int) (hx1 : inR x1) (r : Int) (hf : fG_coinsFor x0 x1 = some r) : Met l yX4_coinsFor (wb yX4_coinsFor cX4_coinsFor 2 (some .int)) ({ frames := 0, cells := 0, slots := 0, locals := 0 } : Room) (PcG G M0 [.int (i3 (x0)), .int (i3 (x1))]) (QcI G M0 r) 0 0 (PA G) := by
  refine Met.ofW (cc := cX4_coinsFor) (maxL := 2) (ret := (some .int)) (by decide) rfl ?_
  intro p e s m args below meth c s₁ B hml hv0
  obtain ⟨hav, hW⟩ := hv0
  have hx := B.exec
  have hb := B.bytes
  have hr := B.returns
  have hts := atoms_spec (ws := (wb yX4_coinsFor cX4_coinsFor 2 (some .int))) B.pre
  have hown : s.vm.findClass RX4 = some m.cls := findClass_of_methodNamed B.named
  have hlocks := B.notSynchronized
  have hW : Wd G M0 s s.heap := hW
  have hS : va_S (PA G) s.heap s.heap [] := va_S.rf
  have hl := lv_entry [.int (i3 (x0)), .int (i3 (x1))] (n := 2) (Nat.le_of_ble_eq_true rfl)
  have hent := lg_entry_eq m [.int (i3 (x0)), .int (i3 (x1))] 2
  rw [← hav] at hent
  rw [hent]
  clear hent
  generalize (lg_sl [.int (i3 (x0)), .int (i3 (x1))] ++ List.replicate (2 - (lg_sl [.int (i3 (x0)), .int (i3 (x1))]).length) Slot.unset).toArray = ls at hl ⊢
  have hl : lv_has ls 2 [(0, .int (i3 (x0))), (1, .int (i3 (x1)))] := hl
  unfold fG_coinsFor at hf
  show W p l e ({ frames := 0, cells := 0, slots := 0, locals := 0 } : Room) s m args below meth c s.heap [] 0 0 (MQ below (QcI G M0 r) args s 0 0 (PA G)) (F0 m 0 ls [])
  refine lv_iload_n hx hb dX4_coinsFor_0 rfl (lv_at hl 0 rfl) ?_
  by_cases hc1 : x0 = 0
  · rw [if_pos hc1] at hf
    refine k_tin (tgt := 28) hx hb hx0 dX4_coinsFor_1 (by omega) (by omega) (by rw [hc1]; rfl) (by decide) ?_
    refine k_const hx hb dX4_coinsFor_28 ?_
    refine lv_iload_n hx hb dX4_coinsFor_29 rfl (lv_at hl 1 rfl) ?_
    refine k_mul hx hb dX4_coinsFor_30 ?_
    refine lv_iload_n hx hb dX4_coinsFor_31 rfl (lv_at hl 1 rfl) ?_
    refine k_bipush hx hb dX4_coinsFor_32 (by decide +kernel) ?_
    obtain ⟨hg2, hf⟩ := gq_el hf
    refine k_div hx hb dX4_coinsFor_34 hx1 (show inR (10) by decide) hg2 ?_
    refine k_sub hx hb dX4_coinsFor_35 ?_
    obtain ⟨hg3, hf⟩ := gd_el hf
    obtain rfl := some_el hf
    exact k_ret hx hb hr hlocks hW hS rfl hg3 dX4_coinsFor_36
  · rw [if_neg hc1] at hf
    by_cases hc4 : x0 = 1
    · rw [if_pos hc4] at hf
      refine k_tin (tgt := 37) hx hb hx0 dX4_coinsFor_1 (by omega) (by omega) (by rw [hc4]; rfl) (by decide) ?_
      refine k_const hx hb dX4_coinsFor_37 ?_
      refine lv_iload_n hx hb dX4_coinsFor_38 rfl (lv_at hl 1 rfl) ?_
      refine k_mul hx hb dX4_coinsFor_39 ?_
      obtain ⟨hg5, hf⟩ := gd_el hf
      obtain rfl := some_el hf
      exact k_ret hx hb hr hlocks hW hS rfl hg5 dX4_coinsFor_40
    · rw [if_neg hc4] at hf
      by_cases hc6 : x0 = 2
      · rw [if_pos hc6] at hf
        refine k_tin (tgt := 41) hx hb hx0 dX4_coinsFor_1 (by omega) (by omega) (by rw [hc6]; rfl) (by decide) ?_
        refine k_const hx hb dX4_coinsFor_41 ?_
        refine lv_iload_n hx hb dX4_coinsFor_42 rfl (lv_at hl 1 rfl) ?_
        refine k_mul hx hb dX4_coinsFor_43 ?_
        obtain ⟨hg7, hf⟩ := gd_el hf
        obtain rfl := some_el hf
        exact k_ret hx hb hr hlocks hW hS rfl hg7 dX4_coinsFor_44
      · rw [if_neg hc6] at hf
        refine k_tdef (tgt := 45) hx hb hx0 dX4_coinsFor_1 (by rcases (show x0 < 0 ∨ 2 < x0 by omega) with h9 | h9; exact Or.inl (by omega); exact Or.inl (by omega)) (by decide) ?_
        refine k_const hx hb dX4_coinsFor_45 ?_
        refine lv_iload_n hx hb dX4_coinsFor_46 rfl (lv_at hl 1 rfl) ?_
        refine k_mul hx hb dX4_coinsFor_47 ?_
        refine lv_iload_n hx hb dX4_coinsFor_48 rfl (lv_at hl 1 rfl) ?_
        refine k_bipush hx hb dX4_coinsFor_49 (by decide +kernel) ?_
        obtain ⟨hg8, hf⟩ := gq_el hf
        refine k_div hx hb dX4_coinsFor_51 hx1 (show inR (20) by decide) hg8 ?_
        refine k_sub hx hb dX4_coinsFor_52 ?_
        obtain ⟨hg9, hf⟩ := gd_el hf
        obtain rfl := some_el hf
        exact k_ret hx hb hr hlocks hW hS rfl hg9 dX4_coinsFor_53
set_option maxHeartbeats 4000000 in
set_option maxRecDepth 100000 in
theorem mG_isKind (l : Launch) (G : gG) (M0 : MemG) (x0 : Int) (hx0 : inR x0) (r : Int) (hf : fG_isKind x0 = r) : Met l yX4_isKind (wb yX4_isKind cX4_isKind 1 (some .boolean)) ({ frames := 1, cells := 0, slots := 0, locals := 22 } : Room) (PcG G M0 [.int (i3 (x0))]) (QcZ G M0 r) 0 0 (PA G) := by
  refine Met.ofW (cc := cX4_isKind) (maxL := 1) (ret := (some .boolean)) (by decide) rfl ?_
  intro p e s m args below meth c s₁ B hml hv0
  obtain ⟨hav, hW⟩ := hv0
  have hx := B.exec
  have hb := B.bytes
  have hr := B.returns
  have hts := atoms_spec (ws := (wb yX4_isKind cX4_isKind 1 (some .boolean))) B.pre
  have hown : s.vm.findClass RX4 = some m.cls := findClass_of_methodNamed B.named
  have hlocks := B.notSynchronized
  have hW : Wd G M0 s s.heap := hW
  have hS : va_S (PA G) s.heap s.heap [] := va_S.rf
  have hl := lv_entry [.int (i3 (x0))] (n := 1) (Nat.le_of_ble_eq_true rfl)
  have hent := lg_entry_eq m [.int (i3 (x0))] 1
  rw [← hav] at hent
  rw [hent]
  clear hent
  generalize (lg_sl [.int (i3 (x0))] ++ List.replicate (1 - (lg_sl [.int (i3 (x0))]).length) Slot.unset).toArray = ls at hl ⊢
  have hl : lv_has ls 1 [(0, .int (i3 (x0)))] := hl
  unfold fG_isKind at hf
  show W p l e ({ frames := 1, cells := 0, slots := 0, locals := 22 } : Room) s m args below meth c s.heap [] 0 0 (MQ below (QcZ G M0 r) args s 0 0 (PA G)) (F0 m 0 ls [])
  refine lv_iload_n hx hb dX4_isKind_0 rfl (lv_at hl 0 rfl) ?_
  refine k_const hx hb dX4_isKind_1 ?_
  refine k_const hx hb dX4_isKind_2 ?_
  refine k_cSz (As := [.int (i3 (x0)), .int (i3 (0)), .int (i3 (3))]) (rest := []) ⟨hx, hb, hml, hown, hts⟩ (mG_isWithin l G M0 x0 hx0 0 (show inR (0) by decide) 3 (show inR (3) by decide) _ rfl) (va_cwS 3 hts (gbS (inB_4 _ (List.mem_of_getElem? (i := 11) rfl)) (inB_4 _ (List.mem_of_getElem? (i := 12) rfl)) (inB_1 _ (List.mem_of_getElem? (i := 2) rfl)) (inB_4 _ (List.mem_of_getElem? (i := 13) rfl))) rfl rfl rfl (by decide +kernel) ⟨Nat.le_of_ble_eq_true rfl, Nat.le_of_ble_eq_true rfl⟩) hW hS rfl hl.1 rfl (lv_room (Nat.le_of_ble_eq_true rfl)) dX4_isKind_3 ⟨Nat.zero_le _, Nat.zero_le _⟩ (fun hv1 H locs hW hS => ?_)
  subst hf
  exact k_retz hx hb hr hlocks hW hS rfl hv1 dX4_isKind_6
set_option maxHeartbeats 4000000 in
set_option maxRecDepth 100000 in
theorem mG_firstBayOf (l : Launch) (G : gG) (M0 : MemG) (x0 : Int) (hx0 : inR x0) (r : Int) (hf : fG_firstBayOf x0 = some r) : Met l yX4_firstBayOf (wb yX4_firstBayOf cX4_firstBayOf 1 (some .int)) ({ frames := 1, cells := 0, slots := 0, locals := 20 } : Room) (PcG G M0 [.int (i3 (x0))]) (QcI G M0 r) 0 0 (PA G) := by
  refine Met.ofW (cc := cX4_firstBayOf) (maxL := 1) (ret := (some .int)) (by decide) rfl ?_
  intro p e s m args below meth c s₁ B hml hv0
  obtain ⟨hav, hW⟩ := hv0
  have hx := B.exec
  have hb := B.bytes
  have hr := B.returns
  have hts := atoms_spec (ws := (wb yX4_firstBayOf cX4_firstBayOf 1 (some .int))) B.pre
  have hown : s.vm.findClass RX4 = some m.cls := findClass_of_methodNamed B.named
  have hlocks := B.notSynchronized
  have hW : Wd G M0 s s.heap := hW
  have hS : va_S (PA G) s.heap s.heap [] := va_S.rf
  have hl := lv_entry [.int (i3 (x0))] (n := 1) (Nat.le_of_ble_eq_true rfl)
  have hent := lg_entry_eq m [.int (i3 (x0))] 1
  rw [← hav] at hent
  rw [hent]
  clear hent
  generalize (lg_sl [.int (i3 (x0))] ++ List.replicate (1 - (lg_sl [.int (i3 (x0))]).length) Slot.unset).toArray = ls at hl ⊢
  have hl : lv_has ls 1 [(0, .int (i3 (x0)))] := hl
  unfold fG_firstBayOf at hf
  show W p l e ({ frames := 1, cells := 0, slots := 0, locals := 20 } : Room) s m args below meth c s.heap [] 0 0 (MQ below (QcI G M0 r) args s 0 0 (PA G)) (F0 m 0 ls [])
  refine lv_iload_n hx hb dX4_firstBayOf_0 rfl (lv_at hl 0 rfl) ?_
  refine lv_iload_n hx hb dX4_firstBayOf_1 rfl (lv_at hl 0 rfl) ?_
  refine k_cSi (As := [.int (i3 (x0))]) (rest := [.int (i3 (x0))]) ⟨hx, hb, hml, hown, hts⟩ (mG_sizeOf l G M0 x0 hx0 _ rfl) (va_cwS 1 hts (gbS (inB_7 _ (List.mem_of_getElem? (i := 5) rfl)) (inB_6 _ (List.mem_of_getElem? (i := 13) rfl)) (inB_1 _ (List.mem_of_getElem? (i := 2) rfl)) (inB_6 _ (List.mem_of_getElem? (i := 14) rfl))) rfl rfl rfl (by decide +kernel) ⟨Nat.le_of_ble_eq_true rfl, Nat.le_of_ble_eq_true rfl⟩) hW hS rfl hl.1 rfl (lv_room (Nat.le_of_ble_eq_true rfl)) dX4_firstBayOf_2 ⟨Nat.zero_le _, Nat.zero_le _⟩ (fun hv1 H locs hW hS => ?_)
  refine k_sub hx hb dX4_firstBayOf_5 ?_
  obtain ⟨hg2, hf⟩ := gd_el hf
  obtain rfl := some_el hf
  exact k_ret hx hb hr hlocks hW hS rfl hg2 dX4_firstBayOf_6
set_option maxHeartbeats 4000000 in
set_option maxRecDepth 100000 in
theorem mG_rungsBelow (l : Launch) (G : gG) (M0 : MemG) (x0 : Int) (hx0 : inR x0) (r : Int) (hf : fG_rungsBelow x0 = some r) : Met l yX4_rungsBelow (wb yX4_rungsBelow cX4_rungsBelow 4 (some .int)) ({ frames := 2, cells := 0, slots := 0, locals := 40 } : Room) (PcG G M0 [.int (i3 (x0))]) (QcI G M0 r) 0 0 (PA G) := by
  refine Met.ofW (cc := cX4_rungsBelow) (maxL := 4) (ret := (some .int)) (by decide) rfl ?_
  intro p e s m args below meth c s₁ B hml hv0
  obtain ⟨hav, hW⟩ := hv0
  have hx := B.exec
  have hb := B.bytes
  have hr := B.returns
  have hts := atoms_spec (ws := (wb yX4_rungsBelow cX4_rungsBelow 4 (some .int))) B.pre
  have hown : s.vm.findClass RX4 = some m.cls := findClass_of_methodNamed B.named
  have hlocks := B.notSynchronized
  have hW : Wd G M0 s s.heap := hW
  have hS : va_S (PA G) s.heap s.heap [] := va_S.rf
  have hl := lv_entry [.int (i3 (x0))] (n := 4) (Nat.le_of_ble_eq_true rfl)
  have hent := lg_entry_eq m [.int (i3 (x0))] 4
  rw [← hav] at hent
  rw [hent]
  clear hent
  generalize (lg_sl [.int (i3 (x0))] ++ List.replicate (4 - (lg_sl [.int (i3 (x0))]).length) Slot.unset).toArray = ls at hl ⊢
  have hl : lv_has ls 4 [(0, .int (i3 (x0)))] := hl
  unfold fG_rungsBelow at hf
  show W p l e ({ frames := 2, cells := 0, slots := 0, locals := 40 } : Room) s m args below meth c s.heap [] 0 0 (MQ below (QcI G M0 r) args s 0 0 (PA G)) (F0 m 0 ls [])
  have L10 : ∀ (x0 : Int) (hx0 : inR x0), ∀ (z : (Int × Int × Int)) (q : (Int)), loopN (fG_rungsBelow_l8 x0) 200 z = some q → (q = r) → (inR (z.1) → inR (z.2.1) → inR (z.2.2) → ∀ (H : Heap) (locs : List Loc) (ls : Array Slot), Wd G (M0) s H → va_S (PA G) s.heap H locs → lv_has ls 4 [(0, .int (i3 (x0))), (1, .int (i3 (z.1))), (2, .int (i3 (z.2.1))), (3, .int (i3 (z.2.2)))] → W p l e ({ frames := 2, cells := 0, slots := 0, locals := 40 } : Room) s m args below meth c H locs 0 0 (MQ below (QcI G M0 r) args s 0 0 (PA G)) (F0 m 8 ls [])) := by
    intro x0 hx0 z q hq hex
    refine loop_rule (fG_rungsBelow_l8 x0) (fun z => inR (z.1) → inR (z.2.1) → inR (z.2.2) → ∀ (H : Heap) (locs : List Loc) (ls : Array Slot), Wd G (M0) s H → va_S (PA G) s.heap H locs → lv_has ls 4 [(0, .int (i3 (x0))), (1, .int (i3 (z.1))), (2, .int (i3 (z.2.1))), (3, .int (i3 (z.2.2)))] → W p l e ({ frames := 2, cells := 0, slots := 0, locals := 40 } : Room) s m args below meth c H locs 0 0 (MQ below (QcI G M0 r) args s 0 0 (PA G)) (F0 m 8 ls [])) (fun q => (q = r)) ?_ 200 z q hq hex
    clear hq hex q z
    intro z x hf hK hz1 hz2 hz3 H locs ls hW hS hl
    unfold fG_rungsBelow_l8 at hf
    refine lv_iload_n hx hb dX4_rungsBelow_8 rfl (lv_at hl 3 rfl) ?_
    refine k_bipush hx hb dX4_rungsBelow_9 (by decide +kernel) ?_
    refine k_icmp_ge (tgt := 38) hx hb hz3 (show inR (32) by decide) dX4_rungsBelow_11 (by decide) (fun hc2 => ?_) (fun hc2 => ?_)
    · rw [if_neg hc2] at hf
      refine lv_iload_n hx hb dX4_rungsBelow_38 rfl (lv_at hl 1 rfl) ?_
      obtain rfl := some_el hf
      obtain rfl : z.1 = r := hK
      exact k_ret hx hb hr hlocks hW hS rfl hz1 dX4_rungsBelow_39
    · rw [if_pos hc2] at hf
      refine lv_iload_n hx hb dX4_rungsBelow_14 rfl (lv_at hl 2 rfl) ?_
      refine lv_iload_n hx hb dX4_rungsBelow_15 rfl (lv_at hl 0 rfl) ?_
      obtain ⟨q3, hq3, hf⟩ := bind_el hf
      refine k_cSi (As := [.int (i3 (x0))]) (rest := [.int (i3 (z.2.1))]) ⟨hx, hb, hml, hown, hts⟩ (mG_firstBayOf l G M0 x0 hx0 q3 hq3) (va_cwS 1 hts (gbS (inB_10 _ (List.mem_of_getElem? (i := 19) rfl)) (inB_10 _ (List.mem_of_getElem? (i := 20) rfl)) (inB_1 _ (List.mem_of_getElem? (i := 2) rfl)) (inB_10 _ (List.mem_of_getElem? (i := 21) rfl))) rfl rfl rfl (by decide +kernel) ⟨Nat.le_of_ble_eq_true rfl, Nat.le_of_ble_eq_true rfl⟩) hW hS rfl hl.1 rfl (lv_room (Nat.le_of_ble_eq_true rfl)) dX4_rungsBelow_16 ⟨Nat.zero_le _, Nat.zero_le _⟩ (fun hv4 H locs hW hS => ?_)
      refine k_icmp_le (tgt := 38) hx hb hz2 hv4 dX4_rungsBelow_19 (by decide) (fun hc5 => ?_) (fun hc5 => ?_)
      · rw [if_neg hc5] at hf
        refine lv_iload_n hx hb dX4_rungsBelow_38 rfl (lv_at hl 1 rfl) ?_
        obtain rfl := some_el hf
        obtain rfl : z.1 = r := hK
        exact k_ret hx hb hr hlocks hW hS rfl hz1 dX4_rungsBelow_39
      · rw [if_pos hc5] at hf
        obtain ⟨hg6, hf⟩ := gd_el hf
        refine k_iinc (lv' := [(1, .int (i3 (z.1 + 1))), (0, .int (i3 (x0))), (2, .int (i3 (z.2.1))), (3, .int (i3 (z.2.2)))]) hx hb dX4_rungsBelow_22 hl (k := 1) rfl (by decide) rfl (fun ls hl => ?_)
        refine lv_iload_n hx hb dX4_rungsBelow_25 rfl (lv_at hl 2 rfl) ?_
        refine lv_iload_n hx hb dX4_rungsBelow_26 rfl (lv_at hl 2 rfl) ?_
        refine k_cSi (As := [.int (i3 (z.2.1))]) (rest := [.int (i3 (z.2.1))]) ⟨hx, hb, hml, hown, hts⟩ (mG_sizeOf l G M0 z.2.1 hz2 _ rfl) (va_cwS 1 hts (gbS (inB_7 _ (List.mem_of_getElem? (i := 5) rfl)) (inB_6 _ (List.mem_of_getElem? (i := 13) rfl)) (inB_1 _ (List.mem_of_getElem? (i := 2) rfl)) (inB_6 _ (List.mem_of_getElem? (i := 14) rfl))) rfl rfl rfl (by decide +kernel) ⟨Nat.le_of_ble_eq_true rfl, Nat.le_of_ble_eq_true rfl⟩) hW hS rfl hl.1 rfl (lv_room (Nat.le_of_ble_eq_true rfl)) dX4_rungsBelow_27 ⟨Nat.zero_le _, Nat.zero_le _⟩ (fun hv7 H locs hW hS => ?_)
        refine k_sub hx hb dX4_rungsBelow_30 ?_
        obtain ⟨hg8, hf⟩ := gd_el hf
        refine lv_istore_n (lv' := [(2, .int (i3 (z.2.1 - ((fG_sizeOf z.2.1))))), (1, .int (i3 (z.1 + 1))), (0, .int (i3 (x0))), (3, .int (i3 (z.2.2)))]) hx hb dX4_rungsBelow_31 rfl hl (by decide) rfl (fun ls hl => ?_)
        obtain ⟨hg9, hf⟩ := gd_el hf
        refine k_iinc (lv' := [(3, .int (i3 (z.2.2 + 1))), (2, .int (i3 (z.2.1 - ((fG_sizeOf z.2.1))))), (1, .int (i3 (z.1 + 1))), (0, .int (i3 (x0)))]) hx hb dX4_rungsBelow_32 hl (k := 3) rfl (by decide) rfl (fun ls hl => ?_)
        refine lv_goto (tgt := 8) hx hb dX4_rungsBelow_35 (by decide) ?_
        obtain rfl := some_el hf
        exact hK hg6 hg8 hg9 _ _ _ hW hS (lv_sub hl [3, 2, 1, 0] rfl)
  refine k_const hx hb dX4_rungsBelow_0 ?_
  refine lv_istore_n (lv' := [(1, .int (i3 (0))), (0, .int (i3 (x0)))]) hx hb dX4_rungsBelow_1 rfl hl (by decide) rfl (fun ls hl => ?_)
  refine lv_iload_n hx hb dX4_rungsBelow_2 rfl (lv_at hl 1 rfl) ?_
  refine k_const hx hb dX4_rungsBelow_3 ?_
  refine k_sub hx hb dX4_rungsBelow_4 ?_
  obtain ⟨hg1, hf⟩ := gd_el hf
  refine lv_istore_n (lv' := [(2, .int (i3 (x0 - 1))), (1, .int (i3 (0))), (0, .int (i3 (x0)))]) hx hb dX4_rungsBelow_5 rfl hl (by decide) rfl (fun ls hl => ?_)
  refine k_const hx hb dX4_rungsBelow_6 ?_
  refine lv_istore_n (lv' := [(3, .int (i3 (0))), (2, .int (i3 (x0 - 1))), (1, .int (i3 (0))), (0, .int (i3 (x0)))]) hx hb dX4_rungsBelow_7 rfl hl (by decide) rfl (fun ls hl => ?_)
  exact L10 (x0) hx0 (0, x0 - 1, 0) r hf rfl (show inR (0) by decide) hg1 (show inR (0) by decide) _ _ _ hW hS (lv_sub hl [3, 2, 1, 0] rfl)
end
section
set_option maxHeartbeats 4000000 in
set_option maxRecDepth 100000 in
theorem mW_copyFrom (l : Launch) (G : gG) (M0 : MemG) (k : Nat) (hk : k < 11) (k2 : Nat) (hk2 : k2 < 11) (r : MemG) (hf : fW_copyFrom M0 k k2 = some r) : Met l yX3_copyFrom (wb yX3_copyFrom cX3_copyFrom 2 none) ({ frames := 1, cells := 0, slots := 0, locals := 22 } : Room) (PcG G M0 [.ref (gA G (5 + k)), .ref (gA G (5 + k2))]) (QcV G r) 0 0 (PA G) := by
  refine Met.ofW (cc := cX3_copyFrom) (maxL := 2) (ret := none) (by decide) rfl ?_
  intro p e s m args below meth c s₁ B hml hv0
  obtain ⟨hav, hW⟩ := hv0
  have hx := B.exec
  have hb := B.bytes
  have hr := B.returns
  have hts := atoms_spec (ws := (wb yX3_copyFrom cX3_copyFrom 2 none)) B.pre
  have hown : s.vm.findClass RX3 = some m.cls := findClass_of_methodNamed B.named
  have hlocks := B.notSynchronized
  have hinX3 : ∀ w ∈ u_ws RX3 TX3 6, w ∈ (wb yX3_copyFrom cX3_copyFrom 2 none) := fun _ h => List.mem_cons_of_mem _ (inlX3 _ h)
  have hW : Wd G M0 s s.heap := hW
  have hS : va_S (PA G) s.heap s.heap [] := va_S.rf
  have hl := lv_entry [.ref (gA G (5 + k)), .ref (gA G (5 + k2))] (n := 2) (Nat.le_of_ble_eq_true rfl)
  have hent := lg_entry_eq m [.ref (gA G (5 + k)), .ref (gA G (5 + k2))] 2
  rw [← hav] at hent
  rw [hent]
  clear hent
  generalize (lg_sl [.ref (gA G (5 + k)), .ref (gA G (5 + k2))] ++ List.replicate (2 - (lg_sl [.ref (gA G (5 + k)), .ref (gA G (5 + k2))]).length) Slot.unset).toArray = ls at hl ⊢
  have hl : lv_has ls 2 [(0, .ref (gA G (5 + k))), (1, .ref (gA G (5 + k2)))] := hl
  unfold fW_copyFrom at hf
  show W p l e ({ frames := 1, cells := 0, slots := 0, locals := 22 } : Room) s m args below meth c s.heap [] 0 0 (MQ below (QcV G r) args s 0 0 (PA G)) (F0 m 0 ls [])
  refine lv_aload_n hx hb dX3_copyFrom_0 rfl (lv_at hl 1 rfl) ?_
  refine va_get (D := G.1) (ci := 3) (v := .ref (gA G (16 + 6 * k2))) (C := RX3) (T := TX3) (N := 6) hx hb hts hinX3 hown hW.K hW.P (5 + k2) (he_wall hk2 G M0) rfl 0 (by decide) (hts _ (List.mem_cons_of_mem _ (inB_2 _ (List.mem_of_getElem? (i := 13) rfl)))) (fun _ h9 => h9) rfl dX3_copyFrom_1 ?_
  refine lv_aload_n hx hb dX3_copyFrom_4 rfl (lv_at hl 0 rfl) ?_
  refine va_get (D := G.1) (ci := 3) (v := .ref (gA G (16 + 6 * k))) (C := RX3) (T := TX3) (N := 6) hx hb hts hinX3 hown hW.K hW.P (5 + k) (he_wall hk G M0) rfl 0 (by decide) (hts _ (List.mem_cons_of_mem _ (inB_2 _ (List.mem_of_getElem? (i := 13) rfl)))) (fun _ h9 => h9) rfl dX3_copyFrom_5 ?_
  obtain ⟨m1, hm1, hf⟩ := bind_el hf
  refine k_cNv (As := [.ref (gA G (16 + 6 * k2)), .ref (gA G (16 + 6 * k))]) (rest := []) ⟨hx, hb, hml, hown, hts⟩ (mG_copyRow l G M0 (16 + 6 * k2) (by omega) (16 + 6 * k) (by omega) m1 hm1) ⟨va_cnB 2 hts (gbC (inB_4 _ (List.mem_of_getElem? (i := 3) rfl))) rfl rfl rfl (hW.N _ (List.mem_of_getElem? (i := 0) rfl)) (hts _ (List.mem_cons_of_mem _ (inB_1 _ (List.mem_of_getElem? (i := 2) rfl)))) (by decide +kernel) ⟨Nat.le_of_ble_eq_true rfl, Nat.le_of_ble_eq_true rfl⟩, (hts _ (List.mem_cons_of_mem _ (inB_4 _ (List.mem_of_getElem? (i := 2) rfl)))), trivial⟩ hW hS rfl hl.1 rfl (lv_room (Nat.le_of_ble_eq_true rfl)) dX3_copyFrom_8 ⟨Nat.zero_le _, Nat.zero_le _⟩ (fun H locs hW hS => ?_)
  refine lv_aload_n hx hb dX3_copyFrom_11 rfl (lv_at hl 1 rfl) ?_
  refine va_get (D := G.1) (ci := 3) (v := .ref (gA G (16 + 6 * k2 + 1))) (C := RX3) (T := TX3) (N := 6) hx hb hts hinX3 hown hW.K hW.P (5 + k2) (he_wall hk2 G m1) rfl 1 (by decide) (hts _ (List.mem_cons_of_mem _ (inB_2 _ (List.mem_of_getElem? (i := 14) rfl)))) (fun _ h9 => h9) rfl dX3_copyFrom_12 ?_
  refine lv_aload_n hx hb dX3_copyFrom_15 rfl (lv_at hl 0 rfl) ?_
  refine va_get (D := G.1) (ci := 3) (v := .ref (gA G (16 + 6 * k + 1))) (C := RX3) (T := TX3) (N := 6) hx hb hts hinX3 hown hW.K hW.P (5 + k) (he_wall hk G m1) rfl 1 (by decide) (hts _ (List.mem_cons_of_mem _ (inB_2 _ (List.mem_of_getElem? (i := 14) rfl)))) (fun _ h9 => h9) rfl dX3_copyFrom_16 ?_
  obtain ⟨m3, hm3, hf⟩ := bind_el hf
  refine k_cNv (As := [.ref (gA G (16 + 6 * k2 + 1)), .ref (gA G (16 + 6 * k + 1))]) (rest := []) ⟨hx, hb, hml, hown, hts⟩ (mG_copyRow l G m1 (16 + 6 * k2 + 1) (by omega) (16 + 6 * k + 1) (by omega) m3 hm3) ⟨va_cnB 2 hts (gbC (inB_4 _ (List.mem_of_getElem? (i := 3) rfl))) rfl rfl rfl (hW.N _ (List.mem_of_getElem? (i := 0) rfl)) (hts _ (List.mem_cons_of_mem _ (inB_1 _ (List.mem_of_getElem? (i := 2) rfl)))) (by decide +kernel) ⟨Nat.le_of_ble_eq_true rfl, Nat.le_of_ble_eq_true rfl⟩, (hts _ (List.mem_cons_of_mem _ (inB_4 _ (List.mem_of_getElem? (i := 2) rfl)))), trivial⟩ hW hS rfl hl.1 rfl (lv_room (Nat.le_of_ble_eq_true rfl)) dX3_copyFrom_19 ⟨Nat.zero_le _, Nat.zero_le _⟩ (fun H locs hW hS => ?_)
  refine lv_aload_n hx hb dX3_copyFrom_22 rfl (lv_at hl 1 rfl) ?_
  refine va_get (D := G.1) (ci := 3) (v := .ref (gA G (16 + 6 * k2 + 2))) (C := RX3) (T := TX3) (N := 6) hx hb hts hinX3 hown hW.K hW.P (5 + k2) (he_wall hk2 G m3) rfl 2 (by decide) (hts _ (List.mem_cons_of_mem _ (inB_2 _ (List.mem_of_getElem? (i := 15) rfl)))) (fun _ h9 => h9) rfl dX3_copyFrom_23 ?_
  refine lv_aload_n hx hb dX3_copyFrom_26 rfl (lv_at hl 0 rfl) ?_
  refine va_get (D := G.1) (ci := 3) (v := .ref (gA G (16 + 6 * k + 2))) (C := RX3) (T := TX3) (N := 6) hx hb hts hinX3 hown hW.K hW.P (5 + k) (he_wall hk G m3) rfl 2 (by decide) (hts _ (List.mem_cons_of_mem _ (inB_2 _ (List.mem_of_getElem? (i := 15) rfl)))) (fun _ h9 => h9) rfl dX3_copyFrom_27 ?_
  obtain ⟨m5, hm5, hf⟩ := bind_el hf
  refine k_cNv (As := [.ref (gA G (16 + 6 * k2 + 2)), .ref (gA G (16 + 6 * k + 2))]) (rest := []) ⟨hx, hb, hml, hown, hts⟩ (mG_copyRow l G m3 (16 + 6 * k2 + 2) (by omega) (16 + 6 * k + 2) (by omega) m5 hm5) ⟨va_cnB 2 hts (gbC (inB_4 _ (List.mem_of_getElem? (i := 3) rfl))) rfl rfl rfl (hW.N _ (List.mem_of_getElem? (i := 0) rfl)) (hts _ (List.mem_cons_of_mem _ (inB_1 _ (List.mem_of_getElem? (i := 2) rfl)))) (by decide +kernel) ⟨Nat.le_of_ble_eq_true rfl, Nat.le_of_ble_eq_true rfl⟩, (hts _ (List.mem_cons_of_mem _ (inB_4 _ (List.mem_of_getElem? (i := 2) rfl)))), trivial⟩ hW hS rfl hl.1 rfl (lv_room (Nat.le_of_ble_eq_true rfl)) dX3_copyFrom_30 ⟨Nat.zero_le _, Nat.zero_le _⟩ (fun H locs hW hS => ?_)
  refine lv_aload_n hx hb dX3_copyFrom_33 rfl (lv_at hl 1 rfl) ?_
  refine va_get (D := G.1) (ci := 3) (v := .ref (gA G (16 + 6 * k2 + 3))) (C := RX3) (T := TX3) (N := 6) hx hb hts hinX3 hown hW.K hW.P (5 + k2) (he_wall hk2 G m5) rfl 3 (by decide) (hts _ (List.mem_cons_of_mem _ (inB_2 _ (List.mem_of_getElem? (i := 16) rfl)))) (fun _ h9 => h9) rfl dX3_copyFrom_34 ?_
  refine lv_aload_n hx hb dX3_copyFrom_37 rfl (lv_at hl 0 rfl) ?_
  refine va_get (D := G.1) (ci := 3) (v := .ref (gA G (16 + 6 * k + 3))) (C := RX3) (T := TX3) (N := 6) hx hb hts hinX3 hown hW.K hW.P (5 + k) (he_wall hk G m5) rfl 3 (by decide) (hts _ (List.mem_cons_of_mem _ (inB_2 _ (List.mem_of_getElem? (i := 16) rfl)))) (fun _ h9 => h9) rfl dX3_copyFrom_38 ?_
  obtain ⟨m7, hm7, hf⟩ := bind_el hf
  refine k_cNv (As := [.ref (gA G (16 + 6 * k2 + 3)), .ref (gA G (16 + 6 * k + 3))]) (rest := []) ⟨hx, hb, hml, hown, hts⟩ (mG_copyRow l G m5 (16 + 6 * k2 + 3) (by omega) (16 + 6 * k + 3) (by omega) m7 hm7) ⟨va_cnB 2 hts (gbC (inB_4 _ (List.mem_of_getElem? (i := 3) rfl))) rfl rfl rfl (hW.N _ (List.mem_of_getElem? (i := 0) rfl)) (hts _ (List.mem_cons_of_mem _ (inB_1 _ (List.mem_of_getElem? (i := 2) rfl)))) (by decide +kernel) ⟨Nat.le_of_ble_eq_true rfl, Nat.le_of_ble_eq_true rfl⟩, (hts _ (List.mem_cons_of_mem _ (inB_4 _ (List.mem_of_getElem? (i := 2) rfl)))), trivial⟩ hW hS rfl hl.1 rfl (lv_room (Nat.le_of_ble_eq_true rfl)) dX3_copyFrom_41 ⟨Nat.zero_le _, Nat.zero_le _⟩ (fun H locs hW hS => ?_)
  refine lv_aload_n hx hb dX3_copyFrom_44 rfl (lv_at hl 1 rfl) ?_
  refine va_get (D := G.1) (ci := 3) (v := .ref (gA G (16 + 6 * k2 + 4))) (C := RX3) (T := TX3) (N := 6) hx hb hts hinX3 hown hW.K hW.P (5 + k2) (he_wall hk2 G m7) rfl 4 (by decide) (hts _ (List.mem_cons_of_mem _ (inB_2 _ (List.mem_of_getElem? (i := 17) rfl)))) (fun _ h9 => h9) rfl dX3_copyFrom_45 ?_
  refine lv_aload_n hx hb dX3_copyFrom_48 rfl (lv_at hl 0 rfl) ?_
  refine va_get (D := G.1) (ci := 3) (v := .ref (gA G (16 + 6 * k + 4))) (C := RX3) (T := TX3) (N := 6) hx hb hts hinX3 hown hW.K hW.P (5 + k) (he_wall hk G m7) rfl 4 (by decide) (hts _ (List.mem_cons_of_mem _ (inB_2 _ (List.mem_of_getElem? (i := 17) rfl)))) (fun _ h9 => h9) rfl dX3_copyFrom_49 ?_
  obtain ⟨m9, hm9, hf⟩ := bind_el hf
  refine k_cNv (As := [.ref (gA G (16 + 6 * k2 + 4)), .ref (gA G (16 + 6 * k + 4))]) (rest := []) ⟨hx, hb, hml, hown, hts⟩ (mG_copyRow l G m7 (16 + 6 * k2 + 4) (by omega) (16 + 6 * k + 4) (by omega) m9 hm9) ⟨va_cnB 2 hts (gbC (inB_4 _ (List.mem_of_getElem? (i := 3) rfl))) rfl rfl rfl (hW.N _ (List.mem_of_getElem? (i := 0) rfl)) (hts _ (List.mem_cons_of_mem _ (inB_1 _ (List.mem_of_getElem? (i := 2) rfl)))) (by decide +kernel) ⟨Nat.le_of_ble_eq_true rfl, Nat.le_of_ble_eq_true rfl⟩, (hts _ (List.mem_cons_of_mem _ (inB_4 _ (List.mem_of_getElem? (i := 2) rfl)))), trivial⟩ hW hS rfl hl.1 rfl (lv_room (Nat.le_of_ble_eq_true rfl)) dX3_copyFrom_52 ⟨Nat.zero_le _, Nat.zero_le _⟩ (fun H locs hW hS => ?_)
  refine lv_aload_n hx hb dX3_copyFrom_55 rfl (lv_at hl 1 rfl) ?_
  refine va_get (D := G.1) (ci := 3) (v := .ref (gA G (16 + 6 * k2 + 5))) (C := RX3) (T := TX3) (N := 6) hx hb hts hinX3 hown hW.K hW.P (5 + k2) (he_wall hk2 G m9) rfl 5 (by decide) (hts _ (List.mem_cons_of_mem _ (inB_2 _ (List.mem_of_getElem? (i := 18) rfl)))) (fun _ h9 => h9) rfl dX3_copyFrom_56 ?_
  refine lv_aload_n hx hb dX3_copyFrom_59 rfl (lv_at hl 0 rfl) ?_
  refine va_get (D := G.1) (ci := 3) (v := .ref (gA G (16 + 6 * k + 5))) (C := RX3) (T := TX3) (N := 6) hx hb hts hinX3 hown hW.K hW.P (5 + k) (he_wall hk G m9) rfl 5 (by decide) (hts _ (List.mem_cons_of_mem _ (inB_2 _ (List.mem_of_getElem? (i := 18) rfl)))) (fun _ h9 => h9) rfl dX3_copyFrom_60 ?_
  obtain ⟨m11, hm11, hf⟩ := bind_el hf
  refine k_cNv (As := [.ref (gA G (16 + 6 * k2 + 5)), .ref (gA G (16 + 6 * k + 5))]) (rest := []) ⟨hx, hb, hml, hown, hts⟩ (mG_copyRow l G m9 (16 + 6 * k2 + 5) (by omega) (16 + 6 * k + 5) (by omega) m11 hm11) ⟨va_cnB 2 hts (gbC (inB_4 _ (List.mem_of_getElem? (i := 3) rfl))) rfl rfl rfl (hW.N _ (List.mem_of_getElem? (i := 0) rfl)) (hts _ (List.mem_cons_of_mem _ (inB_1 _ (List.mem_of_getElem? (i := 2) rfl)))) (by decide +kernel) ⟨Nat.le_of_ble_eq_true rfl, Nat.le_of_ble_eq_true rfl⟩, (hts _ (List.mem_cons_of_mem _ (inB_4 _ (List.mem_of_getElem? (i := 2) rfl)))), trivial⟩ hW hS rfl hl.1 rfl (lv_room (Nat.le_of_ble_eq_true rfl)) dX3_copyFrom_63 ⟨Nat.zero_le _, Nat.zero_le _⟩ (fun H locs hW hS => ?_)
  obtain rfl := some_el hf
  exact k_retv hx hb hr hlocks hW hS rfl dX3_copyFrom_66
set_option maxHeartbeats 4000000 in
set_option maxRecDepth 100000 in
theorem mW_count (l : Launch) (G : gG) (M0 : MemG) (k : Nat) (hk : k < 11) (x1 : Int) (hx1 : inR x1) (x2 : Int) (hx2 : inR x2) (r : MemG) (hf : fW_count M0 k x1 x2 = some r) : Met l yX3_count (wb yX3_count cX3_count 3 none) ({ frames := 1, cells := 0, slots := 0, locals := 22 } : Room) (PcG G M0 [.ref (gA G (5 + k)), .int (i3 (x1)), .int (i3 (x2))]) (QcV G r) 0 0 (PA G) := by
  refine Met.ofW (cc := cX3_count) (maxL := 3) (ret := none) (by decide) rfl ?_
  intro p e s m args below meth c s₁ B hml hv0
  obtain ⟨hav, hW⟩ := hv0
  have hx := B.exec
  have hb := B.bytes
  have hr := B.returns
  have hts := atoms_spec (ws := (wb yX3_count cX3_count 3 none)) B.pre
  have hown : s.vm.findClass RX3 = some m.cls := findClass_of_methodNamed B.named
  have hlocks := B.notSynchronized
  have hinX3 : ∀ w ∈ u_ws RX3 TX3 6, w ∈ (wb yX3_count cX3_count 3 none) := fun _ h => List.mem_cons_of_mem _ (inlX3 _ h)
  have hW : Wd G M0 s s.heap := hW
  have hS : va_S (PA G) s.heap s.heap [] := va_S.rf
  have hl := lv_entry [.ref (gA G (5 + k)), .int (i3 (x1)), .int (i3 (x2))] (n := 3) (Nat.le_of_ble_eq_true rfl)
  have hent := lg_entry_eq m [.ref (gA G (5 + k)), .int (i3 (x1)), .int (i3 (x2))] 3
  rw [← hav] at hent
  rw [hent]
  clear hent
  generalize (lg_sl [.ref (gA G (5 + k)), .int (i3 (x1)), .int (i3 (x2))] ++ List.replicate (3 - (lg_sl [.ref (gA G (5 + k)), .int (i3 (x1)), .int (i3 (x2))]).length) Slot.unset).toArray = ls at hl ⊢
  have hl : lv_has ls 3 [(0, .ref (gA G (5 + k))), (1, .int (i3 (x1))), (2, .int (i3 (x2)))] := hl
  unfold fW_count at hf
  show W p l e ({ frames := 1, cells := 0, slots := 0, locals := 22 } : Room) s m args below meth c s.heap [] 0 0 (MQ below (QcV G r) args s 0 0 (PA G)) (F0 m 0 ls [])
  refine lv_aload_n hx hb dX3_count_0 rfl (lv_at hl 0 rfl) ?_
  refine va_get (D := G.1) (ci := 3) (v := .ref (gA G (16 + 6 * k + 5))) (C := RX3) (T := TX3) (N := 6) hx hb hts hinX3 hown hW.K hW.P (5 + k) (he_wall hk G M0) rfl 5 (by decide) (hts _ (List.mem_cons_of_mem _ (inB_2 _ (List.mem_of_getElem? (i := 18) rfl)))) (fun _ h9 => h9) rfl dX3_count_1 ?_
  refine lv_iload_n hx hb dX3_count_4 rfl (lv_at hl 1 rfl) ?_
  refine lv_aload_n hx hb dX3_count_5 rfl (lv_at hl 0 rfl) ?_
  refine va_get (D := G.1) (ci := 3) (v := .ref (gA G (16 + 6 * k + 5))) (C := RX3) (T := TX3) (N := 6) hx hb hts hinX3 hown hW.K hW.P (5 + k) (he_wall hk G M0) rfl 5 (by decide) (hts _ (List.mem_cons_of_mem _ (inB_2 _ (List.mem_of_getElem? (i := 18) rfl)))) (fun _ h9 => h9) rfl dX3_count_6 ?_
  refine lv_iload_n hx hb dX3_count_9 rfl (lv_at hl 1 rfl) ?_
  refine k_cNi (As := [.ref (gA G (16 + 6 * k + 5)), .int (i3 (x1))]) (rest := [.int (i3 (x1)), .ref (gA G (16 + 6 * k + 5))]) ⟨hx, hb, hml, hown, hts⟩ (mG_at l G M0 (16 + 6 * k + 5) (by omega) x1 hx1 _ rfl) ⟨va_cnB 2 hts (gbC (inB_5 _ (List.mem_of_getElem? (i := 2) rfl))) rfl rfl rfl (hW.N _ (List.mem_of_getElem? (i := 1) rfl)) (hts _ (List.mem_cons_of_mem _ (inB_1 _ (List.mem_of_getElem? (i := 2) rfl)))) (by decide +kernel) ⟨Nat.le_of_ble_eq_true rfl, Nat.le_of_ble_eq_true rfl⟩, (hts _ (List.mem_cons_of_mem _ (inB_5 _ (List.mem_of_getElem? (i := 1) rfl)))), trivial⟩ hW hS rfl hl.1 rfl (lv_room (Nat.le_of_ble_eq_true rfl)) dX3_count_10 ⟨Nat.zero_le _, Nat.zero_le _⟩ (fun hv1 H locs hW hS => ?_)
  refine lv_iload_n hx hb dX3_count_13 rfl (lv_at hl 2 rfl) ?_
  refine k_add hx hb dX3_count_14 ?_
  obtain ⟨hg2, hf⟩ := gd_el hf
  obtain ⟨m3, hm3, hf⟩ := bind_el hf
  refine k_cNv (As := [.ref (gA G (16 + 6 * k + 5)), .int (i3 (x1)), .int (i3 (((fG_at M0 (16 + 6 * k + 5) x1)) + x2))]) (rest := []) ⟨hx, hb, hml, hown, hts⟩ (mG_put l G M0 (16 + 6 * k + 5) (by omega) x1 hx1 (((fG_at M0 (16 + 6 * k + 5) x1)) + x2) hg2 m3 hm3) ⟨va_cnB 3 hts (gbC (inB_6 _ (List.mem_of_getElem? (i := 0) rfl))) rfl rfl rfl (hW.N _ (List.mem_of_getElem? (i := 2) rfl)) (hts _ (List.mem_cons_of_mem _ (inB_1 _ (List.mem_of_getElem? (i := 2) rfl)))) (by decide +kernel) ⟨Nat.le_of_ble_eq_true rfl, Nat.le_of_ble_eq_true rfl⟩, (hts _ (List.mem_cons_of_mem _ (inB_5 _ (List.mem_of_getElem? (i := 23) rfl)))), trivial⟩ hW hS rfl hl.1 rfl (lv_room (Nat.le_of_ble_eq_true rfl)) dX3_count_15 ⟨Nat.zero_le _, Nat.zero_le _⟩ (fun H locs hW hS => ?_)
  obtain rfl := some_el hf
  exact k_retv hx hb hr hlocks hW hS rfl dX3_count_18
set_option maxHeartbeats 4000000 in
set_option maxRecDepth 100000 in
theorem mW_counted (l : Launch) (G : gG) (M0 : MemG) (k : Nat) (hk : k < 11) (x1 : Int) (hx1 : inR x1) (r : Int) (hf : fW_counted M0 k x1 = r) : Met l yX3_counted (wb yX3_counted cX3_counted 2 (some .int)) ({ frames := 1, cells := 0, slots := 0, locals := 21 } : Room) (PcG G M0 [.ref (gA G (5 + k)), .int (i3 (x1))]) (QcI G M0 r) 0 0 (PA G) := by
  refine Met.ofW (cc := cX3_counted) (maxL := 2) (ret := (some .int)) (by decide) rfl ?_
  intro p e s m args below meth c s₁ B hml hv0
  obtain ⟨hav, hW⟩ := hv0
  have hx := B.exec
  have hb := B.bytes
  have hr := B.returns
  have hts := atoms_spec (ws := (wb yX3_counted cX3_counted 2 (some .int))) B.pre
  have hown : s.vm.findClass RX3 = some m.cls := findClass_of_methodNamed B.named
  have hlocks := B.notSynchronized
  have hinX3 : ∀ w ∈ u_ws RX3 TX3 6, w ∈ (wb yX3_counted cX3_counted 2 (some .int)) := fun _ h => List.mem_cons_of_mem _ (inlX3 _ h)
  have hW : Wd G M0 s s.heap := hW
  have hS : va_S (PA G) s.heap s.heap [] := va_S.rf
  have hl := lv_entry [.ref (gA G (5 + k)), .int (i3 (x1))] (n := 2) (Nat.le_of_ble_eq_true rfl)
  have hent := lg_entry_eq m [.ref (gA G (5 + k)), .int (i3 (x1))] 2
  rw [← hav] at hent
  rw [hent]
  clear hent
  generalize (lg_sl [.ref (gA G (5 + k)), .int (i3 (x1))] ++ List.replicate (2 - (lg_sl [.ref (gA G (5 + k)), .int (i3 (x1))]).length) Slot.unset).toArray = ls at hl ⊢
  have hl : lv_has ls 2 [(0, .ref (gA G (5 + k))), (1, .int (i3 (x1)))] := hl
  unfold fW_counted at hf
  show W p l e ({ frames := 1, cells := 0, slots := 0, locals := 21 } : Room) s m args below meth c s.heap [] 0 0 (MQ below (QcI G M0 r) args s 0 0 (PA G)) (F0 m 0 ls [])
  refine lv_aload_n hx hb dX3_counted_0 rfl (lv_at hl 0 rfl) ?_
  refine va_get (D := G.1) (ci := 3) (v := .ref (gA G (16 + 6 * k + 5))) (C := RX3) (T := TX3) (N := 6) hx hb hts hinX3 hown hW.K hW.P (5 + k) (he_wall hk G M0) rfl 5 (by decide) (hts _ (List.mem_cons_of_mem _ (inB_2 _ (List.mem_of_getElem? (i := 18) rfl)))) (fun _ h9 => h9) rfl dX3_counted_1 ?_
  refine lv_iload_n hx hb dX3_counted_4 rfl (lv_at hl 1 rfl) ?_
  refine k_cNi (As := [.ref (gA G (16 + 6 * k + 5)), .int (i3 (x1))]) (rest := []) ⟨hx, hb, hml, hown, hts⟩ (mG_at l G M0 (16 + 6 * k + 5) (by omega) x1 hx1 _ rfl) ⟨va_cnB 2 hts (gbC (inB_5 _ (List.mem_of_getElem? (i := 2) rfl))) rfl rfl rfl (hW.N _ (List.mem_of_getElem? (i := 1) rfl)) (hts _ (List.mem_cons_of_mem _ (inB_1 _ (List.mem_of_getElem? (i := 2) rfl)))) (by decide +kernel) ⟨Nat.le_of_ble_eq_true rfl, Nat.le_of_ble_eq_true rfl⟩, (hts _ (List.mem_cons_of_mem _ (inB_5 _ (List.mem_of_getElem? (i := 1) rfl)))), trivial⟩ hW hS rfl hl.1 rfl (lv_room (Nat.le_of_ble_eq_true rfl)) dX3_counted_5 ⟨Nat.zero_le _, Nat.zero_le _⟩ (fun hv1 H locs hW hS => ?_)
  subst hf
  exact k_ret hx hb hr hlocks hW hS rfl hv1 dX3_counted_8
set_option maxHeartbeats 4000000 in
set_option maxRecDepth 100000 in
theorem mW_isCracked (l : Launch) (G : gG) (M0 : MemG) (k : Nat) (hk : k < 11) (x1 : Int) (hx1 : inR x1) (r : Int) (hf : fW_isCracked M0 k x1 = r) : Met l yX3_isCracked (wb yX3_isCracked cX3_isCracked 2 (some .boolean)) ({ frames := 1, cells := 0, slots := 0, locals := 21 } : Room) (PcG G M0 [.ref (gA G (5 + k)), .int (i3 (x1))]) (QcZ G M0 r) 0 0 (PA G) := by
  refine Met.ofW (cc := cX3_isCracked) (maxL := 2) (ret := (some .boolean)) (by decide) rfl ?_
  intro p e s m args below meth c s₁ B hml hv0
  obtain ⟨hav, hW⟩ := hv0
  have hx := B.exec
  have hb := B.bytes
  have hr := B.returns
  have hts := atoms_spec (ws := (wb yX3_isCracked cX3_isCracked 2 (some .boolean))) B.pre
  have hown : s.vm.findClass RX3 = some m.cls := findClass_of_methodNamed B.named
  have hlocks := B.notSynchronized
  have hinX3 : ∀ w ∈ u_ws RX3 TX3 6, w ∈ (wb yX3_isCracked cX3_isCracked 2 (some .boolean)) := fun _ h => List.mem_cons_of_mem _ (inlX3 _ h)
  have hW : Wd G M0 s s.heap := hW
  have hS : va_S (PA G) s.heap s.heap [] := va_S.rf
  have hl := lv_entry [.ref (gA G (5 + k)), .int (i3 (x1))] (n := 2) (Nat.le_of_ble_eq_true rfl)
  have hent := lg_entry_eq m [.ref (gA G (5 + k)), .int (i3 (x1))] 2
  rw [← hav] at hent
  rw [hent]
  clear hent
  generalize (lg_sl [.ref (gA G (5 + k)), .int (i3 (x1))] ++ List.replicate (2 - (lg_sl [.ref (gA G (5 + k)), .int (i3 (x1))]).length) Slot.unset).toArray = ls at hl ⊢
  have hl : lv_has ls 2 [(0, .ref (gA G (5 + k))), (1, .int (i3 (x1)))] := hl
  unfold fW_isCracked at hf
  show W p l e ({ frames := 1, cells := 0, slots := 0, locals := 21 } : Room) s m args below meth c s.heap [] 0 0 (MQ below (QcZ G M0 r) args s 0 0 (PA G)) (F0 m 0 ls [])
  refine lv_aload_n hx hb dX3_isCracked_0 rfl (lv_at hl 0 rfl) ?_
  refine va_get (D := G.1) (ci := 3) (v := .ref (gA G (16 + 6 * k + 4))) (C := RX3) (T := TX3) (N := 6) hx hb hts hinX3 hown hW.K hW.P (5 + k) (he_wall hk G M0) rfl 4 (by decide) (hts _ (List.mem_cons_of_mem _ (inB_2 _ (List.mem_of_getElem? (i := 17) rfl)))) (fun _ h9 => h9) rfl dX3_isCracked_1 ?_
  refine lv_iload_n hx hb dX3_isCracked_4 rfl (lv_at hl 1 rfl) ?_
  refine k_cNi (As := [.ref (gA G (16 + 6 * k + 4)), .int (i3 (x1))]) (rest := []) ⟨hx, hb, hml, hown, hts⟩ (mG_at l G M0 (16 + 6 * k + 4) (by omega) x1 hx1 _ rfl) ⟨va_cnB 2 hts (gbC (inB_5 _ (List.mem_of_getElem? (i := 2) rfl))) rfl rfl rfl (hW.N _ (List.mem_of_getElem? (i := 1) rfl)) (hts _ (List.mem_cons_of_mem _ (inB_1 _ (List.mem_of_getElem? (i := 2) rfl)))) (by decide +kernel) ⟨Nat.le_of_ble_eq_true rfl, Nat.le_of_ble_eq_true rfl⟩, (hts _ (List.mem_cons_of_mem _ (inB_5 _ (List.mem_of_getElem? (i := 1) rfl)))), trivial⟩ hW hS rfl hl.1 rfl (lv_room (Nat.le_of_ble_eq_true rfl)) dX3_isCracked_5 ⟨Nat.zero_le _, Nat.zero_le _⟩ (fun hv1 H locs hW hS => ?_)
  refine k_const hx hb dX3_isCracked_8 ?_
  refine k_icmp_ne (tgt := 16) hx hb hv1 (show inR (1) by decide) dX3_isCracked_9 (by decide) (fun hc2 => ?_) (fun hc2 => ?_)
  · rw [if_neg hc2] at hf
    refine k_const hx hb dX3_isCracked_16 ?_
    subst hf
    exact k_retz hx hb hr hlocks hW hS rfl (show (0 : Int) = 0 ∨ (0 : Int) = 1 by decide) dX3_isCracked_17
  · rw [if_pos hc2] at hf
    refine k_const hx hb dX3_isCracked_12 ?_
    refine lv_goto (tgt := 17) hx hb dX3_isCracked_13 (by decide) ?_
    subst hf
    exact k_retz hx hb hr hlocks hW hS rfl (show (1 : Int) = 0 ∨ (1 : Int) = 1 by decide) dX3_isCracked_17
set_option maxHeartbeats 4000000 in
set_option maxRecDepth 100000 in
theorem mW_makeSound (l : Launch) (G : gG) (M0 : MemG) (k : Nat) (hk : k < 11) (x1 : Int) (hx1 : inR x1) (r : MemG) (hf : fW_makeSound M0 k x1 = some r) : Met l yX3_makeSound (wb yX3_makeSound cX3_makeSound 2 none) ({ frames := 1, cells := 0, slots := 0, locals := 22 } : Room) (PcG G M0 [.ref (gA G (5 + k)), .int (i3 (x1))]) (QcV G r) 0 0 (PA G) := by
  refine Met.ofW (cc := cX3_makeSound) (maxL := 2) (ret := none) (by decide) rfl ?_
  intro p e s m args below meth c s₁ B hml hv0
  obtain ⟨hav, hW⟩ := hv0
  have hx := B.exec
  have hb := B.bytes
  have hr := B.returns
  have hts := atoms_spec (ws := (wb yX3_makeSound cX3_makeSound 2 none)) B.pre
  have hown : s.vm.findClass RX3 = some m.cls := findClass_of_methodNamed B.named
  have hlocks := B.notSynchronized
  have hinX3 : ∀ w ∈ u_ws RX3 TX3 6, w ∈ (wb yX3_makeSound cX3_makeSound 2 none) := fun _ h => List.mem_cons_of_mem _ (inlX3 _ h)
  have hW : Wd G M0 s s.heap := hW
  have hS : va_S (PA G) s.heap s.heap [] := va_S.rf
  have hl := lv_entry [.ref (gA G (5 + k)), .int (i3 (x1))] (n := 2) (Nat.le_of_ble_eq_true rfl)
  have hent := lg_entry_eq m [.ref (gA G (5 + k)), .int (i3 (x1))] 2
  rw [← hav] at hent
  rw [hent]
  clear hent
  generalize (lg_sl [.ref (gA G (5 + k)), .int (i3 (x1))] ++ List.replicate (2 - (lg_sl [.ref (gA G (5 + k)), .int (i3 (x1))]).length) Slot.unset).toArray = ls at hl ⊢
  have hl : lv_has ls 2 [(0, .ref (gA G (5 + k))), (1, .int (i3 (x1)))] := hl
  unfold fW_makeSound at hf
  show W p l e ({ frames := 1, cells := 0, slots := 0, locals := 22 } : Room) s m args below meth c s.heap [] 0 0 (MQ below (QcV G r) args s 0 0 (PA G)) (F0 m 0 ls [])
  refine lv_aload_n hx hb dX3_makeSound_0 rfl (lv_at hl 0 rfl) ?_
  refine va_get (D := G.1) (ci := 3) (v := .ref (gA G (16 + 6 * k + 4))) (C := RX3) (T := TX3) (N := 6) hx hb hts hinX3 hown hW.K hW.P (5 + k) (he_wall hk G M0) rfl 4 (by decide) (hts _ (List.mem_cons_of_mem _ (inB_2 _ (List.mem_of_getElem? (i := 17) rfl)))) (fun _ h9 => h9) rfl dX3_makeSound_1 ?_
  refine lv_iload_n hx hb dX3_makeSound_4 rfl (lv_at hl 1 rfl) ?_
  refine k_const hx hb dX3_makeSound_5 ?_
  obtain ⟨m1, hm1, hf⟩ := bind_el hf
  refine k_cNv (As := [.ref (gA G (16 + 6 * k + 4)), .int (i3 (x1)), .int (i3 (0))]) (rest := []) ⟨hx, hb, hml, hown, hts⟩ (mG_put l G M0 (16 + 6 * k + 4) (by omega) x1 hx1 0 (show inR (0) by decide) m1 hm1) ⟨va_cnB 3 hts (gbC (inB_6 _ (List.mem_of_getElem? (i := 0) rfl))) rfl rfl rfl (hW.N _ (List.mem_of_getElem? (i := 2) rfl)) (hts _ (List.mem_cons_of_mem _ (inB_1 _ (List.mem_of_getElem? (i := 2) rfl)))) (by decide +kernel) ⟨Nat.le_of_ble_eq_true rfl, Nat.le_of_ble_eq_true rfl⟩, (hts _ (List.mem_cons_of_mem _ (inB_5 _ (List.mem_of_getElem? (i := 23) rfl)))), trivial⟩ hW hS rfl hl.1 rfl (lv_room (Nat.le_of_ble_eq_true rfl)) dX3_makeSound_6 ⟨Nat.zero_le _, Nat.zero_le _⟩ (fun H locs hW hS => ?_)
  obtain rfl := some_el hf
  exact k_retv hx hb hr hlocks hW hS rfl dX3_makeSound_9
set_option maxHeartbeats 4000000 in
set_option maxRecDepth 100000 in
theorem mW_sumOf (l : Launch) (G : gG) (M0 : MemG) (k : Nat) (hk : k < 11) (x1 : Int) (hx1 : inR x1) (r : Int) (hf : fW_sumOf M0 k x1 = r) : Met l yX3_sumOf (wb yX3_sumOf cX3_sumOf 2 (some .int)) ({ frames := 1, cells := 0, slots := 0, locals := 21 } : Room) (PcG G M0 [.ref (gA G (5 + k)), .int (i3 (x1))]) (QcI G M0 r) 0 0 (PA G) := by
  refine Met.ofW (cc := cX3_sumOf) (maxL := 2) (ret := (some .int)) (by decide) rfl ?_
  intro p e s m args below meth c s₁ B hml hv0
  obtain ⟨hav, hW⟩ := hv0
  have hx := B.exec
  have hb := B.bytes
  have hr := B.returns
  have hts := atoms_spec (ws := (wb yX3_sumOf cX3_sumOf 2 (some .int))) B.pre
  have hown : s.vm.findClass RX3 = some m.cls := findClass_of_methodNamed B.named
  have hlocks := B.notSynchronized
  have hinX3 : ∀ w ∈ u_ws RX3 TX3 6, w ∈ (wb yX3_sumOf cX3_sumOf 2 (some .int)) := fun _ h => List.mem_cons_of_mem _ (inlX3 _ h)
  have hW : Wd G M0 s s.heap := hW
  have hS : va_S (PA G) s.heap s.heap [] := va_S.rf
  have hl := lv_entry [.ref (gA G (5 + k)), .int (i3 (x1))] (n := 2) (Nat.le_of_ble_eq_true rfl)
  have hent := lg_entry_eq m [.ref (gA G (5 + k)), .int (i3 (x1))] 2
  rw [← hav] at hent
  rw [hent]
  clear hent
  generalize (lg_sl [.ref (gA G (5 + k)), .int (i3 (x1))] ++ List.replicate (2 - (lg_sl [.ref (gA G (5 + k)), .int (i3 (x1))]).length) Slot.unset).toArray = ls at hl ⊢
  have hl : lv_has ls 2 [(0, .ref (gA G (5 + k))), (1, .int (i3 (x1)))] := hl
  unfold fW_sumOf at hf
  show W p l e ({ frames := 1, cells := 0, slots := 0, locals := 21 } : Room) s m args below meth c s.heap [] 0 0 (MQ below (QcI G M0 r) args s 0 0 (PA G)) (F0 m 0 ls [])
  refine lv_aload_n hx hb dX3_sumOf_0 rfl (lv_at hl 0 rfl) ?_
  refine va_get (D := G.1) (ci := 3) (v := .ref (gA G (16 + 6 * k + 3))) (C := RX3) (T := TX3) (N := 6) hx hb hts hinX3 hown hW.K hW.P (5 + k) (he_wall hk G M0) rfl 3 (by decide) (hts _ (List.mem_cons_of_mem _ (inB_2 _ (List.mem_of_getElem? (i := 16) rfl)))) (fun _ h9 => h9) rfl dX3_sumOf_1 ?_
  refine lv_iload_n hx hb dX3_sumOf_4 rfl (lv_at hl 1 rfl) ?_
  refine k_cNi (As := [.ref (gA G (16 + 6 * k + 3)), .int (i3 (x1))]) (rest := []) ⟨hx, hb, hml, hown, hts⟩ (mG_at l G M0 (16 + 6 * k + 3) (by omega) x1 hx1 _ rfl) ⟨va_cnB 2 hts (gbC (inB_5 _ (List.mem_of_getElem? (i := 2) rfl))) rfl rfl rfl (hW.N _ (List.mem_of_getElem? (i := 1) rfl)) (hts _ (List.mem_cons_of_mem _ (inB_1 _ (List.mem_of_getElem? (i := 2) rfl)))) (by decide +kernel) ⟨Nat.le_of_ble_eq_true rfl, Nat.le_of_ble_eq_true rfl⟩, (hts _ (List.mem_cons_of_mem _ (inB_5 _ (List.mem_of_getElem? (i := 1) rfl)))), trivial⟩ hW hS rfl hl.1 rfl (lv_room (Nat.le_of_ble_eq_true rfl)) dX3_sumOf_5 ⟨Nat.zero_le _, Nat.zero_le _⟩ (fun hv1 H locs hW hS => ?_)
  subst hf
  exact k_ret hx hb hr hlocks hW hS rfl hv1 dX3_sumOf_8
set_option maxHeartbeats 4000000 in
set_option maxRecDepth 100000 in
theorem mW_ageIn (l : Launch) (G : gG) (M0 : MemG) (k : Nat) (hk : k < 11) (x1 : Int) (hx1 : inR x1) (r : Int) (hf : fW_ageIn M0 k x1 = r) : Met l yX3_ageIn (wb yX3_ageIn cX3_ageIn 2 (some .int)) ({ frames := 1, cells := 0, slots := 0, locals := 21 } : Room) (PcG G M0 [.ref (gA G (5 + k)), .int (i3 (x1))]) (QcI G M0 r) 0 0 (PA G) := by
  refine Met.ofW (cc := cX3_ageIn) (maxL := 2) (ret := (some .int)) (by decide) rfl ?_
  intro p e s m args below meth c s₁ B hml hv0
  obtain ⟨hav, hW⟩ := hv0
  have hx := B.exec
  have hb := B.bytes
  have hr := B.returns
  have hts := atoms_spec (ws := (wb yX3_ageIn cX3_ageIn 2 (some .int))) B.pre
  have hown : s.vm.findClass RX3 = some m.cls := findClass_of_methodNamed B.named
  have hlocks := B.notSynchronized
  have hinX3 : ∀ w ∈ u_ws RX3 TX3 6, w ∈ (wb yX3_ageIn cX3_ageIn 2 (some .int)) := fun _ h => List.mem_cons_of_mem _ (inlX3 _ h)
  have hW : Wd G M0 s s.heap := hW
  have hS : va_S (PA G) s.heap s.heap [] := va_S.rf
  have hl := lv_entry [.ref (gA G (5 + k)), .int (i3 (x1))] (n := 2) (Nat.le_of_ble_eq_true rfl)
  have hent := lg_entry_eq m [.ref (gA G (5 + k)), .int (i3 (x1))] 2
  rw [← hav] at hent
  rw [hent]
  clear hent
  generalize (lg_sl [.ref (gA G (5 + k)), .int (i3 (x1))] ++ List.replicate (2 - (lg_sl [.ref (gA G (5 + k)), .int (i3 (x1))]).length) Slot.unset).toArray = ls at hl ⊢
  have hl : lv_has ls 2 [(0, .ref (gA G (5 + k))), (1, .int (i3 (x1)))] := hl
  unfold fW_ageIn at hf
  show W p l e ({ frames := 1, cells := 0, slots := 0, locals := 21 } : Room) s m args below meth c s.heap [] 0 0 (MQ below (QcI G M0 r) args s 0 0 (PA G)) (F0 m 0 ls [])
  refine lv_aload_n hx hb dX3_ageIn_0 rfl (lv_at hl 0 rfl) ?_
  refine va_get (D := G.1) (ci := 3) (v := .ref (gA G (16 + 6 * k + 2))) (C := RX3) (T := TX3) (N := 6) hx hb hts hinX3 hown hW.K hW.P (5 + k) (he_wall hk G M0) rfl 2 (by decide) (hts _ (List.mem_cons_of_mem _ (inB_2 _ (List.mem_of_getElem? (i := 15) rfl)))) (fun _ h9 => h9) rfl dX3_ageIn_1 ?_
  refine lv_iload_n hx hb dX3_ageIn_4 rfl (lv_at hl 1 rfl) ?_
  refine k_cNi (As := [.ref (gA G (16 + 6 * k + 2)), .int (i3 (x1))]) (rest := []) ⟨hx, hb, hml, hown, hts⟩ (mG_at l G M0 (16 + 6 * k + 2) (by omega) x1 hx1 _ rfl) ⟨va_cnB 2 hts (gbC (inB_5 _ (List.mem_of_getElem? (i := 2) rfl))) rfl rfl rfl (hW.N _ (List.mem_of_getElem? (i := 1) rfl)) (hts _ (List.mem_cons_of_mem _ (inB_1 _ (List.mem_of_getElem? (i := 2) rfl)))) (by decide +kernel) ⟨Nat.le_of_ble_eq_true rfl, Nat.le_of_ble_eq_true rfl⟩, (hts _ (List.mem_cons_of_mem _ (inB_5 _ (List.mem_of_getElem? (i := 1) rfl)))), trivial⟩ hW hS rfl hl.1 rfl (lv_room (Nat.le_of_ble_eq_true rfl)) dX3_ageIn_5 ⟨Nat.zero_le _, Nat.zero_le _⟩ (fun hv1 H locs hW hS => ?_)
  subst hf
  exact k_ret hx hb hr hlocks hW hS rfl hv1 dX3_ageIn_8
set_option maxHeartbeats 4000000 in
set_option maxRecDepth 100000 in
theorem mW_changeSacks (l : Launch) (G : gG) (M0 : MemG) (k : Nat) (hk : k < 11) (x1 : Int) (hx1 : inR x1) (x2 : Int) (hx2 : inR x2) (r : MemG) (hf : fW_changeSacks M0 k x1 x2 = some r) : Met l yX3_changeSacks (wb yX3_changeSacks cX3_changeSacks 5 none) ({ frames := 1, cells := 0, slots := 0, locals := 22 } : Room) (PcG G M0 [.ref (gA G (5 + k)), .int (i3 (x1)), .int (i3 (x2))]) (QcV G r) 0 0 (PA G) := by
  refine Met.ofW (cc := cX3_changeSacks) (maxL := 5) (ret := none) (by decide) rfl ?_
  intro p e s m args below meth c s₁ B hml hv0
  obtain ⟨hav, hW⟩ := hv0
  have hx := B.exec
  have hb := B.bytes
  have hr := B.returns
  have hts := atoms_spec (ws := (wb yX3_changeSacks cX3_changeSacks 5 none)) B.pre
  have hown : s.vm.findClass RX3 = some m.cls := findClass_of_methodNamed B.named
  have hlocks := B.notSynchronized
  have hinX3 : ∀ w ∈ u_ws RX3 TX3 6, w ∈ (wb yX3_changeSacks cX3_changeSacks 5 none) := fun _ h => List.mem_cons_of_mem _ (inlX3 _ h)
  have hW : Wd G M0 s s.heap := hW
  have hS : va_S (PA G) s.heap s.heap [] := va_S.rf
  have hl := lv_entry [.ref (gA G (5 + k)), .int (i3 (x1)), .int (i3 (x2))] (n := 5) (Nat.le_of_ble_eq_true rfl)
  have hent := lg_entry_eq m [.ref (gA G (5 + k)), .int (i3 (x1)), .int (i3 (x2))] 5
  rw [← hav] at hent
  rw [hent]
  clear hent
  generalize (lg_sl [.ref (gA G (5 + k)), .int (i3 (x1)), .int (i3 (x2))] ++ List.replicate (5 - (lg_sl [.ref (gA G (5 + k)), .int (i3 (x1)), .int (i3 (x2))]).length) Slot.unset).toArray = ls at hl ⊢
  have hl : lv_has ls 5 [(0, .ref (gA G (5 + k))), (1, .int (i3 (x1))), (2, .int (i3 (x2)))] := hl
  unfold fW_changeSacks at hf
  show W p l e ({ frames := 1, cells := 0, slots := 0, locals := 22 } : Room) s m args below meth c s.heap [] 0 0 (MQ below (QcV G r) args s 0 0 (PA G)) (F0 m 0 ls [])
  have L15 : ∀ (x2 : Int) (hx2 : inR x2), ∀ (z : (Int × Int × MemG)) (q : (MemG)), loopN (fW_changeSacks_l25 k x2) 200 z = some q → (q = r) → (inR (z.1) → inR (z.2.1) → ∀ (H : Heap) (locs : List Loc) (ls : Array Slot), Wd G (z.2.2) s H → va_S (PA G) s.heap H locs → lv_has ls 5 [(0, .ref (gA G (5 + k))), (2, .int (i3 (x2))), (3, .int (i3 (z.1))), (4, .int (i3 (z.2.1)))] → W p l e ({ frames := 1, cells := 0, slots := 0, locals := 22 } : Room) s m args below meth c H locs 0 0 (MQ below (QcV G r) args s 0 0 (PA G)) (F0 m 25 ls [])) := by
    intro x2 hx2 z q hq hex
    refine loop_rule (fW_changeSacks_l25 k x2) (fun z => inR (z.1) → inR (z.2.1) → ∀ (H : Heap) (locs : List Loc) (ls : Array Slot), Wd G (z.2.2) s H → va_S (PA G) s.heap H locs → lv_has ls 5 [(0, .ref (gA G (5 + k))), (2, .int (i3 (x2))), (3, .int (i3 (z.1))), (4, .int (i3 (z.2.1)))] → W p l e ({ frames := 1, cells := 0, slots := 0, locals := 22 } : Room) s m args below meth c H locs 0 0 (MQ below (QcV G r) args s 0 0 (PA G)) (F0 m 25 ls [])) (fun q => (q = r)) ?_ 200 z q hq hex
    clear hq hex q z
    intro z x hf hK hz3 hz4 H locs ls hW hS hl
    unfold fW_changeSacks_l25 at hf
    refine lv_iload hx hb dX3_changeSacks_25 (lv_at hl 3 rfl) ?_
    refine k_bipush hx hb dX3_changeSacks_27 (by decide +kernel) ?_
    refine k_icmp_ge (tgt := 69) hx hb hz4 (show inR (32) by decide) dX3_changeSacks_29 (by decide) (fun hc6 => ?_) (fun hc6 => ?_)
    · rw [if_neg hc6] at hf
      obtain rfl := some_el hf
      obtain rfl : z.2.2 = r := hK
      exact k_retv hx hb hr hlocks hW hS rfl dX3_changeSacks_69
    · rw [if_pos hc6] at hf
      refine lv_iload_n hx hb dX3_changeSacks_32 rfl (lv_at hl 2 rfl) ?_
      refine k_bipush hx hb dX3_changeSacks_33 (by decide +kernel) ?_
      refine k_icmp_gt (tgt := 69) hx hb hz3 (show inR (32) by decide) dX3_changeSacks_35 (by decide) (fun hc7 => ?_) (fun hc7 => ?_)
      · rw [if_pos hc7] at hf
        obtain rfl := some_el hf
        obtain rfl : z.2.2 = r := hK
        exact k_retv hx hb hr hlocks hW hS rfl dX3_changeSacks_69
      · rw [if_neg hc7] at hf
        refine lv_aload_n hx hb dX3_changeSacks_38 rfl (lv_at hl 0 rfl) ?_
        refine va_get (D := G.1) (ci := 3) (v := .ref (gA G (16 + 6 * k + 3))) (C := RX3) (T := TX3) (N := 6) hx hb hts hinX3 hown hW.K hW.P (5 + k) (he_wall hk G z.2.2) rfl 3 (by decide) (hts _ (List.mem_cons_of_mem _ (inB_2 _ (List.mem_of_getElem? (i := 16) rfl)))) (fun _ h9 => h9) rfl dX3_changeSacks_39 ?_
        refine lv_iload_n hx hb dX3_changeSacks_42 rfl (lv_at hl 2 rfl) ?_
        refine lv_aload_n hx hb dX3_changeSacks_43 rfl (lv_at hl 0 rfl) ?_
        refine va_get (D := G.1) (ci := 3) (v := .ref (gA G (16 + 6 * k + 3))) (C := RX3) (T := TX3) (N := 6) hx hb hts hinX3 hown hW.K hW.P (5 + k) (he_wall hk G z.2.2) rfl 3 (by decide) (hts _ (List.mem_cons_of_mem _ (inB_2 _ (List.mem_of_getElem? (i := 16) rfl)))) (fun _ h9 => h9) rfl dX3_changeSacks_44 ?_
        refine lv_iload_n hx hb dX3_changeSacks_47 rfl (lv_at hl 2 rfl) ?_
        refine k_cNi (As := [.ref (gA G (16 + 6 * k + 3)), .int (i3 (z.1))]) (rest := [.int (i3 (z.1)), .ref (gA G (16 + 6 * k + 3))]) ⟨hx, hb, hml, hown, hts⟩ (mG_at l G z.2.2 (16 + 6 * k + 3) (by omega) z.1 hz3 _ rfl) ⟨va_cnB 2 hts (gbC (inB_5 _ (List.mem_of_getElem? (i := 2) rfl))) rfl rfl rfl (hW.N _ (List.mem_of_getElem? (i := 1) rfl)) (hts _ (List.mem_cons_of_mem _ (inB_1 _ (List.mem_of_getElem? (i := 2) rfl)))) (by decide +kernel) ⟨Nat.le_of_ble_eq_true rfl, Nat.le_of_ble_eq_true rfl⟩, (hts _ (List.mem_cons_of_mem _ (inB_5 _ (List.mem_of_getElem? (i := 1) rfl)))), trivial⟩ hW hS rfl hl.1 rfl (lv_room (Nat.le_of_ble_eq_true rfl)) dX3_changeSacks_48 ⟨Nat.zero_le _, Nat.zero_le _⟩ (fun hv8 H locs hW hS => ?_)
        refine lv_iload_n hx hb dX3_changeSacks_51 rfl (lv_at hl 1 rfl) ?_
        refine k_add hx hb dX3_changeSacks_52 ?_
        obtain ⟨hg9, hf⟩ := gd_el hf
        obtain ⟨m10, hm10, hf⟩ := bind_el hf
        refine k_cNv (As := [.ref (gA G (16 + 6 * k + 3)), .int (i3 (z.1)), .int (i3 (((fG_at z.2.2 (16 + 6 * k + 3) z.1)) + x2))]) (rest := []) ⟨hx, hb, hml, hown, hts⟩ (mG_put l G z.2.2 (16 + 6 * k + 3) (by omega) z.1 hz3 (((fG_at z.2.2 (16 + 6 * k + 3) z.1)) + x2) hg9 m10 hm10) ⟨va_cnB 3 hts (gbC (inB_6 _ (List.mem_of_getElem? (i := 0) rfl))) rfl rfl rfl (hW.N _ (List.mem_of_getElem? (i := 2) rfl)) (hts _ (List.mem_cons_of_mem _ (inB_1 _ (List.mem_of_getElem? (i := 2) rfl)))) (by decide +kernel) ⟨Nat.le_of_ble_eq_true rfl, Nat.le_of_ble_eq_true rfl⟩, (hts _ (List.mem_cons_of_mem _ (inB_5 _ (List.mem_of_getElem? (i := 23) rfl)))), trivial⟩ hW hS rfl hl.1 rfl (lv_room (Nat.le_of_ble_eq_true rfl)) dX3_changeSacks_53 ⟨Nat.zero_le _, Nat.zero_le _⟩ (fun H locs hW hS => ?_)
        refine lv_iload_n hx hb dX3_changeSacks_56 rfl (lv_at hl 2 rfl) ?_
        refine lv_iload_n hx hb dX3_changeSacks_57 rfl (lv_at hl 2 rfl) ?_
        refine k_cNi (As := [.int (i3 (z.1))]) (rest := [.int (i3 (z.1))]) ⟨hx, hb, hml, hown, hts⟩ (mG_sizeOf l G m10 z.1 hz3 _ rfl) ⟨va_cnB 1 hts (gbC (inB_6 _ (List.mem_of_getElem? (i := 14) rfl))) rfl rfl rfl (hW.N _ (List.mem_of_getElem? (i := 3) rfl)) (hts _ (List.mem_cons_of_mem _ (inB_1 _ (List.mem_of_getElem? (i := 2) rfl)))) (by decide +kernel) ⟨Nat.le_of_ble_eq_true rfl, Nat.le_of_ble_eq_true rfl⟩, (hts _ (List.mem_cons_of_mem _ (inB_6 _ (List.mem_of_getElem? (i := 13) rfl)))), trivial⟩ hW hS rfl hl.1 rfl (lv_room (Nat.le_of_ble_eq_true rfl)) dX3_changeSacks_58 ⟨Nat.zero_le _, Nat.zero_le _⟩ (fun hv12 H locs hW hS => ?_)
        refine k_add hx hb dX3_changeSacks_61 ?_
        obtain ⟨hg13, hf⟩ := gd_el hf
        refine lv_istore_n (lv' := [(3, .int (i3 (z.1 + ((fG_sizeOf z.1))))), (0, .ref (gA G (5 + k))), (2, .int (i3 (x2))), (4, .int (i3 (z.2.1)))]) hx hb dX3_changeSacks_62 rfl hl (by decide) rfl (fun ls hl => ?_)
        obtain ⟨hg14, hf⟩ := gd_el hf
        refine k_iinc (lv' := [(4, .int (i3 (z.2.1 + 1))), (3, .int (i3 (z.1 + ((fG_sizeOf z.1))))), (0, .ref (gA G (5 + k))), (2, .int (i3 (x2)))]) hx hb dX3_changeSacks_63 hl (k := 3) rfl (by decide) rfl (fun ls hl => ?_)
        refine lv_goto (tgt := 25) hx hb dX3_changeSacks_66 (by decide) ?_
        obtain rfl := some_el hf
        exact hK hg13 hg14 _ _ _ hW hS (lv_sub hl [2, 3, 1, 0] rfl)
  refine lv_aload_n hx hb dX3_changeSacks_0 rfl (lv_at hl 0 rfl) ?_
  refine va_get (D := G.1) (ci := 3) (v := .ref (gA G (16 + 6 * k + 1))) (C := RX3) (T := TX3) (N := 6) hx hb hts hinX3 hown hW.K hW.P (5 + k) (he_wall hk G M0) rfl 1 (by decide) (hts _ (List.mem_cons_of_mem _ (inB_2 _ (List.mem_of_getElem? (i := 14) rfl)))) (fun _ h9 => h9) rfl dX3_changeSacks_1 ?_
  refine lv_iload_n hx hb dX3_changeSacks_4 rfl (lv_at hl 1 rfl) ?_
  refine lv_aload_n hx hb dX3_changeSacks_5 rfl (lv_at hl 0 rfl) ?_
  refine va_get (D := G.1) (ci := 3) (v := .ref (gA G (16 + 6 * k + 1))) (C := RX3) (T := TX3) (N := 6) hx hb hts hinX3 hown hW.K hW.P (5 + k) (he_wall hk G M0) rfl 1 (by decide) (hts _ (List.mem_cons_of_mem _ (inB_2 _ (List.mem_of_getElem? (i := 14) rfl)))) (fun _ h9 => h9) rfl dX3_changeSacks_6 ?_
  refine lv_iload_n hx hb dX3_changeSacks_9 rfl (lv_at hl 1 rfl) ?_
  refine k_cNi (As := [.ref (gA G (16 + 6 * k + 1)), .int (i3 (x1))]) (rest := [.int (i3 (x1)), .ref (gA G (16 + 6 * k + 1))]) ⟨hx, hb, hml, hown, hts⟩ (mG_at l G M0 (16 + 6 * k + 1) (by omega) x1 hx1 _ rfl) ⟨va_cnB 2 hts (gbC (inB_5 _ (List.mem_of_getElem? (i := 2) rfl))) rfl rfl rfl (hW.N _ (List.mem_of_getElem? (i := 1) rfl)) (hts _ (List.mem_cons_of_mem _ (inB_1 _ (List.mem_of_getElem? (i := 2) rfl)))) (by decide +kernel) ⟨Nat.le_of_ble_eq_true rfl, Nat.le_of_ble_eq_true rfl⟩, (hts _ (List.mem_cons_of_mem _ (inB_5 _ (List.mem_of_getElem? (i := 1) rfl)))), trivial⟩ hW hS rfl hl.1 rfl (lv_room (Nat.le_of_ble_eq_true rfl)) dX3_changeSacks_10 ⟨Nat.zero_le _, Nat.zero_le _⟩ (fun hv1 H locs hW hS => ?_)
  refine lv_iload_n hx hb dX3_changeSacks_13 rfl (lv_at hl 2 rfl) ?_
  refine k_add hx hb dX3_changeSacks_14 ?_
  obtain ⟨hg2, hf⟩ := gd_el hf
  obtain ⟨m3, hm3, hf⟩ := bind_el hf
  refine k_cNv (As := [.ref (gA G (16 + 6 * k + 1)), .int (i3 (x1)), .int (i3 (((fG_at M0 (16 + 6 * k + 1) x1)) + x2))]) (rest := []) ⟨hx, hb, hml, hown, hts⟩ (mG_put l G M0 (16 + 6 * k + 1) (by omega) x1 hx1 (((fG_at M0 (16 + 6 * k + 1) x1)) + x2) hg2 m3 hm3) ⟨va_cnB 3 hts (gbC (inB_6 _ (List.mem_of_getElem? (i := 0) rfl))) rfl rfl rfl (hW.N _ (List.mem_of_getElem? (i := 2) rfl)) (hts _ (List.mem_cons_of_mem _ (inB_1 _ (List.mem_of_getElem? (i := 2) rfl)))) (by decide +kernel) ⟨Nat.le_of_ble_eq_true rfl, Nat.le_of_ble_eq_true rfl⟩, (hts _ (List.mem_cons_of_mem _ (inB_5 _ (List.mem_of_getElem? (i := 23) rfl)))), trivial⟩ hW hS rfl hl.1 rfl (lv_room (Nat.le_of_ble_eq_true rfl)) dX3_changeSacks_15 ⟨Nat.zero_le _, Nat.zero_le _⟩ (fun H locs hW hS => ?_)
  refine lv_iload_n hx hb dX3_changeSacks_18 rfl (lv_at hl 1 rfl) ?_
  refine k_const hx hb dX3_changeSacks_19 ?_
  refine k_add hx hb dX3_changeSacks_20 ?_
  obtain ⟨hg5, hf⟩ := gd_el hf
  refine lv_istore_n (lv' := [(3, .int (i3 (x1 + 1))), (0, .ref (gA G (5 + k))), (1, .int (i3 (x1))), (2, .int (i3 (x2)))]) hx hb dX3_changeSacks_21 rfl hl (by decide) rfl (fun ls hl => ?_)
  refine k_const hx hb dX3_changeSacks_22 ?_
  refine lv_istore (lv' := [(4, .int (i3 (0))), (3, .int (i3 (x1 + 1))), (0, .ref (gA G (5 + k))), (1, .int (i3 (x1))), (2, .int (i3 (x2)))]) hx hb dX3_changeSacks_23 hl (by decide) rfl (fun ls hl => ?_)
  exact L15 (x2) hx2 (x1 + 1, 0, m3) r hf rfl hg5 (show inR (0) by decide) _ _ _ hW hS (lv_sub hl [2, 4, 1, 0] rfl)
set_option maxHeartbeats 4000000 in
set_option maxRecDepth 100000 in
theorem mW_crackOver (l : Launch) (G : gG) (M0 : MemG) (k : Nat) (hk : k < 11) (x1 : Int) (hx1 : inR x1) (r : MemG × Int) (hf : fW_crackOver M0 k x1 = some r) : Met l yX3_crackOver (wb yX3_crackOver cX3_crackOver 5 (some .int)) ({ frames := 2, cells := 0, slots := 0, locals := 44 } : Room) (PcG G M0 [.ref (gA G (5 + k)), .int (i3 (x1))]) (QcI G r.1 r.2) 0 0 (PA G) := by
  refine Met.ofW (cc := cX3_crackOver) (maxL := 5) (ret := (some .int)) (by decide) rfl ?_
  intro p e s m args below meth c s₁ B hml hv0
  obtain ⟨hav, hW⟩ := hv0
  have hx := B.exec
  have hb := B.bytes
  have hr := B.returns
  have hts := atoms_spec (ws := (wb yX3_crackOver cX3_crackOver 5 (some .int))) B.pre
  have hown : s.vm.findClass RX3 = some m.cls := findClass_of_methodNamed B.named
  have hlocks := B.notSynchronized
  have hinX3 : ∀ w ∈ u_ws RX3 TX3 6, w ∈ (wb yX3_crackOver cX3_crackOver 5 (some .int)) := fun _ h => List.mem_cons_of_mem _ (inlX3 _ h)
  have hW : Wd G M0 s s.heap := hW
  have hS : va_S (PA G) s.heap s.heap [] := va_S.rf
  have hl := lv_entry [.ref (gA G (5 + k)), .int (i3 (x1))] (n := 5) (Nat.le_of_ble_eq_true rfl)
  have hent := lg_entry_eq m [.ref (gA G (5 + k)), .int (i3 (x1))] 5
  rw [← hav] at hent
  rw [hent]
  clear hent
  generalize (lg_sl [.ref (gA G (5 + k)), .int (i3 (x1))] ++ List.replicate (5 - (lg_sl [.ref (gA G (5 + k)), .int (i3 (x1))]).length) Slot.unset).toArray = ls at hl ⊢
  have hl : lv_has ls 5 [(0, .ref (gA G (5 + k))), (1, .int (i3 (x1)))] := hl
  unfold fW_crackOver at hf
  show W p l e ({ frames := 2, cells := 0, slots := 0, locals := 44 } : Room) s m args below meth c s.heap [] 0 0 (MQ below (QcI G r.1 r.2) args s 0 0 (PA G)) (F0 m 0 ls [])
  have L17 : ∀ (z : (Int × Int × Int × MemG)) (q : (Int × MemG)), loopN (fW_crackOver_l9 k) 200 z = some q → (inR (q.1) → ∀ (H : Heap) (locs : List Loc) (ls : Array Slot), Wd G (q.2) s H → va_S (PA G) s.heap H locs → lv_has ls 5 [(0, .ref (gA G (5 + k))), (2, .int (i3 (q.1)))] → W p l e ({ frames := 2, cells := 0, slots := 0, locals := 44 } : Room) s m args below meth c H locs 0 0 (MQ below (QcI G r.1 r.2) args s 0 0 (PA G)) (F0 m 67 ls [])) → (inR (z.1) → inR (z.2.1) → inR (z.2.2.1) → ∀ (H : Heap) (locs : List Loc) (ls : Array Slot), Wd G (z.2.2.2) s H → va_S (PA G) s.heap H locs → lv_has ls 5 [(0, .ref (gA G (5 + k))), (2, .int (i3 (z.1))), (3, .int (i3 (z.2.1))), (4, .int (i3 (z.2.2.1)))] → W p l e ({ frames := 2, cells := 0, slots := 0, locals := 44 } : Room) s m args below meth c H locs 0 0 (MQ below (QcI G r.1 r.2) args s 0 0 (PA G)) (F0 m 9 ls [])) := by
    intro z q hq hex
    refine loop_rule (fW_crackOver_l9 k) (fun z => inR (z.1) → inR (z.2.1) → inR (z.2.2.1) → ∀ (H : Heap) (locs : List Loc) (ls : Array Slot), Wd G (z.2.2.2) s H → va_S (PA G) s.heap H locs → lv_has ls 5 [(0, .ref (gA G (5 + k))), (2, .int (i3 (z.1))), (3, .int (i3 (z.2.1))), (4, .int (i3 (z.2.2.1)))] → W p l e ({ frames := 2, cells := 0, slots := 0, locals := 44 } : Room) s m args below meth c H locs 0 0 (MQ below (QcI G r.1 r.2) args s 0 0 (PA G)) (F0 m 9 ls [])) (fun q => (inR (q.1) → ∀ (H : Heap) (locs : List Loc) (ls : Array Slot), Wd G (q.2) s H → va_S (PA G) s.heap H locs → lv_has ls 5 [(0, .ref (gA G (5 + k))), (2, .int (i3 (q.1)))] → W p l e ({ frames := 2, cells := 0, slots := 0, locals := 44 } : Room) s m args below meth c H locs 0 0 (MQ below (QcI G r.1 r.2) args s 0 0 (PA G)) (F0 m 67 ls []))) ?_ 200 z q hq hex
    clear hq hex q z
    intro z x hf hK hz2 hz3 hz4 H locs ls hW hS hl
    have J6 : ∀ (M : MemG) (x2 : Int) (x3 : Int) (x4 : Int), fW_crackOver_j54 M k x2 x3 x4 = some x → inR x2 → inR x3 → inR x4 →  ∀ (H : Heap) (locs : List Loc) (ls : Array Slot), Wd G M s H → va_S (PA G) s.heap H locs → lv_has ls 5 [(0, .ref (gA G (5 + k))), (2, .int (i3 (x2))), (3, .int (i3 (x3))), (4, .int (i3 (x4)))] → W p l e ({ frames := 2, cells := 0, slots := 0, locals := 44 } : Room) s m args below meth c H locs 0 0 (MQ below (QcI G r.1 r.2) args s 0 0 (PA G)) (F0 m 54 ls []) := by
      intro M x2 x3 x4 hf hx2 hx3 hx4 H locs ls hW hS hl
      unfold fW_crackOver_j54 at hf
      refine lv_iload_n hx hb dX3_crackOver_54 rfl (lv_at hl 2 rfl) ?_
      refine lv_iload_n hx hb dX3_crackOver_55 rfl (lv_at hl 2 rfl) ?_
      refine k_cNi (As := [.int (i3 (x3))]) (rest := [.int (i3 (x3))]) ⟨hx, hb, hml, hown, hts⟩ (mG_sizeOf l G M x3 hx3 _ rfl) ⟨va_cnB 1 hts (gbC (inB_6 _ (List.mem_of_getElem? (i := 14) rfl))) rfl rfl rfl (hW.N _ (List.mem_of_getElem? (i := 3) rfl)) (hts _ (List.mem_cons_of_mem _ (inB_1 _ (List.mem_of_getElem? (i := 2) rfl)))) (by decide +kernel) ⟨Nat.le_of_ble_eq_true rfl, Nat.le_of_ble_eq_true rfl⟩, (hts _ (List.mem_cons_of_mem _ (inB_6 _ (List.mem_of_getElem? (i := 13) rfl)))), trivial⟩ hW hS rfl hl.1 rfl (lv_room (Nat.le_of_ble_eq_true rfl)) dX3_crackOver_56 ⟨Nat.zero_le _, Nat.zero_le _⟩ (fun hv7 H locs hW hS => ?_)
      refine k_add hx hb dX3_crackOver_59 ?_
      obtain ⟨hg8, hf⟩ := gd_el hf
      refine lv_istore_n (lv' := [(3, .int (i3 (x3 + ((fG_sizeOf x3))))), (0, .ref (gA G (5 + k))), (2, .int (i3 (x2))), (4, .int (i3 (x4)))]) hx hb dX3_crackOver_60 rfl hl (by decide) rfl (fun ls hl => ?_)
      obtain ⟨hg9, hf⟩ := gd_el hf
      refine k_iinc (lv' := [(4, .int (i3 (x4 + 1))), (3, .int (i3 (x3 + ((fG_sizeOf x3))))), (0, .ref (gA G (5 + k))), (2, .int (i3 (x2)))]) hx hb dX3_crackOver_61 hl (k := 3) rfl (by decide) rfl (fun ls hl => ?_)
      refine lv_goto (tgt := 9) hx hb dX3_crackOver_64 (by decide) ?_
      obtain rfl := some_el hf
      exact hK hx2 hg8 hg9 _ _ _ hW hS (lv_sub hl [2, 3, 1, 0] rfl)
    unfold fW_crackOver_l9 at hf
    refine lv_iload hx hb dX3_crackOver_9 (lv_at hl 3 rfl) ?_
    refine k_bipush hx hb dX3_crackOver_11 (by decide +kernel) ?_
    refine k_icmp_ge (tgt := 67) hx hb hz4 (show inR (32) by decide) dX3_crackOver_13 (by decide) (fun hc2 => ?_) (fun hc2 => ?_)
    · rw [if_neg hc2] at hf
      obtain rfl := some_el hf
      exact hK hz2 _ _ _ hW hS (lv_sub hl [0, 1] rfl)
    · rw [if_pos hc2] at hf
      refine lv_iload_n hx hb dX3_crackOver_16 rfl (lv_at hl 2 rfl) ?_
      refine k_bipush hx hb dX3_crackOver_17 (by decide +kernel) ?_
      refine k_icmp_gt (tgt := 67) hx hb hz3 (show inR (32) by decide) dX3_crackOver_19 (by decide) (fun hc3 => ?_) (fun hc3 => ?_)
      · rw [if_pos hc3] at hf
        obtain rfl := some_el hf
        exact hK hz2 _ _ _ hW hS (lv_sub hl [0, 1] rfl)
      · rw [if_neg hc3] at hf
        refine lv_aload_n hx hb dX3_crackOver_22 rfl (lv_at hl 0 rfl) ?_
        refine lv_iload_n hx hb dX3_crackOver_23 rfl (lv_at hl 2 rfl) ?_
        refine k_cVz (As := [.int (i3 (z.2.1))]) (rest := []) ⟨hx, hb, hml, hown, hts⟩ (mW_isCracked l G z.2.2.2 (k) hk z.2.1 hz3 _ rfl) (cwV 1 hts (gbV (inB_6 _ (List.mem_of_getElem? (i := 19) rfl)) (inB_6 _ (List.mem_of_getElem? (i := 20) rfl)) (inB_6 _ (List.mem_of_getElem? (i := 21) rfl)) (inB_1 _ (List.mem_of_getElem? (i := 12) rfl)) (inB_6 _ (List.mem_of_getElem? (i := 22) rfl))) rfl rfl rfl (by decide +kernel) ⟨Nat.le_of_ble_eq_true rfl, Nat.le_of_ble_eq_true rfl⟩) (rv_wall hk hW) hW hS rfl hl.1 rfl (lv_room (Nat.le_of_ble_eq_true rfl)) dX3_crackOver_24 ⟨Nat.zero_le _, Nat.zero_le _⟩ (fun hv4 H locs hW hS => ?_)
        refine k_if_ne (tgt := 54) hx hb (inR_z hv4) dX3_crackOver_27 (by decide) (fun hc5 => ?_) (fun hc5 => ?_)
        · rw [if_neg hc5] at hf
          exact J6 (z.2.2.2) (z.1) (z.2.1) (z.2.2.1) hf hz2 hz3 hz4 _ _ _ hW hS (lv_sub hl [0, 1, 2, 3] rfl)
        · rw [if_pos hc5] at hf
          refine lv_aload_n hx hb dX3_crackOver_30 rfl (lv_at hl 0 rfl) ?_
          refine lv_iload_n hx hb dX3_crackOver_31 rfl (lv_at hl 2 rfl) ?_
          refine k_cVi (As := [.int (i3 (z.2.1))]) (rest := []) ⟨hx, hb, hml, hown, hts⟩ (mW_sumOf l G z.2.2.2 (k) hk z.2.1 hz3 _ rfl) (cwV 1 hts (gbV (inB_6 _ (List.mem_of_getElem? (i := 23) rfl)) (inB_7 _ (List.mem_of_getElem? (i := 0) rfl)) (inB_7 _ (List.mem_of_getElem? (i := 1) rfl)) (inB_1 _ (List.mem_of_getElem? (i := 12) rfl)) (inB_7 _ (List.mem_of_getElem? (i := 2) rfl))) rfl rfl rfl (by decide +kernel) ⟨Nat.le_of_ble_eq_true rfl, Nat.le_of_ble_eq_true rfl⟩) (rv_wall hk hW) hW hS rfl hl.1 rfl (lv_room (Nat.le_of_ble_eq_true rfl)) dX3_crackOver_32 ⟨Nat.zero_le _, Nat.zero_le _⟩ (fun hv10 H locs hW hS => ?_)
          refine lv_iload_n hx hb dX3_crackOver_35 rfl (lv_at hl 2 rfl) ?_
          obtain ⟨q11, hq11, hf⟩ := bind_el hf
          refine k_cNi (As := [.int (i3 (z.2.1))]) (rest := [.int (i3 ((fW_sumOf z.2.2.2 (k) z.2.1)))]) ⟨hx, hb, hml, hown, hts⟩ (mG_loadOf l G z.2.2.2 z.2.1 hz3 q11 hq11) ⟨va_cnB 1 hts (gbC (inB_7 _ (List.mem_of_getElem? (i := 4) rfl))) rfl rfl rfl (hW.N _ (List.mem_of_getElem? (i := 4) rfl)) (hts _ (List.mem_cons_of_mem _ (inB_1 _ (List.mem_of_getElem? (i := 2) rfl)))) (by decide +kernel) ⟨Nat.le_of_ble_eq_true rfl, Nat.le_of_ble_eq_true rfl⟩, (hts _ (List.mem_cons_of_mem _ (inB_7 _ (List.mem_of_getElem? (i := 3) rfl)))), trivial⟩ hW hS rfl hl.1 rfl (lv_room (Nat.le_of_ble_eq_true rfl)) dX3_crackOver_36 ⟨Nat.zero_le _, Nat.zero_le _⟩ (fun hv12 H locs hW hS => ?_)
          refine k_icmp_le (tgt := 54) hx hb hv10 hv12 dX3_crackOver_39 (by decide) (fun hc13 => ?_) (fun hc13 => ?_)
          · rw [if_neg hc13] at hf
            exact J6 (z.2.2.2) (z.1) (z.2.1) (z.2.2.1) hf hz2 hz3 hz4 _ _ _ hW hS (lv_sub hl [0, 1, 2, 3] rfl)
          · rw [if_pos hc13] at hf
            refine lv_aload_n hx hb dX3_crackOver_42 rfl (lv_at hl 0 rfl) ?_
            refine va_get (D := G.1) (ci := 3) (v := .ref (gA G (16 + 6 * k + 4))) (C := RX3) (T := TX3) (N := 6) hx hb hts hinX3 hown hW.K hW.P (5 + k) (he_wall hk G z.2.2.2) rfl 4 (by decide) (hts _ (List.mem_cons_of_mem _ (inB_2 _ (List.mem_of_getElem? (i := 17) rfl)))) (fun _ h9 => h9) rfl dX3_crackOver_43 ?_
            refine lv_iload_n hx hb dX3_crackOver_46 rfl (lv_at hl 2 rfl) ?_
            refine k_const hx hb dX3_crackOver_47 ?_
            obtain ⟨m14, hm14, hf⟩ := bind_el hf
            refine k_cNv (As := [.ref (gA G (16 + 6 * k + 4)), .int (i3 (z.2.1)), .int (i3 (1))]) (rest := []) ⟨hx, hb, hml, hown, hts⟩ (mG_put l G z.2.2.2 (16 + 6 * k + 4) (by omega) z.2.1 hz3 1 (show inR (1) by decide) m14 hm14) ⟨va_cnB 3 hts (gbC (inB_6 _ (List.mem_of_getElem? (i := 0) rfl))) rfl rfl rfl (hW.N _ (List.mem_of_getElem? (i := 2) rfl)) (hts _ (List.mem_cons_of_mem _ (inB_1 _ (List.mem_of_getElem? (i := 2) rfl)))) (by decide +kernel) ⟨Nat.le_of_ble_eq_true rfl, Nat.le_of_ble_eq_true rfl⟩, (hts _ (List.mem_cons_of_mem _ (inB_5 _ (List.mem_of_getElem? (i := 23) rfl)))), trivial⟩ hW hS rfl hl.1 rfl (lv_room (Nat.le_of_ble_eq_true rfl)) dX3_crackOver_48 ⟨Nat.zero_le _, Nat.zero_le _⟩ (fun H locs hW hS => ?_)
            obtain ⟨hg16, hf⟩ := gd_el hf
            refine k_iinc (lv' := [(2, .int (i3 (z.1 + 1))), (0, .ref (gA G (5 + k))), (3, .int (i3 (z.2.1))), (4, .int (i3 (z.2.2.1)))]) hx hb dX3_crackOver_51 hl (k := 1) rfl (by decide) rfl (fun ls hl => ?_)
            exact J6 (m14) (z.1 + 1) (z.2.1) (z.2.2.1) hf hg16 hz3 hz4 _ _ _ hW hS (lv_sub hl [1, 0, 2, 3] rfl)
  refine k_const hx hb dX3_crackOver_0 ?_
  refine lv_istore_n (lv' := [(2, .int (i3 (0))), (0, .ref (gA G (5 + k))), (1, .int (i3 (x1)))]) hx hb dX3_crackOver_1 rfl hl (by decide) rfl (fun ls hl => ?_)
  refine lv_iload_n hx hb dX3_crackOver_2 rfl (lv_at hl 2 rfl) ?_
  refine k_const hx hb dX3_crackOver_3 ?_
  refine k_add hx hb dX3_crackOver_4 ?_
  obtain ⟨hg1, hf⟩ := gd_el hf
  refine lv_istore_n (lv' := [(3, .int (i3 (x1 + 1))), (2, .int (i3 (0))), (0, .ref (gA G (5 + k))), (1, .int (i3 (x1)))]) hx hb dX3_crackOver_5 rfl hl (by decide) rfl (fun ls hl => ?_)
  refine k_const hx hb dX3_crackOver_6 ?_
  refine lv_istore (lv' := [(4, .int (i3 (0))), (3, .int (i3 (x1 + 1))), (2, .int (i3 (0))), (0, .ref (gA G (5 + k))), (1, .int (i3 (x1)))]) hx hb dX3_crackOver_7 hl (by decide) rfl (fun ls hl => ?_)
  obtain ⟨q18, hq18, hf⟩ := bind_el hf
  refine L17  (0, x1 + 1, 0, M0) q18 hq18 ?_ (show inR (0) by decide) hg1 (show inR (0) by decide) _ _ _ hW hS (lv_sub hl [3, 2, 1, 0] rfl)
  intro hv19 H locs ls hW hS hl
  refine lv_aload_n hx hb dX3_crackOver_67 rfl (lv_at hl 0 rfl) ?_
  refine k_bipush hx hb dX3_crackOver_68 (by decide +kernel) ?_
  refine lv_iload_n hx hb dX3_crackOver_70 rfl (lv_at hl 1 rfl) ?_
  obtain ⟨m20, hm20, hf⟩ := bind_el hf
  refine k_cVv (As := [.int (i3 (14)), .int (i3 (q18.1))]) (rest := []) ⟨hx, hb, hml, hown, hts⟩ (mW_count l G q18.2 (k) hk 14 (show inR (14) by decide) q18.1 hv19 m20 hm20) (cwV 2 hts (gbV (inB_7 _ (List.mem_of_getElem? (i := 6) rfl)) (inB_5 _ (List.mem_of_getElem? (i := 20) rfl)) (inB_5 _ (List.mem_of_getElem? (i := 21) rfl)) (inB_1 _ (List.mem_of_getElem? (i := 12) rfl)) (inB_5 _ (List.mem_of_getElem? (i := 22) rfl))) rfl rfl rfl (by decide +kernel) ⟨Nat.le_of_ble_eq_true rfl, Nat.le_of_ble_eq_true rfl⟩) (rv_wall hk hW) hW hS rfl hl.1 rfl (lv_room (Nat.le_of_ble_eq_true rfl)) dX3_crackOver_71 ⟨Nat.zero_le _, Nat.zero_le _⟩ (fun H locs hW hS => ?_)
  refine lv_iload_n hx hb dX3_crackOver_74 rfl (lv_at hl 1 rfl) ?_
  obtain rfl := some_el hf
  exact k_ret hx hb hr hlocks hW hS rfl hv19 dX3_crackOver_75
set_option maxHeartbeats 4000000 in
set_option maxRecDepth 100000 in
theorem mW_bring (l : Launch) (G : gG) (M0 : MemG) (k : Nat) (hk : k < 11) (x1 : Int) (hx1 : inR x1) (x2 : Int) (hx2 : inR x2) (x3 : Int) (hx3 : inR x3) (x4 : Int) (hx4 : inR x4) (r : MemG × Int) (hf : fW_bring M0 k x1 x2 x3 x4 = some r) : Met l yX3_bring (wb yX3_bring cX3_bring 5 (some .int)) ({ frames := 3, cells := 0, slots := 0, locals := 68 } : Room) (PcG G M0 [.ref (gA G (5 + k)), .int (i3 (x1)), .int (i3 (x2)), .int (i3 (x3)), .int (i3 (x4))]) (QcI G r.1 r.2) 0 0 (PA G) := by
  refine Met.ofW (cc := cX3_bring) (maxL := 5) (ret := (some .int)) (by decide) rfl ?_
  intro p e s m args below meth c s₁ B hml hv0
  obtain ⟨hav, hW⟩ := hv0
  have hx := B.exec
  have hb := B.bytes
  have hr := B.returns
  have hts := atoms_spec (ws := (wb yX3_bring cX3_bring 5 (some .int))) B.pre
  have hown : s.vm.findClass RX3 = some m.cls := findClass_of_methodNamed B.named
  have hlocks := B.notSynchronized
  have hinX3 : ∀ w ∈ u_ws RX3 TX3 6, w ∈ (wb yX3_bring cX3_bring 5 (some .int)) := fun _ h => List.mem_cons_of_mem _ (inlX3 _ h)
  have hW : Wd G M0 s s.heap := hW
  have hS : va_S (PA G) s.heap s.heap [] := va_S.rf
  have hl := lv_entry [.ref (gA G (5 + k)), .int (i3 (x1)), .int (i3 (x2)), .int (i3 (x3)), .int (i3 (x4))] (n := 5) (Nat.le_of_ble_eq_true rfl)
  have hent := lg_entry_eq m [.ref (gA G (5 + k)), .int (i3 (x1)), .int (i3 (x2)), .int (i3 (x3)), .int (i3 (x4))] 5
  rw [← hav] at hent
  rw [hent]
  clear hent
  generalize (lg_sl [.ref (gA G (5 + k)), .int (i3 (x1)), .int (i3 (x2)), .int (i3 (x3)), .int (i3 (x4))] ++ List.replicate (5 - (lg_sl [.ref (gA G (5 + k)), .int (i3 (x1)), .int (i3 (x2)), .int (i3 (x3)), .int (i3 (x4))]).length) Slot.unset).toArray = ls at hl ⊢
  have hl : lv_has ls 5 [(0, .ref (gA G (5 + k))), (1, .int (i3 (x1))), (2, .int (i3 (x2))), (3, .int (i3 (x3))), (4, .int (i3 (x4)))] := hl
  unfold fW_bring at hf
  show W p l e ({ frames := 3, cells := 0, slots := 0, locals := 68 } : Room) s m args below meth c s.heap [] 0 0 (MQ below (QcI G r.1 r.2) args s 0 0 (PA G)) (F0 m 0 ls [])
  refine lv_aload_n hx hb dX3_bring_0 rfl (lv_at hl 0 rfl) ?_
  refine va_get (D := G.1) (ci := 3) (v := .ref (gA G (16 + 6 * k))) (C := RX3) (T := TX3) (N := 6) hx hb hts hinX3 hown hW.K hW.P (5 + k) (he_wall hk G M0) rfl 0 (by decide) (hts _ (List.mem_cons_of_mem _ (inB_2 _ (List.mem_of_getElem? (i := 13) rfl)))) (fun _ h9 => h9) rfl dX3_bring_1 ?_
  refine lv_iload_n hx hb dX3_bring_4 rfl (lv_at hl 1 rfl) ?_
  refine lv_iload_n hx hb dX3_bring_5 rfl (lv_at hl 2 rfl) ?_
  obtain ⟨m1, hm1, hf⟩ := bind_el hf
  refine k_cNv (As := [.ref (gA G (16 + 6 * k)), .int (i3 (x1)), .int (i3 (x2))]) (rest := []) ⟨hx, hb, hml, hown, hts⟩ (mG_put l G M0 (16 + 6 * k) (by omega) x1 hx1 x2 hx2 m1 hm1) ⟨va_cnB 3 hts (gbC (inB_6 _ (List.mem_of_getElem? (i := 0) rfl))) rfl rfl rfl (hW.N _ (List.mem_of_getElem? (i := 2) rfl)) (hts _ (List.mem_cons_of_mem _ (inB_1 _ (List.mem_of_getElem? (i := 2) rfl)))) (by decide +kernel) ⟨Nat.le_of_ble_eq_true rfl, Nat.le_of_ble_eq_true rfl⟩, (hts _ (List.mem_cons_of_mem _ (inB_5 _ (List.mem_of_getElem? (i := 23) rfl)))), trivial⟩ hW hS rfl hl.1 rfl (lv_room (Nat.le_of_ble_eq_true rfl)) dX3_bring_6 ⟨Nat.zero_le _, Nat.zero_le _⟩ (fun H locs hW hS => ?_)
  refine lv_aload_n hx hb dX3_bring_9 rfl (lv_at hl 0 rfl) ?_
  refine va_get (D := G.1) (ci := 3) (v := .ref (gA G (16 + 6 * k + 2))) (C := RX3) (T := TX3) (N := 6) hx hb hts hinX3 hown hW.K hW.P (5 + k) (he_wall hk G m1) rfl 2 (by decide) (hts _ (List.mem_cons_of_mem _ (inB_2 _ (List.mem_of_getElem? (i := 15) rfl)))) (fun _ h9 => h9) rfl dX3_bring_10 ?_
  refine lv_iload_n hx hb dX3_bring_13 rfl (lv_at hl 1 rfl) ?_
  refine lv_iload hx hb dX3_bring_14 (lv_at hl 4 rfl) ?_
  obtain ⟨m3, hm3, hf⟩ := bind_el hf
  refine k_cNv (As := [.ref (gA G (16 + 6 * k + 2)), .int (i3 (x1)), .int (i3 (x4))]) (rest := []) ⟨hx, hb, hml, hown, hts⟩ (mG_put l G m1 (16 + 6 * k + 2) (by omega) x1 hx1 x4 hx4 m3 hm3) ⟨va_cnB 3 hts (gbC (inB_6 _ (List.mem_of_getElem? (i := 0) rfl))) rfl rfl rfl (hW.N _ (List.mem_of_getElem? (i := 2) rfl)) (hts _ (List.mem_cons_of_mem _ (inB_1 _ (List.mem_of_getElem? (i := 2) rfl)))) (by decide +kernel) ⟨Nat.le_of_ble_eq_true rfl, Nat.le_of_ble_eq_true rfl⟩, (hts _ (List.mem_cons_of_mem _ (inB_5 _ (List.mem_of_getElem? (i := 23) rfl)))), trivial⟩ hW hS rfl hl.1 rfl (lv_room (Nat.le_of_ble_eq_true rfl)) dX3_bring_16 ⟨Nat.zero_le _, Nat.zero_le _⟩ (fun H locs hW hS => ?_)
  refine lv_aload_n hx hb dX3_bring_19 rfl (lv_at hl 0 rfl) ?_
  refine lv_iload_n hx hb dX3_bring_20 rfl (lv_at hl 1 rfl) ?_
  refine lv_iload_n hx hb dX3_bring_21 rfl (lv_at hl 3 rfl) ?_
  obtain ⟨m5, hm5, hf⟩ := bind_el hf
  refine k_cVv (As := [.int (i3 (x1)), .int (i3 (x3))]) (rest := []) ⟨hx, hb, hml, hown, hts⟩ (mW_changeSacks l G m3 (k) hk x1 hx1 x3 hx3 m5 hm5) (cwV 2 hts (gbV (inB_6 _ (List.mem_of_getElem? (i := 9) rfl)) (inB_6 _ (List.mem_of_getElem? (i := 10) rfl)) (inB_6 _ (List.mem_of_getElem? (i := 11) rfl)) (inB_1 _ (List.mem_of_getElem? (i := 12) rfl)) (inB_6 _ (List.mem_of_getElem? (i := 12) rfl))) rfl rfl rfl (by decide +kernel) ⟨Nat.le_of_ble_eq_true rfl, Nat.le_of_ble_eq_true rfl⟩) (rv_wall hk hW) hW hS rfl hl.1 rfl (lv_room (Nat.le_of_ble_eq_true rfl)) dX3_bring_22 ⟨Nat.zero_le _, Nat.zero_le _⟩ (fun H locs hW hS => ?_)
  refine lv_aload_n hx hb dX3_bring_25 rfl (lv_at hl 0 rfl) ?_
  refine lv_iload_n hx hb dX3_bring_26 rfl (lv_at hl 1 rfl) ?_
  obtain ⟨q7, hq7, hf⟩ := bind_el hf
  refine k_cVi (As := [.int (i3 (x1))]) (rest := []) ⟨hx, hb, hml, hown, hts⟩ (mW_crackOver l G m5 (k) hk x1 hx1 q7 hq7) (cwV 1 hts (gbV (inB_6 _ (List.mem_of_getElem? (i := 15) rfl)) (inB_6 _ (List.mem_of_getElem? (i := 16) rfl)) (inB_6 _ (List.mem_of_getElem? (i := 17) rfl)) (inB_1 _ (List.mem_of_getElem? (i := 12) rfl)) (inB_6 _ (List.mem_of_getElem? (i := 18) rfl))) rfl rfl rfl (by decide +kernel) ⟨Nat.le_of_ble_eq_true rfl, Nat.le_of_ble_eq_true rfl⟩) (rv_wall hk hW) hW hS rfl hl.1 rfl (lv_room (Nat.le_of_ble_eq_true rfl)) dX3_bring_27 ⟨Nat.zero_le _, Nat.zero_le _⟩ (fun hv8 H locs hW hS => ?_)
  obtain rfl := some_el hf
  exact k_ret hx hb hr hlocks hW hS rfl hv8 dX3_bring_30
set_option maxHeartbeats 4000000 in
set_option maxRecDepth 100000 in
theorem mW_kindIn (l : Launch) (G : gG) (M0 : MemG) (k : Nat) (hk : k < 11) (x1 : Int) (hx1 : inR x1) (r : Int) (hf : fW_kindIn M0 k x1 = r) : Met l yX3_kindIn (wb yX3_kindIn cX3_kindIn 2 (some .int)) ({ frames := 1, cells := 0, slots := 0, locals := 21 } : Room) (PcG G M0 [.ref (gA G (5 + k)), .int (i3 (x1))]) (QcI G M0 r) 0 0 (PA G) := by
  refine Met.ofW (cc := cX3_kindIn) (maxL := 2) (ret := (some .int)) (by decide) rfl ?_
  intro p e s m args below meth c s₁ B hml hv0
  obtain ⟨hav, hW⟩ := hv0
  have hx := B.exec
  have hb := B.bytes
  have hr := B.returns
  have hts := atoms_spec (ws := (wb yX3_kindIn cX3_kindIn 2 (some .int))) B.pre
  have hown : s.vm.findClass RX3 = some m.cls := findClass_of_methodNamed B.named
  have hlocks := B.notSynchronized
  have hinX3 : ∀ w ∈ u_ws RX3 TX3 6, w ∈ (wb yX3_kindIn cX3_kindIn 2 (some .int)) := fun _ h => List.mem_cons_of_mem _ (inlX3 _ h)
  have hW : Wd G M0 s s.heap := hW
  have hS : va_S (PA G) s.heap s.heap [] := va_S.rf
  have hl := lv_entry [.ref (gA G (5 + k)), .int (i3 (x1))] (n := 2) (Nat.le_of_ble_eq_true rfl)
  have hent := lg_entry_eq m [.ref (gA G (5 + k)), .int (i3 (x1))] 2
  rw [← hav] at hent
  rw [hent]
  clear hent
  generalize (lg_sl [.ref (gA G (5 + k)), .int (i3 (x1))] ++ List.replicate (2 - (lg_sl [.ref (gA G (5 + k)), .int (i3 (x1))]).length) Slot.unset).toArray = ls at hl ⊢
  have hl : lv_has ls 2 [(0, .ref (gA G (5 + k))), (1, .int (i3 (x1)))] := hl
  unfold fW_kindIn at hf
  show W p l e ({ frames := 1, cells := 0, slots := 0, locals := 21 } : Room) s m args below meth c s.heap [] 0 0 (MQ below (QcI G M0 r) args s 0 0 (PA G)) (F0 m 0 ls [])
  refine lv_aload_n hx hb dX3_kindIn_0 rfl (lv_at hl 0 rfl) ?_
  refine va_get (D := G.1) (ci := 3) (v := .ref (gA G (16 + 6 * k))) (C := RX3) (T := TX3) (N := 6) hx hb hts hinX3 hown hW.K hW.P (5 + k) (he_wall hk G M0) rfl 0 (by decide) (hts _ (List.mem_cons_of_mem _ (inB_2 _ (List.mem_of_getElem? (i := 13) rfl)))) (fun _ h9 => h9) rfl dX3_kindIn_1 ?_
  refine lv_iload_n hx hb dX3_kindIn_4 rfl (lv_at hl 1 rfl) ?_
  refine k_cNi (As := [.ref (gA G (16 + 6 * k)), .int (i3 (x1))]) (rest := []) ⟨hx, hb, hml, hown, hts⟩ (mG_at l G M0 (16 + 6 * k) (by omega) x1 hx1 _ rfl) ⟨va_cnB 2 hts (gbC (inB_5 _ (List.mem_of_getElem? (i := 2) rfl))) rfl rfl rfl (hW.N _ (List.mem_of_getElem? (i := 1) rfl)) (hts _ (List.mem_cons_of_mem _ (inB_1 _ (List.mem_of_getElem? (i := 2) rfl)))) (by decide +kernel) ⟨Nat.le_of_ble_eq_true rfl, Nat.le_of_ble_eq_true rfl⟩, (hts _ (List.mem_cons_of_mem _ (inB_5 _ (List.mem_of_getElem? (i := 1) rfl)))), trivial⟩ hW hS rfl hl.1 rfl (lv_room (Nat.le_of_ble_eq_true rfl)) dX3_kindIn_5 ⟨Nat.zero_le _, Nat.zero_le _⟩ (fun hv1 H locs hW hS => ?_)
  subst hf
  exact k_ret hx hb hr hlocks hW hS rfl hv1 dX3_kindIn_8
set_option maxHeartbeats 4000000 in
set_option maxRecDepth 100000 in
theorem mW_isEmpty (l : Launch) (G : gG) (M0 : MemG) (k : Nat) (hk : k < 11) (x1 : Int) (hx1 : inR x1) (r : Int) (hf : fW_isEmpty M0 k x1 = r) : Met l yX3_isEmpty (wb yX3_isEmpty cX3_isEmpty 2 (some .boolean)) ({ frames := 1, cells := 0, slots := 0, locals := 21 } : Room) (PcG G M0 [.ref (gA G (5 + k)), .int (i3 (x1))]) (QcZ G M0 r) 0 0 (PA G) := by
  refine Met.ofW (cc := cX3_isEmpty) (maxL := 2) (ret := (some .boolean)) (by decide) rfl ?_
  intro p e s m args below meth c s₁ B hml hv0
  obtain ⟨hav, hW⟩ := hv0
  have hx := B.exec
  have hb := B.bytes
  have hr := B.returns
  have hts := atoms_spec (ws := (wb yX3_isEmpty cX3_isEmpty 2 (some .boolean))) B.pre
  have hown : s.vm.findClass RX3 = some m.cls := findClass_of_methodNamed B.named
  have hlocks := B.notSynchronized
  have hinX3 : ∀ w ∈ u_ws RX3 TX3 6, w ∈ (wb yX3_isEmpty cX3_isEmpty 2 (some .boolean)) := fun _ h => List.mem_cons_of_mem _ (inlX3 _ h)
  have hW : Wd G M0 s s.heap := hW
  have hS : va_S (PA G) s.heap s.heap [] := va_S.rf
  have hl := lv_entry [.ref (gA G (5 + k)), .int (i3 (x1))] (n := 2) (Nat.le_of_ble_eq_true rfl)
  have hent := lg_entry_eq m [.ref (gA G (5 + k)), .int (i3 (x1))] 2
  rw [← hav] at hent
  rw [hent]
  clear hent
  generalize (lg_sl [.ref (gA G (5 + k)), .int (i3 (x1))] ++ List.replicate (2 - (lg_sl [.ref (gA G (5 + k)), .int (i3 (x1))]).length) Slot.unset).toArray = ls at hl ⊢
  have hl : lv_has ls 2 [(0, .ref (gA G (5 + k))), (1, .int (i3 (x1)))] := hl
  unfold fW_isEmpty at hf
  show W p l e ({ frames := 1, cells := 0, slots := 0, locals := 21 } : Room) s m args below meth c s.heap [] 0 0 (MQ below (QcZ G M0 r) args s 0 0 (PA G)) (F0 m 0 ls [])
  refine lv_aload_n hx hb dX3_isEmpty_0 rfl (lv_at hl 0 rfl) ?_
  refine va_get (D := G.1) (ci := 3) (v := .ref (gA G (16 + 6 * k + 1))) (C := RX3) (T := TX3) (N := 6) hx hb hts hinX3 hown hW.K hW.P (5 + k) (he_wall hk G M0) rfl 1 (by decide) (hts _ (List.mem_cons_of_mem _ (inB_2 _ (List.mem_of_getElem? (i := 14) rfl)))) (fun _ h9 => h9) rfl dX3_isEmpty_1 ?_
  refine lv_iload_n hx hb dX3_isEmpty_4 rfl (lv_at hl 1 rfl) ?_
  refine k_cNi (As := [.ref (gA G (16 + 6 * k + 1)), .int (i3 (x1))]) (rest := []) ⟨hx, hb, hml, hown, hts⟩ (mG_at l G M0 (16 + 6 * k + 1) (by omega) x1 hx1 _ rfl) ⟨va_cnB 2 hts (gbC (inB_5 _ (List.mem_of_getElem? (i := 2) rfl))) rfl rfl rfl (hW.N _ (List.mem_of_getElem? (i := 1) rfl)) (hts _ (List.mem_cons_of_mem _ (inB_1 _ (List.mem_of_getElem? (i := 2) rfl)))) (by decide +kernel) ⟨Nat.le_of_ble_eq_true rfl, Nat.le_of_ble_eq_true rfl⟩, (hts _ (List.mem_cons_of_mem _ (inB_5 _ (List.mem_of_getElem? (i := 1) rfl)))), trivial⟩ hW hS rfl hl.1 rfl (lv_room (Nat.le_of_ble_eq_true rfl)) dX3_isEmpty_5 ⟨Nat.zero_le _, Nat.zero_le _⟩ (fun hv1 H locs hW hS => ?_)
  refine k_if_ne (tgt := 15) hx hb hv1 dX3_isEmpty_8 (by decide) (fun hc2 => ?_) (fun hc2 => ?_)
  · rw [if_neg hc2] at hf
    refine k_const hx hb dX3_isEmpty_15 ?_
    subst hf
    exact k_retz hx hb hr hlocks hW hS rfl (show (0 : Int) = 0 ∨ (0 : Int) = 1 by decide) dX3_isEmpty_16
  · rw [if_pos hc2] at hf
    refine k_const hx hb dX3_isEmpty_11 ?_
    refine lv_goto (tgt := 16) hx hb dX3_isEmpty_12 (by decide) ?_
    subst hf
    exact k_retz hx hb hr hlocks hW hS rfl (show (1 : Int) = 0 ∨ (1 : Int) = 1 by decide) dX3_isEmpty_16
set_option maxHeartbeats 4000000 in
set_option maxRecDepth 100000 in
theorem mW_remove (l : Launch) (G : gG) (M0 : MemG) (k : Nat) (hk : k < 11) (x1 : Int) (hx1 : inR x1) (x2 : Int) (hx2 : inR x2) (r : MemG) (hf : fW_remove M0 k x1 x2 = some r) : Met l yX3_remove (wb yX3_remove cX3_remove 3 none) ({ frames := 2, cells := 0, slots := 0, locals := 46 } : Room) (PcG G M0 [.ref (gA G (5 + k)), .int (i3 (x1)), .int (i3 (x2))]) (QcV G r) 0 0 (PA G) := by
  refine Met.ofW (cc := cX3_remove) (maxL := 3) (ret := none) (by decide) rfl ?_
  intro p e s m args below meth c s₁ B hml hv0
  obtain ⟨hav, hW⟩ := hv0
  have hx := B.exec
  have hb := B.bytes
  have hr := B.returns
  have hts := atoms_spec (ws := (wb yX3_remove cX3_remove 3 none)) B.pre
  have hown : s.vm.findClass RX3 = some m.cls := findClass_of_methodNamed B.named
  have hlocks := B.notSynchronized
  have hinX3 : ∀ w ∈ u_ws RX3 TX3 6, w ∈ (wb yX3_remove cX3_remove 3 none) := fun _ h => List.mem_cons_of_mem _ (inlX3 _ h)
  have hW : Wd G M0 s s.heap := hW
  have hS : va_S (PA G) s.heap s.heap [] := va_S.rf
  have hl := lv_entry [.ref (gA G (5 + k)), .int (i3 (x1)), .int (i3 (x2))] (n := 3) (Nat.le_of_ble_eq_true rfl)
  have hent := lg_entry_eq m [.ref (gA G (5 + k)), .int (i3 (x1)), .int (i3 (x2))] 3
  rw [← hav] at hent
  rw [hent]
  clear hent
  generalize (lg_sl [.ref (gA G (5 + k)), .int (i3 (x1)), .int (i3 (x2))] ++ List.replicate (3 - (lg_sl [.ref (gA G (5 + k)), .int (i3 (x1)), .int (i3 (x2))]).length) Slot.unset).toArray = ls at hl ⊢
  have hl : lv_has ls 3 [(0, .ref (gA G (5 + k))), (1, .int (i3 (x1))), (2, .int (i3 (x2)))] := hl
  unfold fW_remove at hf
  show W p l e ({ frames := 2, cells := 0, slots := 0, locals := 46 } : Room) s m args below meth c s.heap [] 0 0 (MQ below (QcV G r) args s 0 0 (PA G)) (F0 m 0 ls [])
  refine lv_aload_n hx hb dX3_remove_0 rfl (lv_at hl 0 rfl) ?_
  refine lv_iload_n hx hb dX3_remove_1 rfl (lv_at hl 1 rfl) ?_
  refine lv_iload_n hx hb dX3_remove_2 rfl (lv_at hl 2 rfl) ?_
  refine k_neg hx hb dX3_remove_3 ?_
  obtain ⟨hg1, hf⟩ := gd_el hf
  obtain ⟨m2, hm2, hf⟩ := bind_el hf
  refine k_cVv (As := [.int (i3 (x1)), .int (i3 (-x2))]) (rest := []) ⟨hx, hb, hml, hown, hts⟩ (mW_changeSacks l G M0 (k) hk x1 hx1 (-x2) hg1 m2 hm2) (cwV 2 hts (gbV (inB_6 _ (List.mem_of_getElem? (i := 9) rfl)) (inB_6 _ (List.mem_of_getElem? (i := 10) rfl)) (inB_6 _ (List.mem_of_getElem? (i := 11) rfl)) (inB_1 _ (List.mem_of_getElem? (i := 12) rfl)) (inB_6 _ (List.mem_of_getElem? (i := 12) rfl))) rfl rfl rfl (by decide +kernel) ⟨Nat.le_of_ble_eq_true rfl, Nat.le_of_ble_eq_true rfl⟩) (rv_wall hk hW) hW hS rfl hl.1 rfl (lv_room (Nat.le_of_ble_eq_true rfl)) dX3_remove_4 ⟨Nat.zero_le _, Nat.zero_le _⟩ (fun H locs hW hS => ?_)
  refine lv_aload_n hx hb dX3_remove_7 rfl (lv_at hl 0 rfl) ?_
  refine lv_iload_n hx hb dX3_remove_8 rfl (lv_at hl 1 rfl) ?_
  refine k_cVz (As := [.int (i3 (x1))]) (rest := []) ⟨hx, hb, hml, hown, hts⟩ (mW_isEmpty l G m2 (k) hk x1 hx1 _ rfl) (cwV 1 hts (gbV (inB_8 _ (List.mem_of_getElem? (i := 10) rfl)) (inB_4 _ (List.mem_of_getElem? (i := 22) rfl)) (inB_4 _ (List.mem_of_getElem? (i := 23) rfl)) (inB_1 _ (List.mem_of_getElem? (i := 12) rfl)) (inB_5 _ (List.mem_of_getElem? (i := 0) rfl))) rfl rfl rfl (by decide +kernel) ⟨Nat.le_of_ble_eq_true rfl, Nat.le_of_ble_eq_true rfl⟩) (rv_wall hk hW) hW hS rfl hl.1 rfl (lv_room (Nat.le_of_ble_eq_true rfl)) dX3_remove_9 ⟨Nat.zero_le _, Nat.zero_le _⟩ (fun hv4 H locs hW hS => ?_)
  refine k_if_eq (tgt := 33) hx hb (inR_z hv4) dX3_remove_12 (by decide) (fun hc5 => ?_) (fun hc5 => ?_)
  · rw [if_pos hc5] at hf
    obtain rfl := some_el hf
    exact k_retv hx hb hr hlocks hW hS rfl dX3_remove_33
  · rw [if_neg hc5] at hf
    refine lv_aload_n hx hb dX3_remove_15 rfl (lv_at hl 0 rfl) ?_
    refine va_get (D := G.1) (ci := 3) (v := .ref (gA G (16 + 6 * k))) (C := RX3) (T := TX3) (N := 6) hx hb hts hinX3 hown hW.K hW.P (5 + k) (he_wall hk G m2) rfl 0 (by decide) (hts _ (List.mem_cons_of_mem _ (inB_2 _ (List.mem_of_getElem? (i := 13) rfl)))) (fun _ h9 => h9) rfl dX3_remove_16 ?_
    refine lv_iload_n hx hb dX3_remove_19 rfl (lv_at hl 1 rfl) ?_
    refine k_const hx hb dX3_remove_20 ?_
    obtain ⟨m6, hm6, hf⟩ := bind_el hf
    refine k_cNv (As := [.ref (gA G (16 + 6 * k)), .int (i3 (x1)), .int (i3 (0))]) (rest := []) ⟨hx, hb, hml, hown, hts⟩ (mG_put l G m2 (16 + 6 * k) (by omega) x1 hx1 0 (show inR (0) by decide) m6 hm6) ⟨va_cnB 3 hts (gbC (inB_6 _ (List.mem_of_getElem? (i := 0) rfl))) rfl rfl rfl (hW.N _ (List.mem_of_getElem? (i := 2) rfl)) (hts _ (List.mem_cons_of_mem _ (inB_1 _ (List.mem_of_getElem? (i := 2) rfl)))) (by decide +kernel) ⟨Nat.le_of_ble_eq_true rfl, Nat.le_of_ble_eq_true rfl⟩, (hts _ (List.mem_cons_of_mem _ (inB_5 _ (List.mem_of_getElem? (i := 23) rfl)))), trivial⟩ hW hS rfl hl.1 rfl (lv_room (Nat.le_of_ble_eq_true rfl)) dX3_remove_21 ⟨Nat.zero_le _, Nat.zero_le _⟩ (fun H locs hW hS => ?_)
    refine lv_aload_n hx hb dX3_remove_24 rfl (lv_at hl 0 rfl) ?_
    refine va_get (D := G.1) (ci := 3) (v := .ref (gA G (16 + 6 * k + 2))) (C := RX3) (T := TX3) (N := 6) hx hb hts hinX3 hown hW.K hW.P (5 + k) (he_wall hk G m6) rfl 2 (by decide) (hts _ (List.mem_cons_of_mem _ (inB_2 _ (List.mem_of_getElem? (i := 15) rfl)))) (fun _ h9 => h9) rfl dX3_remove_25 ?_
    refine lv_iload_n hx hb dX3_remove_28 rfl (lv_at hl 1 rfl) ?_
    refine k_const hx hb dX3_remove_29 ?_
    obtain ⟨m8, hm8, hf⟩ := bind_el hf
    refine k_cNv (As := [.ref (gA G (16 + 6 * k + 2)), .int (i3 (x1)), .int (i3 (0))]) (rest := []) ⟨hx, hb, hml, hown, hts⟩ (mG_put l G m6 (16 + 6 * k + 2) (by omega) x1 hx1 0 (show inR (0) by decide) m8 hm8) ⟨va_cnB 3 hts (gbC (inB_6 _ (List.mem_of_getElem? (i := 0) rfl))) rfl rfl rfl (hW.N _ (List.mem_of_getElem? (i := 2) rfl)) (hts _ (List.mem_cons_of_mem _ (inB_1 _ (List.mem_of_getElem? (i := 2) rfl)))) (by decide +kernel) ⟨Nat.le_of_ble_eq_true rfl, Nat.le_of_ble_eq_true rfl⟩, (hts _ (List.mem_cons_of_mem _ (inB_5 _ (List.mem_of_getElem? (i := 23) rfl)))), trivial⟩ hW hS rfl hl.1 rfl (lv_room (Nat.le_of_ble_eq_true rfl)) dX3_remove_30 ⟨Nat.zero_le _, Nat.zero_le _⟩ (fun H locs hW hS => ?_)
    obtain rfl := some_el hf
    exact k_retv hx hb hr hlocks hW hS rfl dX3_remove_33
set_option maxHeartbeats 4000000 in
set_option maxRecDepth 100000 in
theorem mW_sacksIn (l : Launch) (G : gG) (M0 : MemG) (k : Nat) (hk : k < 11) (x1 : Int) (hx1 : inR x1) (r : Int) (hf : fW_sacksIn M0 k x1 = r) : Met l yX3_sacksIn (wb yX3_sacksIn cX3_sacksIn 2 (some .int)) ({ frames := 1, cells := 0, slots := 0, locals := 21 } : Room) (PcG G M0 [.ref (gA G (5 + k)), .int (i3 (x1))]) (QcI G M0 r) 0 0 (PA G) := by
  refine Met.ofW (cc := cX3_sacksIn) (maxL := 2) (ret := (some .int)) (by decide) rfl ?_
  intro p e s m args below meth c s₁ B hml hv0
  obtain ⟨hav, hW⟩ := hv0
  have hx := B.exec
  have hb := B.bytes
  have hr := B.returns
  have hts := atoms_spec (ws := (wb yX3_sacksIn cX3_sacksIn 2 (some .int))) B.pre
  have hown : s.vm.findClass RX3 = some m.cls := findClass_of_methodNamed B.named
  have hlocks := B.notSynchronized
  have hinX3 : ∀ w ∈ u_ws RX3 TX3 6, w ∈ (wb yX3_sacksIn cX3_sacksIn 2 (some .int)) := fun _ h => List.mem_cons_of_mem _ (inlX3 _ h)
  have hW : Wd G M0 s s.heap := hW
  have hS : va_S (PA G) s.heap s.heap [] := va_S.rf
  have hl := lv_entry [.ref (gA G (5 + k)), .int (i3 (x1))] (n := 2) (Nat.le_of_ble_eq_true rfl)
  have hent := lg_entry_eq m [.ref (gA G (5 + k)), .int (i3 (x1))] 2
  rw [← hav] at hent
  rw [hent]
  clear hent
  generalize (lg_sl [.ref (gA G (5 + k)), .int (i3 (x1))] ++ List.replicate (2 - (lg_sl [.ref (gA G (5 + k)), .int (i3 (x1))]).length) Slot.unset).toArray = ls at hl ⊢
  have hl : lv_has ls 2 [(0, .ref (gA G (5 + k))), (1, .int (i3 (x1)))] := hl
  unfold fW_sacksIn at hf
  show W p l e ({ frames := 1, cells := 0, slots := 0, locals := 21 } : Room) s m args below meth c s.heap [] 0 0 (MQ below (QcI G M0 r) args s 0 0 (PA G)) (F0 m 0 ls [])
  refine lv_aload_n hx hb dX3_sacksIn_0 rfl (lv_at hl 0 rfl) ?_
  refine va_get (D := G.1) (ci := 3) (v := .ref (gA G (16 + 6 * k + 1))) (C := RX3) (T := TX3) (N := 6) hx hb hts hinX3 hown hW.K hW.P (5 + k) (he_wall hk G M0) rfl 1 (by decide) (hts _ (List.mem_cons_of_mem _ (inB_2 _ (List.mem_of_getElem? (i := 14) rfl)))) (fun _ h9 => h9) rfl dX3_sacksIn_1 ?_
  refine lv_iload_n hx hb dX3_sacksIn_4 rfl (lv_at hl 1 rfl) ?_
  refine k_cNi (As := [.ref (gA G (16 + 6 * k + 1)), .int (i3 (x1))]) (rest := []) ⟨hx, hb, hml, hown, hts⟩ (mG_at l G M0 (16 + 6 * k + 1) (by omega) x1 hx1 _ rfl) ⟨va_cnB 2 hts (gbC (inB_5 _ (List.mem_of_getElem? (i := 2) rfl))) rfl rfl rfl (hW.N _ (List.mem_of_getElem? (i := 1) rfl)) (hts _ (List.mem_cons_of_mem _ (inB_1 _ (List.mem_of_getElem? (i := 2) rfl)))) (by decide +kernel) ⟨Nat.le_of_ble_eq_true rfl, Nat.le_of_ble_eq_true rfl⟩, (hts _ (List.mem_cons_of_mem _ (inB_5 _ (List.mem_of_getElem? (i := 1) rfl)))), trivial⟩ hW hS rfl hl.1 rfl (lv_room (Nat.le_of_ble_eq_true rfl)) dX3_sacksIn_5 ⟨Nat.zero_le _, Nat.zero_le _⟩ (fun hv1 H locs hW hS => ?_)
  subst hf
  exact k_ret hx hb hr hlocks hW hS rfl hv1 dX3_sacksIn_8
set_option maxHeartbeats 4000000 in
set_option maxRecDepth 100000 in
theorem mW_oldestOfKind (l : Launch) (G : gG) (M0 : MemG) (k : Nat) (hk : k < 11) (x1 : Int) (hx1 : inR x1) (r : Int) (hf : fW_oldestOfKind M0 k x1 = some r) : Met l yX3_oldestOfKind (wb yX3_oldestOfKind cX3_oldestOfKind 4 (some .int)) ({ frames := 2, cells := 0, slots := 0, locals := 42 } : Room) (PcG G M0 [.ref (gA G (5 + k)), .int (i3 (x1))]) (QcI G M0 r) 0 0 (PA G) := by
  refine Met.ofW (cc := cX3_oldestOfKind) (maxL := 4) (ret := (some .int)) (by decide) rfl ?_
  intro p e s m args below meth c s₁ B hml hv0
  obtain ⟨hav, hW⟩ := hv0
  have hx := B.exec
  have hb := B.bytes
  have hr := B.returns
  have hts := atoms_spec (ws := (wb yX3_oldestOfKind cX3_oldestOfKind 4 (some .int))) B.pre
  have hown : s.vm.findClass RX3 = some m.cls := findClass_of_methodNamed B.named
  have hlocks := B.notSynchronized
  have hW : Wd G M0 s s.heap := hW
  have hS : va_S (PA G) s.heap s.heap [] := va_S.rf
  have hl := lv_entry [.ref (gA G (5 + k)), .int (i3 (x1))] (n := 4) (Nat.le_of_ble_eq_true rfl)
  have hent := lg_entry_eq m [.ref (gA G (5 + k)), .int (i3 (x1))] 4
  rw [← hav] at hent
  rw [hent]
  clear hent
  generalize (lg_sl [.ref (gA G (5 + k)), .int (i3 (x1))] ++ List.replicate (4 - (lg_sl [.ref (gA G (5 + k)), .int (i3 (x1))]).length) Slot.unset).toArray = ls at hl ⊢
  have hl : lv_has ls 4 [(0, .ref (gA G (5 + k))), (1, .int (i3 (x1)))] := hl
  unfold fW_oldestOfKind at hf
  show W p l e ({ frames := 2, cells := 0, slots := 0, locals := 42 } : Room) s m args below meth c s.heap [] 0 0 (MQ below (QcI G M0 r) args s 0 0 (PA G)) (F0 m 0 ls [])
  have L13 : ∀ (x1 : Int) (hx1 : inR x1), ∀ (z : (Int × Int)) (q : (Int)), loopN (fW_oldestOfKind_l5 M0 k x1) 200 z = some q → (q = r) → (inR (z.1) → inR (z.2) → ∀ (H : Heap) (locs : List Loc) (ls : Array Slot), Wd G (M0) s H → va_S (PA G) s.heap H locs → lv_has ls 4 [(0, .ref (gA G (5 + k))), (1, .int (i3 (x1))), (2, .int (i3 (z.1))), (3, .int (i3 (z.2)))] → W p l e ({ frames := 2, cells := 0, slots := 0, locals := 42 } : Room) s m args below meth c H locs 0 0 (MQ below (QcI G M0 r) args s 0 0 (PA G)) (F0 m 5 ls [])) := by
    intro x1 hx1 z q hq hex
    refine loop_rule (fW_oldestOfKind_l5 M0 k x1) (fun z => inR (z.1) → inR (z.2) → ∀ (H : Heap) (locs : List Loc) (ls : Array Slot), Wd G (M0) s H → va_S (PA G) s.heap H locs → lv_has ls 4 [(0, .ref (gA G (5 + k))), (1, .int (i3 (x1))), (2, .int (i3 (z.1))), (3, .int (i3 (z.2)))] → W p l e ({ frames := 2, cells := 0, slots := 0, locals := 42 } : Room) s m args below meth c H locs 0 0 (MQ below (QcI G M0 r) args s 0 0 (PA G)) (F0 m 5 ls [])) (fun q => (q = r)) ?_ 200 z q hq hex
    clear hq hex q z
    intro z x hf hK hz2 hz3 H locs ls hW hS hl
    have J4 : ∀ (x2 : Int) (x3 : Int), fW_oldestOfKind_j49 M0 k x1 x2 x3 = some x → inR x2 → inR x3 →  ∀ (H : Heap) (locs : List Loc) (ls : Array Slot), Wd G M0 s H → va_S (PA G) s.heap H locs → lv_has ls 4 [(0, .ref (gA G (5 + k))), (1, .int (i3 (x1))), (2, .int (i3 (x2))), (3, .int (i3 (x3)))] → W p l e ({ frames := 2, cells := 0, slots := 0, locals := 42 } : Room) s m args below meth c H locs 0 0 (MQ below (QcI G M0 r) args s 0 0 (PA G)) (F0 m 49 ls []) := by
      intro x2 x3 hf hx2 hx3 H locs ls hW hS hl
      unfold fW_oldestOfKind_j49 at hf
      obtain ⟨hg5, hf⟩ := gd_el hf
      refine k_iinc (lv' := [(3, .int (i3 (x3 + 1))), (0, .ref (gA G (5 + k))), (1, .int (i3 (x1))), (2, .int (i3 (x2)))]) hx hb dX3_oldestOfKind_49 hl (k := 3) rfl (by decide) rfl (fun ls hl => ?_)
      refine lv_goto (tgt := 5) hx hb dX3_oldestOfKind_52 (by decide) ?_
      obtain rfl := some_el hf
      exact hK hx2 hg5 _ _ _ hW hS (lv_sub hl [1, 2, 3, 0] rfl)
    have J9 : ∀ (x3 : Int), fW_oldestOfKind_j47 M0 k x1 x3 = some x → inR x3 →  ∀ (H : Heap) (locs : List Loc) (ls : Array Slot), Wd G M0 s H → va_S (PA G) s.heap H locs → lv_has ls 4 [(0, .ref (gA G (5 + k))), (1, .int (i3 (x1))), (3, .int (i3 (x3)))] → W p l e ({ frames := 2, cells := 0, slots := 0, locals := 42 } : Room) s m args below meth c H locs 0 0 (MQ below (QcI G M0 r) args s 0 0 (PA G)) (F0 m 47 ls []) := by
      intro x3 hf hx3 H locs ls hW hS hl
      unfold fW_oldestOfKind_j47 at hf
      refine lv_iload_n hx hb dX3_oldestOfKind_47 rfl (lv_at hl 2 rfl) ?_
      refine lv_istore_n (lv' := [(2, .int (i3 (x3))), (0, .ref (gA G (5 + k))), (1, .int (i3 (x1))), (3, .int (i3 (x3)))]) hx hb dX3_oldestOfKind_48 rfl hl (by decide) rfl (fun ls hl => ?_)
      exact J4 (x3) (x3) hf hx3 hx3 _ _ _ hW hS (lv_sub hl [1, 2, 0, 3] rfl)
    unfold fW_oldestOfKind_l5 at hf
    refine lv_iload_n hx hb dX3_oldestOfKind_5 rfl (lv_at hl 3 rfl) ?_
    refine k_bipush hx hb dX3_oldestOfKind_6 (by decide +kernel) ?_
    refine k_icmp_ge (tgt := 55) hx hb hz3 (show inR (32) by decide) dX3_oldestOfKind_8 (by decide) (fun hc1 => ?_) (fun hc1 => ?_)
    · rw [if_neg hc1] at hf
      refine lv_iload_n hx hb dX3_oldestOfKind_55 rfl (lv_at hl 2 rfl) ?_
      obtain rfl := some_el hf
      obtain rfl : z.1 = r := hK
      exact k_ret hx hb hr hlocks hW hS rfl hz2 dX3_oldestOfKind_56
    · rw [if_pos hc1] at hf
      refine lv_aload_n hx hb dX3_oldestOfKind_11 rfl (lv_at hl 0 rfl) ?_
      refine lv_iload_n hx hb dX3_oldestOfKind_12 rfl (lv_at hl 3 rfl) ?_
      refine k_cVz (As := [.int (i3 (z.2))]) (rest := []) ⟨hx, hb, hml, hown, hts⟩ (mW_isEmpty l G M0 (k) hk z.2 hz3 _ rfl) (cwV 1 hts (gbV (inB_8 _ (List.mem_of_getElem? (i := 10) rfl)) (inB_4 _ (List.mem_of_getElem? (i := 22) rfl)) (inB_4 _ (List.mem_of_getElem? (i := 23) rfl)) (inB_1 _ (List.mem_of_getElem? (i := 12) rfl)) (inB_5 _ (List.mem_of_getElem? (i := 0) rfl))) rfl rfl rfl (by decide +kernel) ⟨Nat.le_of_ble_eq_true rfl, Nat.le_of_ble_eq_true rfl⟩) (rv_wall hk hW) hW hS rfl hl.1 rfl (lv_room (Nat.le_of_ble_eq_true rfl)) dX3_oldestOfKind_13 ⟨Nat.zero_le _, Nat.zero_le _⟩ (fun hv2 H locs hW hS => ?_)
      refine k_if_ne (tgt := 49) hx hb (inR_z hv2) dX3_oldestOfKind_16 (by decide) (fun hc3 => ?_) (fun hc3 => ?_)
      · rw [if_neg hc3] at hf
        exact J4 (z.1) (z.2) hf hz2 hz3 _ _ _ hW hS (lv_sub hl [0, 1, 2, 3] rfl)
      · rw [if_pos hc3] at hf
        refine lv_aload_n hx hb dX3_oldestOfKind_19 rfl (lv_at hl 0 rfl) ?_
        refine lv_iload_n hx hb dX3_oldestOfKind_20 rfl (lv_at hl 3 rfl) ?_
        refine k_cVi (As := [.int (i3 (z.2))]) (rest := []) ⟨hx, hb, hml, hown, hts⟩ (mW_kindIn l G M0 (k) hk z.2 hz3 _ rfl) (cwV 1 hts (gbV (inB_9 _ (List.mem_of_getElem? (i := 0) rfl)) (inB_5 _ (List.mem_of_getElem? (i := 4) rfl)) (inB_5 _ (List.mem_of_getElem? (i := 5) rfl)) (inB_1 _ (List.mem_of_getElem? (i := 12) rfl)) (inB_5 _ (List.mem_of_getElem? (i := 6) rfl))) rfl rfl rfl (by decide +kernel) ⟨Nat.le_of_ble_eq_true rfl, Nat.le_of_ble_eq_true rfl⟩) (rv_wall hk hW) hW hS rfl hl.1 rfl (lv_room (Nat.le_of_ble_eq_true rfl)) dX3_oldestOfKind_21 ⟨Nat.zero_le _, Nat.zero_le _⟩ (fun hv6 H locs hW hS => ?_)
        refine lv_iload_n hx hb dX3_oldestOfKind_24 rfl (lv_at hl 1 rfl) ?_
        refine k_icmp_ne (tgt := 49) hx hb hv6 hx1 dX3_oldestOfKind_25 (by decide) (fun hc7 => ?_) (fun hc7 => ?_)
        · rw [if_neg hc7] at hf
          exact J4 (z.1) (z.2) hf hz2 hz3 _ _ _ hW hS (lv_sub hl [0, 1, 2, 3] rfl)
        · rw [if_pos hc7] at hf
          refine lv_iload_n hx hb dX3_oldestOfKind_28 rfl (lv_at hl 2 rfl) ?_
          refine k_bipush hx hb dX3_oldestOfKind_29 (by decide +kernel) ?_
          refine k_icmp_eq (tgt := 47) hx hb hz2 (show inR (-15) by decide) dX3_oldestOfKind_31 (by decide) (fun hc8 => ?_) (fun hc8 => ?_)
          · rw [if_pos hc8] at hf
            exact J9 (z.2) hf hz3 _ _ _ hW hS (lv_sub hl [0, 1, 3] rfl)
          · rw [if_neg hc8] at hf
            refine lv_aload_n hx hb dX3_oldestOfKind_34 rfl (lv_at hl 0 rfl) ?_
            refine lv_iload_n hx hb dX3_oldestOfKind_35 rfl (lv_at hl 3 rfl) ?_
            refine k_cVi (As := [.int (i3 (z.2))]) (rest := []) ⟨hx, hb, hml, hown, hts⟩ (mW_ageIn l G M0 (k) hk z.2 hz3 _ rfl) (cwV 1 hts (gbV (inB_13 _ (List.mem_of_getElem? (i := 5) rfl)) (inB_6 _ (List.mem_of_getElem? (i := 2) rfl)) (inB_6 _ (List.mem_of_getElem? (i := 3) rfl)) (inB_1 _ (List.mem_of_getElem? (i := 12) rfl)) (inB_6 _ (List.mem_of_getElem? (i := 4) rfl))) rfl rfl rfl (by decide +kernel) ⟨Nat.le_of_ble_eq_true rfl, Nat.le_of_ble_eq_true rfl⟩) (rv_wall hk hW) hW hS rfl hl.1 rfl (lv_room (Nat.le_of_ble_eq_true rfl)) dX3_oldestOfKind_36 ⟨Nat.zero_le _, Nat.zero_le _⟩ (fun hv10 H locs hW hS => ?_)
            refine lv_aload_n hx hb dX3_oldestOfKind_39 rfl (lv_at hl 0 rfl) ?_
            refine lv_iload_n hx hb dX3_oldestOfKind_40 rfl (lv_at hl 2 rfl) ?_
            refine k_cVi (As := [.int (i3 (z.1))]) (rest := [.int (i3 ((fW_ageIn M0 (k) z.2)))]) ⟨hx, hb, hml, hown, hts⟩ (mW_ageIn l G M0 (k) hk z.1 hz2 _ rfl) (cwV 1 hts (gbV (inB_13 _ (List.mem_of_getElem? (i := 5) rfl)) (inB_6 _ (List.mem_of_getElem? (i := 2) rfl)) (inB_6 _ (List.mem_of_getElem? (i := 3) rfl)) (inB_1 _ (List.mem_of_getElem? (i := 12) rfl)) (inB_6 _ (List.mem_of_getElem? (i := 4) rfl))) rfl rfl rfl (by decide +kernel) ⟨Nat.le_of_ble_eq_true rfl, Nat.le_of_ble_eq_true rfl⟩) (rv_wall hk hW) hW hS rfl hl.1 rfl (lv_room (Nat.le_of_ble_eq_true rfl)) dX3_oldestOfKind_41 ⟨Nat.zero_le _, Nat.zero_le _⟩ (fun hv11 H locs hW hS => ?_)
            refine k_icmp_le (tgt := 49) hx hb hv10 hv11 dX3_oldestOfKind_44 (by decide) (fun hc12 => ?_) (fun hc12 => ?_)
            · rw [if_neg hc12] at hf
              exact J4 (z.1) (z.2) hf hz2 hz3 _ _ _ hW hS (lv_sub hl [0, 1, 2, 3] rfl)
            · rw [if_pos hc12] at hf
              exact J9 (z.2) hf hz3 _ _ _ hW hS (lv_sub hl [0, 1, 3] rfl)
  refine k_bipush hx hb dX3_oldestOfKind_0 (by decide +kernel) ?_
  refine lv_istore_n (lv' := [(2, .int (i3 ((-15)))), (0, .ref (gA G (5 + k))), (1, .int (i3 (x1)))]) hx hb dX3_oldestOfKind_2 rfl hl (by decide) rfl (fun ls hl => ?_)
  refine k_const hx hb dX3_oldestOfKind_3 ?_
  refine lv_istore_n (lv' := [(3, .int (i3 (0))), (2, .int (i3 ((-15)))), (0, .ref (gA G (5 + k))), (1, .int (i3 (x1)))]) hx hb dX3_oldestOfKind_4 rfl hl (by decide) rfl (fun ls hl => ?_)
  exact L13 (x1) hx1 ((-15), 0) r hf rfl (show inR (-15) by decide) (show inR (0) by decide) _ _ _ hW hS (lv_sub hl [2, 3, 1, 0] rfl)
set_option maxHeartbeats 4000000 in
set_option maxRecDepth 100000 in
theorem mW_sacksOfKind (l : Launch) (G : gG) (M0 : MemG) (k : Nat) (hk : k < 11) (x1 : Int) (hx1 : inR x1) (r : Int) (hf : fW_sacksOfKind M0 k x1 = some r) : Met l yX3_sacksOfKind (wb yX3_sacksOfKind cX3_sacksOfKind 4 (some .int)) ({ frames := 2, cells := 0, slots := 0, locals := 42 } : Room) (PcG G M0 [.ref (gA G (5 + k)), .int (i3 (x1))]) (QcI G M0 r) 0 0 (PA G) := by
  refine Met.ofW (cc := cX3_sacksOfKind) (maxL := 4) (ret := (some .int)) (by decide) rfl ?_
  intro p e s m args below meth c s₁ B hml hv0
  obtain ⟨hav, hW⟩ := hv0
  have hx := B.exec
  have hb := B.bytes
  have hr := B.returns
  have hts := atoms_spec (ws := (wb yX3_sacksOfKind cX3_sacksOfKind 4 (some .int))) B.pre
  have hown : s.vm.findClass RX3 = some m.cls := findClass_of_methodNamed B.named
  have hlocks := B.notSynchronized
  have hW : Wd G M0 s s.heap := hW
  have hS : va_S (PA G) s.heap s.heap [] := va_S.rf
  have hl := lv_entry [.ref (gA G (5 + k)), .int (i3 (x1))] (n := 4) (Nat.le_of_ble_eq_true rfl)
  have hent := lg_entry_eq m [.ref (gA G (5 + k)), .int (i3 (x1))] 4
  rw [← hav] at hent
  rw [hent]
  clear hent
  generalize (lg_sl [.ref (gA G (5 + k)), .int (i3 (x1))] ++ List.replicate (4 - (lg_sl [.ref (gA G (5 + k)), .int (i3 (x1))]).length) Slot.unset).toArray = ls at hl ⊢
  have hl : lv_has ls 4 [(0, .ref (gA G (5 + k))), (1, .int (i3 (x1)))] := hl
  unfold fW_sacksOfKind at hf
  show W p l e ({ frames := 2, cells := 0, slots := 0, locals := 42 } : Room) s m args below meth c s.heap [] 0 0 (MQ below (QcI G M0 r) args s 0 0 (PA G)) (F0 m 0 ls [])
  have L8 : ∀ (x1 : Int) (hx1 : inR x1), ∀ (z : (Int × Int)) (q : (Int)), loopN (fW_sacksOfKind_l4 M0 k x1) 200 z = some q → (q = r) → (inR (z.1) → inR (z.2) → ∀ (H : Heap) (locs : List Loc) (ls : Array Slot), Wd G (M0) s H → va_S (PA G) s.heap H locs → lv_has ls 4 [(0, .ref (gA G (5 + k))), (1, .int (i3 (x1))), (2, .int (i3 (z.1))), (3, .int (i3 (z.2)))] → W p l e ({ frames := 2, cells := 0, slots := 0, locals := 42 } : Room) s m args below meth c H locs 0 0 (MQ below (QcI G M0 r) args s 0 0 (PA G)) (F0 m 4 ls [])) := by
    intro x1 hx1 z q hq hex
    refine loop_rule (fW_sacksOfKind_l4 M0 k x1) (fun z => inR (z.1) → inR (z.2) → ∀ (H : Heap) (locs : List Loc) (ls : Array Slot), Wd G (M0) s H → va_S (PA G) s.heap H locs → lv_has ls 4 [(0, .ref (gA G (5 + k))), (1, .int (i3 (x1))), (2, .int (i3 (z.1))), (3, .int (i3 (z.2)))] → W p l e ({ frames := 2, cells := 0, slots := 0, locals := 42 } : Room) s m args below meth c H locs 0 0 (MQ below (QcI G M0 r) args s 0 0 (PA G)) (F0 m 4 ls [])) (fun q => (q = r)) ?_ 200 z q hq hex
    clear hq hex q z
    intro z x hf hK hz2 hz3 H locs ls hW hS hl
    have J4 : ∀ (x2 : Int) (x3 : Int), fW_sacksOfKind_j27 M0 k x1 x2 x3 = some x → inR x2 → inR x3 →  ∀ (H : Heap) (locs : List Loc) (ls : Array Slot), Wd G M0 s H → va_S (PA G) s.heap H locs → lv_has ls 4 [(0, .ref (gA G (5 + k))), (1, .int (i3 (x1))), (2, .int (i3 (x2))), (3, .int (i3 (x3)))] → W p l e ({ frames := 2, cells := 0, slots := 0, locals := 42 } : Room) s m args below meth c H locs 0 0 (MQ below (QcI G M0 r) args s 0 0 (PA G)) (F0 m 27 ls []) := by
      intro x2 x3 hf hx2 hx3 H locs ls hW hS hl
      unfold fW_sacksOfKind_j27 at hf
      obtain ⟨hg5, hf⟩ := gd_el hf
      refine k_iinc (lv' := [(3, .int (i3 (x3 + 1))), (0, .ref (gA G (5 + k))), (1, .int (i3 (x1))), (2, .int (i3 (x2)))]) hx hb dX3_sacksOfKind_27 hl (k := 3) rfl (by decide) rfl (fun ls hl => ?_)
      refine lv_goto (tgt := 4) hx hb dX3_sacksOfKind_30 (by decide) ?_
      obtain rfl := some_el hf
      exact hK hx2 hg5 _ _ _ hW hS (lv_sub hl [1, 2, 3, 0] rfl)
    unfold fW_sacksOfKind_l4 at hf
    refine lv_iload_n hx hb dX3_sacksOfKind_4 rfl (lv_at hl 3 rfl) ?_
    refine k_bipush hx hb dX3_sacksOfKind_5 (by decide +kernel) ?_
    refine k_icmp_ge (tgt := 33) hx hb hz3 (show inR (32) by decide) dX3_sacksOfKind_7 (by decide) (fun hc1 => ?_) (fun hc1 => ?_)
    · rw [if_neg hc1] at hf
      refine lv_iload_n hx hb dX3_sacksOfKind_33 rfl (lv_at hl 2 rfl) ?_
      obtain rfl := some_el hf
      obtain rfl : z.1 = r := hK
      exact k_ret hx hb hr hlocks hW hS rfl hz2 dX3_sacksOfKind_34
    · rw [if_pos hc1] at hf
      refine lv_aload_n hx hb dX3_sacksOfKind_10 rfl (lv_at hl 0 rfl) ?_
      refine lv_iload_n hx hb dX3_sacksOfKind_11 rfl (lv_at hl 3 rfl) ?_
      refine k_cVi (As := [.int (i3 (z.2))]) (rest := []) ⟨hx, hb, hml, hown, hts⟩ (mW_kindIn l G M0 (k) hk z.2 hz3 _ rfl) (cwV 1 hts (gbV (inB_9 _ (List.mem_of_getElem? (i := 0) rfl)) (inB_5 _ (List.mem_of_getElem? (i := 4) rfl)) (inB_5 _ (List.mem_of_getElem? (i := 5) rfl)) (inB_1 _ (List.mem_of_getElem? (i := 12) rfl)) (inB_5 _ (List.mem_of_getElem? (i := 6) rfl))) rfl rfl rfl (by decide +kernel) ⟨Nat.le_of_ble_eq_true rfl, Nat.le_of_ble_eq_true rfl⟩) (rv_wall hk hW) hW hS rfl hl.1 rfl (lv_room (Nat.le_of_ble_eq_true rfl)) dX3_sacksOfKind_12 ⟨Nat.zero_le _, Nat.zero_le _⟩ (fun hv2 H locs hW hS => ?_)
      refine lv_iload_n hx hb dX3_sacksOfKind_15 rfl (lv_at hl 1 rfl) ?_
      refine k_icmp_ne (tgt := 27) hx hb hv2 hx1 dX3_sacksOfKind_16 (by decide) (fun hc3 => ?_) (fun hc3 => ?_)
      · rw [if_neg hc3] at hf
        exact J4 (z.1) (z.2) hf hz2 hz3 _ _ _ hW hS (lv_sub hl [0, 1, 2, 3] rfl)
      · rw [if_pos hc3] at hf
        refine lv_iload_n hx hb dX3_sacksOfKind_19 rfl (lv_at hl 2 rfl) ?_
        refine lv_aload_n hx hb dX3_sacksOfKind_20 rfl (lv_at hl 0 rfl) ?_
        refine lv_iload_n hx hb dX3_sacksOfKind_21 rfl (lv_at hl 3 rfl) ?_
        refine k_cVi (As := [.int (i3 (z.2))]) (rest := [.int (i3 (z.1))]) ⟨hx, hb, hml, hown, hts⟩ (mW_sacksIn l G M0 (k) hk z.2 hz3 _ rfl) (cwV 1 hts (gbV (inB_8 _ (List.mem_of_getElem? (i := 19) rfl)) (inB_5 _ (List.mem_of_getElem? (i := 8) rfl)) (inB_5 _ (List.mem_of_getElem? (i := 9) rfl)) (inB_1 _ (List.mem_of_getElem? (i := 12) rfl)) (inB_5 _ (List.mem_of_getElem? (i := 10) rfl))) rfl rfl rfl (by decide +kernel) ⟨Nat.le_of_ble_eq_true rfl, Nat.le_of_ble_eq_true rfl⟩) (rv_wall hk hW) hW hS rfl hl.1 rfl (lv_room (Nat.le_of_ble_eq_true rfl)) dX3_sacksOfKind_22 ⟨Nat.zero_le _, Nat.zero_le _⟩ (fun hv6 H locs hW hS => ?_)
        refine k_add hx hb dX3_sacksOfKind_25 ?_
        obtain ⟨hg7, hf⟩ := gd_el hf
        refine lv_istore_n (lv' := [(2, .int (i3 (z.1 + ((fW_sacksIn M0 (k) z.2))))), (0, .ref (gA G (5 + k))), (1, .int (i3 (x1))), (3, .int (i3 (z.2)))]) hx hb dX3_sacksOfKind_26 rfl hl (by decide) rfl (fun ls hl => ?_)
        exact J4 (z.1 + ((fW_sacksIn M0 (k) z.2))) (z.2) hf hg7 hz3 _ _ _ hW hS (lv_sub hl [1, 2, 0, 3] rfl)
  refine k_const hx hb dX3_sacksOfKind_0 ?_
  refine lv_istore_n (lv' := [(2, .int (i3 (0))), (0, .ref (gA G (5 + k))), (1, .int (i3 (x1)))]) hx hb dX3_sacksOfKind_1 rfl hl (by decide) rfl (fun ls hl => ?_)
  refine k_const hx hb dX3_sacksOfKind_2 ?_
  refine lv_istore_n (lv' := [(3, .int (i3 (0))), (2, .int (i3 (0))), (0, .ref (gA G (5 + k))), (1, .int (i3 (x1)))]) hx hb dX3_sacksOfKind_3 rfl hl (by decide) rfl (fun ls hl => ?_)
  exact L8 (x1) hx1 (0, 0) r hf rfl (show inR (0) by decide) (show inR (0) by decide) _ _ _ hW hS (lv_sub hl [2, 3, 1, 0] rfl)
set_option maxHeartbeats 4000000 in
set_option maxRecDepth 100000 in
theorem mW_spoilingAt (l : Launch) (G : gG) (M0 : MemG) (k : Nat) (hk : k < 11) (x1 : Int) (hx1 : inR x1) (x2 : Int) (hx2 : inR x2) (r : Int) (hf : fW_spoilingAt M0 k x1 x2 = some r) : Met l yX3_spoilingAt (wb yX3_spoilingAt cX3_spoilingAt 3 (some .int)) ({ frames := 2, cells := 0, slots := 0, locals := 42 } : Room) (PcG G M0 [.ref (gA G (5 + k)), .int (i3 (x1)), .int (i3 (x2))]) (QcI G M0 r) 0 0 (PA G) := by
  refine Met.ofW (cc := cX3_spoilingAt) (maxL := 3) (ret := (some .int)) (by decide) rfl ?_
  intro p e s m args below meth c s₁ B hml hv0
  obtain ⟨hav, hW⟩ := hv0
  have hx := B.exec
  have hb := B.bytes
  have hr := B.returns
  have hts := atoms_spec (ws := (wb yX3_spoilingAt cX3_spoilingAt 3 (some .int))) B.pre
  have hown : s.vm.findClass RX3 = some m.cls := findClass_of_methodNamed B.named
  have hlocks := B.notSynchronized
  have hW : Wd G M0 s s.heap := hW
  have hS : va_S (PA G) s.heap s.heap [] := va_S.rf
  have hl := lv_entry [.ref (gA G (5 + k)), .int (i3 (x1)), .int (i3 (x2))] (n := 3) (Nat.le_of_ble_eq_true rfl)
  have hent := lg_entry_eq m [.ref (gA G (5 + k)), .int (i3 (x1)), .int (i3 (x2))] 3
  rw [← hav] at hent
  rw [hent]
  clear hent
  generalize (lg_sl [.ref (gA G (5 + k)), .int (i3 (x1)), .int (i3 (x2))] ++ List.replicate (3 - (lg_sl [.ref (gA G (5 + k)), .int (i3 (x1)), .int (i3 (x2))]).length) Slot.unset).toArray = ls at hl ⊢
  have hl : lv_has ls 3 [(0, .ref (gA G (5 + k))), (1, .int (i3 (x1))), (2, .int (i3 (x2)))] := hl
  unfold fW_spoilingAt at hf
  show W p l e ({ frames := 2, cells := 0, slots := 0, locals := 42 } : Room) s m args below meth c s.heap [] 0 0 (MQ below (QcI G M0 r) args s 0 0 (PA G)) (F0 m 0 ls [])
  refine lv_iload_n hx hb dX3_spoilingAt_0 rfl (lv_at hl 2 rfl) ?_
  refine k_getsN hx hb hW.S.1.1 hown (va_Nw.use rfl (hW.N _ (List.mem_of_getElem? (i := 5) rfl))) dX3_spoilingAt_1 ?_
  refine lv_aload_n hx hb dX3_spoilingAt_4 rfl (lv_at hl 0 rfl) ?_
  refine lv_iload_n hx hb dX3_spoilingAt_5 rfl (lv_at hl 1 rfl) ?_
  refine k_cVi (As := [.int (i3 (x1))]) (rest := [.ref (gA G (86)), .int (i3 (x2))]) ⟨hx, hb, hml, hown, hts⟩ (mW_kindIn l G M0 (k) hk x1 hx1 _ rfl) (cwV 1 hts (gbV (inB_9 _ (List.mem_of_getElem? (i := 0) rfl)) (inB_5 _ (List.mem_of_getElem? (i := 4) rfl)) (inB_5 _ (List.mem_of_getElem? (i := 5) rfl)) (inB_1 _ (List.mem_of_getElem? (i := 12) rfl)) (inB_5 _ (List.mem_of_getElem? (i := 6) rfl))) rfl rfl rfl (by decide +kernel) ⟨Nat.le_of_ble_eq_true rfl, Nat.le_of_ble_eq_true rfl⟩) (rv_wall hk hW) hW hS rfl hl.1 rfl (lv_room (Nat.le_of_ble_eq_true rfl)) dX3_spoilingAt_6 ⟨Nat.zero_le _, Nat.zero_le _⟩ (fun hv1 H locs hW hS => ?_)
  refine k_cNi (As := [.ref (gA G (86)), .int (i3 ((fW_kindIn M0 (k) x1)))]) (rest := [.int (i3 (x2))]) ⟨hx, hb, hml, hown, hts⟩ (mG_atS l G M0 86 (fun U H h => h.1.2) ((fW_kindIn M0 (k) x1)) hv1 _ rfl) ⟨va_cnB 2 hts (gbC (inB_5 _ (List.mem_of_getElem? (i := 2) rfl))) rfl rfl rfl (hW.N _ (List.mem_of_getElem? (i := 1) rfl)) (hts _ (List.mem_cons_of_mem _ (inB_1 _ (List.mem_of_getElem? (i := 2) rfl)))) (by decide +kernel) ⟨Nat.le_of_ble_eq_true rfl, Nat.le_of_ble_eq_true rfl⟩, (hts _ (List.mem_cons_of_mem _ (inB_5 _ (List.mem_of_getElem? (i := 1) rfl)))), trivial⟩ hW hS rfl hl.1 rfl (lv_room (Nat.le_of_ble_eq_true rfl)) dX3_spoilingAt_9 ⟨Nat.zero_le _, Nat.zero_le _⟩ (fun hv2 H locs hW hS => ?_)
  refine k_icmp_le (tgt := 29) hx hb hx2 hv2 dX3_spoilingAt_12 (by decide) (fun hc3 => ?_) (fun hc3 => ?_)
  · rw [if_neg hc3] at hf
    refine k_const hx hb dX3_spoilingAt_29 ?_
    obtain rfl := some_el hf
    exact k_ret hx hb hr hlocks hW hS rfl (show inR (0) by decide) dX3_spoilingAt_30
  · rw [if_pos hc3] at hf
    refine lv_aload_n hx hb dX3_spoilingAt_15 rfl (lv_at hl 0 rfl) ?_
    refine lv_iload_n hx hb dX3_spoilingAt_16 rfl (lv_at hl 1 rfl) ?_
    refine k_cVi (As := [.int (i3 (x1))]) (rest := []) ⟨hx, hb, hml, hown, hts⟩ (mW_sacksIn l G M0 (k) hk x1 hx1 _ rfl) (cwV 1 hts (gbV (inB_8 _ (List.mem_of_getElem? (i := 19) rfl)) (inB_5 _ (List.mem_of_getElem? (i := 8) rfl)) (inB_5 _ (List.mem_of_getElem? (i := 9) rfl)) (inB_1 _ (List.mem_of_getElem? (i := 12) rfl)) (inB_5 _ (List.mem_of_getElem? (i := 10) rfl))) rfl rfl rfl (by decide +kernel) ⟨Nat.le_of_ble_eq_true rfl, Nat.le_of_ble_eq_true rfl⟩) (rv_wall hk hW) hW hS rfl hl.1 rfl (lv_room (Nat.le_of_ble_eq_true rfl)) dX3_spoilingAt_17 ⟨Nat.zero_le _, Nat.zero_le _⟩ (fun hv4 H locs hW hS => ?_)
    refine k_bipush hx hb dX3_spoilingAt_20 (by decide +kernel) ?_
    refine k_add hx hb dX3_spoilingAt_22 ?_
    refine k_bipush hx hb dX3_spoilingAt_23 (by decide +kernel) ?_
    obtain ⟨hg5, hf⟩ := gd_el hf
    obtain ⟨hg6, hf⟩ := gq_el hf
    refine k_div hx hb dX3_spoilingAt_25 hg5 (show inR (10) by decide) hg6 ?_
    refine lv_goto (tgt := 30) hx hb dX3_spoilingAt_26 (by decide) ?_
    obtain rfl := some_el hf
    exact k_ret hx hb hr hlocks hW hS rfl (inR_div hg5 hg6.1 hg6.2) dX3_spoilingAt_30
set_option maxHeartbeats 4000000 in
set_option maxRecDepth 100000 in
theorem mW_growOlder (l : Launch) (G : gG) (M0 : MemG) (k : Nat) (hk : k < 11) (r : MemG × Int) (hf : fW_growOlder M0 k = some r) : Met l yX3_growOlder (wb yX3_growOlder cX3_growOlder 4 (some .int)) ({ frames := 3, cells := 0, slots := 0, locals := 68 } : Room) (PcG G M0 [.ref (gA G (5 + k))]) (QcI G r.1 r.2) 0 0 (PA G) := by
  refine Met.ofW (cc := cX3_growOlder) (maxL := 4) (ret := (some .int)) (by decide) rfl ?_
  intro p e s m args below meth c s₁ B hml hv0
  obtain ⟨hav, hW⟩ := hv0
  have hx := B.exec
  have hb := B.bytes
  have hr := B.returns
  have hts := atoms_spec (ws := (wb yX3_growOlder cX3_growOlder 4 (some .int))) B.pre
  have hown : s.vm.findClass RX3 = some m.cls := findClass_of_methodNamed B.named
  have hlocks := B.notSynchronized
  have hinX3 : ∀ w ∈ u_ws RX3 TX3 6, w ∈ (wb yX3_growOlder cX3_growOlder 4 (some .int)) := fun _ h => List.mem_cons_of_mem _ (inlX3 _ h)
  have hW : Wd G M0 s s.heap := hW
  have hS : va_S (PA G) s.heap s.heap [] := va_S.rf
  have hl := lv_entry [.ref (gA G (5 + k))] (n := 4) (Nat.le_of_ble_eq_true rfl)
  have hent := lg_entry_eq m [.ref (gA G (5 + k))] 4
  rw [← hav] at hent
  rw [hent]
  clear hent
  generalize (lg_sl [.ref (gA G (5 + k))] ++ List.replicate (4 - (lg_sl [.ref (gA G (5 + k))]).length) Slot.unset).toArray = ls at hl ⊢
  have hl : lv_has ls 4 [(0, .ref (gA G (5 + k)))] := hl
  unfold fW_growOlder at hf
  show W p l e ({ frames := 3, cells := 0, slots := 0, locals := 68 } : Room) s m args below meth c s.heap [] 0 0 (MQ below (QcI G r.1 r.2) args s 0 0 (PA G)) (F0 m 0 ls [])
  have L16 : ∀ (z : (Int × Int × MemG)) (q : (MemG × Int)), loopN (fW_growOlder_l4 k) 200 z = some q → (q = r) → (inR (z.1) → inR (z.2.1) → ∀ (H : Heap) (locs : List Loc) (ls : Array Slot), Wd G (z.2.2) s H → va_S (PA G) s.heap H locs → lv_has ls 4 [(0, .ref (gA G (5 + k))), (1, .int (i3 (z.1))), (2, .int (i3 (z.2.1)))] → W p l e ({ frames := 3, cells := 0, slots := 0, locals := 68 } : Room) s m args below meth c H locs 0 0 (MQ below (QcI G r.1 r.2) args s 0 0 (PA G)) (F0 m 4 ls [])) := by
    intro z q hq hex
    refine loop_rule (fW_growOlder_l4 k) (fun z => inR (z.1) → inR (z.2.1) → ∀ (H : Heap) (locs : List Loc) (ls : Array Slot), Wd G (z.2.2) s H → va_S (PA G) s.heap H locs → lv_has ls 4 [(0, .ref (gA G (5 + k))), (1, .int (i3 (z.1))), (2, .int (i3 (z.2.1)))] → W p l e ({ frames := 3, cells := 0, slots := 0, locals := 68 } : Room) s m args below meth c H locs 0 0 (MQ below (QcI G r.1 r.2) args s 0 0 (PA G)) (F0 m 4 ls [])) (fun q => (q = r)) ?_ 200 z q hq hex
    clear hq hex q z
    intro z x hf hK hz1 hz2 H locs ls hW hS hl
    have J4 : ∀ (M : MemG) (x1 : Int) (x2 : Int), fW_growOlder_j54 M k x1 x2 = some x → inR x1 → inR x2 →  ∀ (H : Heap) (locs : List Loc) (ls : Array Slot), Wd G M s H → va_S (PA G) s.heap H locs → lv_has ls 4 [(0, .ref (gA G (5 + k))), (1, .int (i3 (x1))), (2, .int (i3 (x2)))] → W p l e ({ frames := 3, cells := 0, slots := 0, locals := 68 } : Room) s m args below meth c H locs 0 0 (MQ below (QcI G r.1 r.2) args s 0 0 (PA G)) (F0 m 54 ls []) := by
      intro M x1 x2 hf hx1 hx2 H locs ls hW hS hl
      unfold fW_growOlder_j54 at hf
      obtain ⟨hg5, hf⟩ := gd_el hf
      refine k_iinc (lv' := [(2, .int (i3 (x2 + 1))), (0, .ref (gA G (5 + k))), (1, .int (i3 (x1)))]) hx hb dX3_growOlder_54 hl (k := 2) rfl (by decide) rfl (fun ls hl => ?_)
      refine lv_goto (tgt := 4) hx hb dX3_growOlder_57 (by decide) ?_
      obtain rfl := some_el hf
      exact hK hx1 hg5 _ _ _ hW hS (lv_sub hl [1, 2, 0] rfl)
    unfold fW_growOlder_l4 at hf
    refine lv_iload_n hx hb dX3_growOlder_4 rfl (lv_at hl 2 rfl) ?_
    refine k_bipush hx hb dX3_growOlder_5 (by decide +kernel) ?_
    refine k_icmp_ge (tgt := 60) hx hb hz2 (show inR (32) by decide) dX3_growOlder_7 (by decide) (fun hc1 => ?_) (fun hc1 => ?_)
    · rw [if_neg hc1] at hf
      refine lv_iload_n hx hb dX3_growOlder_60 rfl (lv_at hl 1 rfl) ?_
      obtain rfl := some_el hf
      obtain rfl : (z.2.2, z.1) = r := hK
      exact k_ret hx hb hr hlocks hW hS rfl hz1 dX3_growOlder_61
    · rw [if_pos hc1] at hf
      refine lv_aload_n hx hb dX3_growOlder_10 rfl (lv_at hl 0 rfl) ?_
      refine lv_iload_n hx hb dX3_growOlder_11 rfl (lv_at hl 2 rfl) ?_
      refine k_cVz (As := [.int (i3 (z.2.1))]) (rest := []) ⟨hx, hb, hml, hown, hts⟩ (mW_isEmpty l G z.2.2 (k) hk z.2.1 hz2 _ rfl) (cwV 1 hts (gbV (inB_8 _ (List.mem_of_getElem? (i := 10) rfl)) (inB_4 _ (List.mem_of_getElem? (i := 22) rfl)) (inB_4 _ (List.mem_of_getElem? (i := 23) rfl)) (inB_1 _ (List.mem_of_getElem? (i := 12) rfl)) (inB_5 _ (List.mem_of_getElem? (i := 0) rfl))) rfl rfl rfl (by decide +kernel) ⟨Nat.le_of_ble_eq_true rfl, Nat.le_of_ble_eq_true rfl⟩) (rv_wall hk hW) hW hS rfl hl.1 rfl (lv_room (Nat.le_of_ble_eq_true rfl)) dX3_growOlder_12 ⟨Nat.zero_le _, Nat.zero_le _⟩ (fun hv2 H locs hW hS => ?_)
      refine k_if_ne (tgt := 54) hx hb (inR_z hv2) dX3_growOlder_15 (by decide) (fun hc3 => ?_) (fun hc3 => ?_)
      · rw [if_neg hc3] at hf
        exact J4 (z.2.2) (z.1) (z.2.1) hf hz1 hz2 _ _ _ hW hS (lv_sub hl [0, 1, 2] rfl)
      · rw [if_pos hc3] at hf
        refine lv_aload_n hx hb dX3_growOlder_18 rfl (lv_at hl 0 rfl) ?_
        refine va_get (D := G.1) (ci := 3) (v := .ref (gA G (16 + 6 * k + 2))) (C := RX3) (T := TX3) (N := 6) hx hb hts hinX3 hown hW.K hW.P (5 + k) (he_wall hk G z.2.2) rfl 2 (by decide) (hts _ (List.mem_cons_of_mem _ (inB_2 _ (List.mem_of_getElem? (i := 15) rfl)))) (fun _ h9 => h9) rfl dX3_growOlder_19 ?_
        refine lv_iload_n hx hb dX3_growOlder_22 rfl (lv_at hl 2 rfl) ?_
        refine lv_aload_n hx hb dX3_growOlder_23 rfl (lv_at hl 0 rfl) ?_
        refine lv_iload_n hx hb dX3_growOlder_24 rfl (lv_at hl 2 rfl) ?_
        refine k_cVi (As := [.int (i3 (z.2.1))]) (rest := [.int (i3 (z.2.1)), .ref (gA G (16 + 6 * k + 2))]) ⟨hx, hb, hml, hown, hts⟩ (mW_ageIn l G z.2.2 (k) hk z.2.1 hz2 _ rfl) (cwV 1 hts (gbV (inB_13 _ (List.mem_of_getElem? (i := 5) rfl)) (inB_6 _ (List.mem_of_getElem? (i := 2) rfl)) (inB_6 _ (List.mem_of_getElem? (i := 3) rfl)) (inB_1 _ (List.mem_of_getElem? (i := 12) rfl)) (inB_6 _ (List.mem_of_getElem? (i := 4) rfl))) rfl rfl rfl (by decide +kernel) ⟨Nat.le_of_ble_eq_true rfl, Nat.le_of_ble_eq_true rfl⟩) (rv_wall hk hW) hW hS rfl hl.1 rfl (lv_room (Nat.le_of_ble_eq_true rfl)) dX3_growOlder_25 ⟨Nat.zero_le _, Nat.zero_le _⟩ (fun hv6 H locs hW hS => ?_)
        refine k_const hx hb dX3_growOlder_28 ?_
        refine k_add hx hb dX3_growOlder_29 ?_
        obtain ⟨hg7, hf⟩ := gd_el hf
        obtain ⟨m8, hm8, hf⟩ := bind_el hf
        refine k_cNv (As := [.ref (gA G (16 + 6 * k + 2)), .int (i3 (z.2.1)), .int (i3 (((fW_ageIn z.2.2 (k) z.2.1)) + 1))]) (rest := []) ⟨hx, hb, hml, hown, hts⟩ (mG_put l G z.2.2 (16 + 6 * k + 2) (by omega) z.2.1 hz2 (((fW_ageIn z.2.2 (k) z.2.1)) + 1) hg7 m8 hm8) ⟨va_cnB 3 hts (gbC (inB_6 _ (List.mem_of_getElem? (i := 0) rfl))) rfl rfl rfl (hW.N _ (List.mem_of_getElem? (i := 2) rfl)) (hts _ (List.mem_cons_of_mem _ (inB_1 _ (List.mem_of_getElem? (i := 2) rfl)))) (by decide +kernel) ⟨Nat.le_of_ble_eq_true rfl, Nat.le_of_ble_eq_true rfl⟩, (hts _ (List.mem_cons_of_mem _ (inB_5 _ (List.mem_of_getElem? (i := 23) rfl)))), trivial⟩ hW hS rfl hl.1 rfl (lv_room (Nat.le_of_ble_eq_true rfl)) dX3_growOlder_30 ⟨Nat.zero_le _, Nat.zero_le _⟩ (fun H locs hW hS => ?_)
        refine lv_aload_n hx hb dX3_growOlder_33 rfl (lv_at hl 0 rfl) ?_
        refine lv_iload_n hx hb dX3_growOlder_34 rfl (lv_at hl 2 rfl) ?_
        refine lv_aload_n hx hb dX3_growOlder_35 rfl (lv_at hl 0 rfl) ?_
        refine lv_iload_n hx hb dX3_growOlder_36 rfl (lv_at hl 2 rfl) ?_
        refine k_cVi (As := [.int (i3 (z.2.1))]) (rest := [.int (i3 (z.2.1)), .ref (gA G (5 + k))]) ⟨hx, hb, hml, hown, hts⟩ (mW_ageIn l G m8 (k) hk z.2.1 hz2 _ rfl) (cwV 1 hts (gbV (inB_13 _ (List.mem_of_getElem? (i := 5) rfl)) (inB_6 _ (List.mem_of_getElem? (i := 2) rfl)) (inB_6 _ (List.mem_of_getElem? (i := 3) rfl)) (inB_1 _ (List.mem_of_getElem? (i := 12) rfl)) (inB_6 _ (List.mem_of_getElem? (i := 4) rfl))) rfl rfl rfl (by decide +kernel) ⟨Nat.le_of_ble_eq_true rfl, Nat.le_of_ble_eq_true rfl⟩) (rv_wall hk hW) hW hS rfl hl.1 rfl (lv_room (Nat.le_of_ble_eq_true rfl)) dX3_growOlder_37 ⟨Nat.zero_le _, Nat.zero_le _⟩ (fun hv10 H locs hW hS => ?_)
        obtain ⟨q11, hq11, hf⟩ := bind_el hf
        refine k_cVi (As := [.int (i3 (z.2.1)), .int (i3 ((fW_ageIn m8 (k) z.2.1)))]) (rest := []) ⟨hx, hb, hml, hown, hts⟩ (mW_spoilingAt l G m8 (k) hk z.2.1 hz2 ((fW_ageIn m8 (k) z.2.1)) hv10 q11 hq11) (cwV 2 hts (gbV (inB_14 _ (List.mem_of_getElem? (i := 9) rfl)) (inB_9 _ (List.mem_of_getElem? (i := 22) rfl)) (inB_9 _ (List.mem_of_getElem? (i := 23) rfl)) (inB_1 _ (List.mem_of_getElem? (i := 12) rfl)) (inB_10 _ (List.mem_of_getElem? (i := 0) rfl))) rfl rfl rfl (by decide +kernel) ⟨Nat.le_of_ble_eq_true rfl, Nat.le_of_ble_eq_true rfl⟩) (rv_wall hk hW) hW hS rfl hl.1 rfl (lv_room (Nat.le_of_ble_eq_true rfl)) dX3_growOlder_40 ⟨Nat.zero_le _, Nat.zero_le _⟩ (fun hv12 H locs hW hS => ?_)
        refine lv_istore_n (lv' := [(3, .int (i3 (q11))), (0, .ref (gA G (5 + k))), (1, .int (i3 (z.1))), (2, .int (i3 (z.2.1)))]) hx hb dX3_growOlder_43 rfl hl (by decide) rfl (fun ls hl => ?_)
        refine lv_aload_n hx hb dX3_growOlder_44 rfl (lv_at hl 1 rfl) ?_
        refine lv_iload_n hx hb dX3_growOlder_45 rfl (lv_at hl 3 rfl) ?_
        refine lv_iload_n hx hb dX3_growOlder_46 rfl (lv_at hl 0 rfl) ?_
        obtain ⟨m13, hm13, hf⟩ := bind_el hf
        refine k_cVv (As := [.int (i3 (z.2.1)), .int (i3 (q11))]) (rest := []) ⟨hx, hb, hml, hown, hts⟩ (mW_remove l G m8 (k) hk z.2.1 hz2 q11 hv12 m13 hm13) (cwV 2 hts (gbV (inB_14 _ (List.mem_of_getElem? (i := 10) rfl)) (inB_12 _ (List.mem_of_getElem? (i := 4) rfl)) (inB_12 _ (List.mem_of_getElem? (i := 5) rfl)) (inB_1 _ (List.mem_of_getElem? (i := 12) rfl)) (inB_12 _ (List.mem_of_getElem? (i := 6) rfl))) rfl rfl rfl (by decide +kernel) ⟨Nat.le_of_ble_eq_true rfl, Nat.le_of_ble_eq_true rfl⟩) (rv_wall hk hW) hW hS rfl hl.1 rfl (lv_room (Nat.le_of_ble_eq_true rfl)) dX3_growOlder_47 ⟨Nat.zero_le _, Nat.zero_le _⟩ (fun H locs hW hS => ?_)
        refine lv_iload_n hx hb dX3_growOlder_50 rfl (lv_at hl 2 rfl) ?_
        refine lv_iload_n hx hb dX3_growOlder_51 rfl (lv_at hl 0 rfl) ?_
        refine k_add hx hb dX3_growOlder_52 ?_
        obtain ⟨hg15, hf⟩ := gd_el hf
        refine lv_istore_n (lv' := [(1, .int (i3 (z.1 + q11))), (3, .int (i3 (q11))), (0, .ref (gA G (5 + k))), (2, .int (i3 (z.2.1)))]) hx hb dX3_growOlder_53 rfl hl (by decide) rfl (fun ls hl => ?_)
        exact J4 (m13) (z.1 + q11) (z.2.1) hf hg15 hz2 _ _ _ hW hS (lv_sub hl [2, 0, 3] rfl)
  refine k_const hx hb dX3_growOlder_0 ?_
  refine lv_istore_n (lv' := [(1, .int (i3 (0))), (0, .ref (gA G (5 + k)))]) hx hb dX3_growOlder_1 rfl hl (by decide) rfl (fun ls hl => ?_)
  refine k_const hx hb dX3_growOlder_2 ?_
  refine lv_istore_n (lv' := [(2, .int (i3 (0))), (1, .int (i3 (0))), (0, .ref (gA G (5 + k)))]) hx hb dX3_growOlder_3 rfl hl (by decide) rfl (fun ls hl => ?_)
  exact L16  (0, 0, M0) r hf rfl (show inR (0) by decide) (show inR (0) by decide) _ _ _ hW hS (lv_sub hl [2, 1, 0] rfl)
set_option maxHeartbeats 4000000 in
set_option maxRecDepth 100000 in
theorem mW_sumByBays (l : Launch) (G : gG) (M0 : MemG) (k : Nat) (hk : k < 11) (x1 : Int) (hx1 : inR x1) (x2 : Int) (hx2 : inR x2) (r : Int) (hf : fW_sumByBays M0 k x1 x2 = some r) : Met l yX3_sumByBays (wb yX3_sumByBays cX3_sumByBays 5 (some .int)) ({ frames := 2, cells := 0, slots := 0, locals := 42 } : Room) (PcG G M0 [.ref (gA G (5 + k)), .int (i3 (x1)), .int (i3 (x2))]) (QcI G M0 r) 0 0 (PA G) := by
  refine Met.ofW (cc := cX3_sumByBays) (maxL := 5) (ret := (some .int)) (by decide) rfl ?_
  intro p e s m args below meth c s₁ B hml hv0
  obtain ⟨hav, hW⟩ := hv0
  have hx := B.exec
  have hb := B.bytes
  have hr := B.returns
  have hts := atoms_spec (ws := (wb yX3_sumByBays cX3_sumByBays 5 (some .int))) B.pre
  have hown : s.vm.findClass RX3 = some m.cls := findClass_of_methodNamed B.named
  have hlocks := B.notSynchronized
  have hW : Wd G M0 s s.heap := hW
  have hS : va_S (PA G) s.heap s.heap [] := va_S.rf
  have hl := lv_entry [.ref (gA G (5 + k)), .int (i3 (x1)), .int (i3 (x2))] (n := 5) (Nat.le_of_ble_eq_true rfl)
  have hent := lg_entry_eq m [.ref (gA G (5 + k)), .int (i3 (x1)), .int (i3 (x2))] 5
  rw [← hav] at hent
  rw [hent]
  clear hent
  generalize (lg_sl [.ref (gA G (5 + k)), .int (i3 (x1)), .int (i3 (x2))] ++ List.replicate (5 - (lg_sl [.ref (gA G (5 + k)), .int (i3 (x1)), .int (i3 (x2))]).length) Slot.unset).toArray = ls at hl ⊢
  have hl : lv_has ls 5 [(0, .ref (gA G (5 + k))), (1, .int (i3 (x1))), (2, .int (i3 (x2)))] := hl
  unfold fW_sumByBays at hf
  show W p l e ({ frames := 2, cells := 0, slots := 0, locals := 42 } : Room) s m args below meth c s.heap [] 0 0 (MQ below (QcI G M0 r) args s 0 0 (PA G)) (F0 m 0 ls [])
  have L8 : ∀ (x1 : Int) (hx1 : inR x1) (x2 : Int) (hx2 : inR x2), ∀ (z : (Int × Int)) (q : (Int)), loopN (fW_sumByBays_l5 M0 k x1 x2) 200 z = some q → (q = r) → (inR (z.1) → inR (z.2) → ∀ (H : Heap) (locs : List Loc) (ls : Array Slot), Wd G (M0) s H → va_S (PA G) s.heap H locs → lv_has ls 5 [(0, .ref (gA G (5 + k))), (1, .int (i3 (x1))), (2, .int (i3 (x2))), (3, .int (i3 (z.1))), (4, .int (i3 (z.2)))] → W p l e ({ frames := 2, cells := 0, slots := 0, locals := 42 } : Room) s m args below meth c H locs 0 0 (MQ below (QcI G M0 r) args s 0 0 (PA G)) (F0 m 5 ls [])) := by
    intro x1 hx1 x2 hx2 z q hq hex
    refine loop_rule (fW_sumByBays_l5 M0 k x1 x2) (fun z => inR (z.1) → inR (z.2) → ∀ (H : Heap) (locs : List Loc) (ls : Array Slot), Wd G (M0) s H → va_S (PA G) s.heap H locs → lv_has ls 5 [(0, .ref (gA G (5 + k))), (1, .int (i3 (x1))), (2, .int (i3 (x2))), (3, .int (i3 (z.1))), (4, .int (i3 (z.2)))] → W p l e ({ frames := 2, cells := 0, slots := 0, locals := 42 } : Room) s m args below meth c H locs 0 0 (MQ below (QcI G M0 r) args s 0 0 (PA G)) (F0 m 5 ls [])) (fun q => (q = r)) ?_ 200 z q hq hex
    clear hq hex q z
    intro z x hf hK hz3 hz4 H locs ls hW hS hl
    have J3 : ∀ (x3 : Int) (x4 : Int), fW_sumByBays_j33 M0 k x1 x2 x3 x4 = some x → inR x3 → inR x4 →  ∀ (H : Heap) (locs : List Loc) (ls : Array Slot), Wd G M0 s H → va_S (PA G) s.heap H locs → lv_has ls 5 [(0, .ref (gA G (5 + k))), (1, .int (i3 (x1))), (2, .int (i3 (x2))), (3, .int (i3 (x3))), (4, .int (i3 (x4)))] → W p l e ({ frames := 2, cells := 0, slots := 0, locals := 42 } : Room) s m args below meth c H locs 0 0 (MQ below (QcI G M0 r) args s 0 0 (PA G)) (F0 m 33 ls []) := by
      intro x3 x4 hf hx3 hx4 H locs ls hW hS hl
      unfold fW_sumByBays_j33 at hf
      obtain ⟨hg4, hf⟩ := gd_el hf
      refine k_iinc (lv' := [(4, .int (i3 (x4 + 1))), (0, .ref (gA G (5 + k))), (1, .int (i3 (x1))), (2, .int (i3 (x2))), (3, .int (i3 (x3)))]) hx hb dX3_sumByBays_33 hl (k := 4) rfl (by decide) rfl (fun ls hl => ?_)
      refine lv_goto (tgt := 5) hx hb dX3_sumByBays_36 (by decide) ?_
      obtain rfl := some_el hf
      exact hK hx3 hg4 _ _ _ hW hS (lv_sub hl [1, 2, 3, 4, 0] rfl)
    unfold fW_sumByBays_l5 at hf
    refine lv_iload hx hb dX3_sumByBays_5 (lv_at hl 4 rfl) ?_
    refine k_bipush hx hb dX3_sumByBays_7 (by decide +kernel) ?_
    refine k_icmp_ge (tgt := 39) hx hb hz4 (show inR (32) by decide) dX3_sumByBays_9 (by decide) (fun hc1 => ?_) (fun hc1 => ?_)
    · rw [if_neg hc1] at hf
      refine lv_iload_n hx hb dX3_sumByBays_39 rfl (lv_at hl 3 rfl) ?_
      obtain rfl := some_el hf
      obtain rfl : z.1 = r := hK
      exact k_ret hx hb hr hlocks hW hS rfl hz3 dX3_sumByBays_40
    · rw [if_pos hc1] at hf
      refine lv_iload hx hb dX3_sumByBays_12 (lv_at hl 4 rfl) ?_
      refine lv_iload_n hx hb dX3_sumByBays_14 rfl (lv_at hl 1 rfl) ?_
      refine k_icmp_lt (tgt := 33) hx hb hz4 hx1 dX3_sumByBays_15 (by decide) (fun hc2 => ?_) (fun hc2 => ?_)
      · rw [if_pos hc2] at hf
        exact J3 (z.1) (z.2) hf hz3 hz4 _ _ _ hW hS (lv_sub hl [0, 1, 2, 3, 4] rfl)
      · rw [if_neg hc2] at hf
        refine lv_iload hx hb dX3_sumByBays_18 (lv_at hl 4 rfl) ?_
        refine lv_iload_n hx hb dX3_sumByBays_20 rfl (lv_at hl 2 rfl) ?_
        refine k_icmp_gt (tgt := 33) hx hb hz4 hx2 dX3_sumByBays_21 (by decide) (fun hc5 => ?_) (fun hc5 => ?_)
        · rw [if_pos hc5] at hf
          exact J3 (z.1) (z.2) hf hz3 hz4 _ _ _ hW hS (lv_sub hl [0, 1, 2, 3, 4] rfl)
        · rw [if_neg hc5] at hf
          refine lv_iload_n hx hb dX3_sumByBays_24 rfl (lv_at hl 3 rfl) ?_
          refine lv_aload_n hx hb dX3_sumByBays_25 rfl (lv_at hl 0 rfl) ?_
          refine lv_iload hx hb dX3_sumByBays_26 (lv_at hl 4 rfl) ?_
          refine k_cVi (As := [.int (i3 (z.2))]) (rest := [.int (i3 (z.1))]) ⟨hx, hb, hml, hown, hts⟩ (mW_sacksIn l G M0 (k) hk z.2 hz4 _ rfl) (cwV 1 hts (gbV (inB_8 _ (List.mem_of_getElem? (i := 19) rfl)) (inB_5 _ (List.mem_of_getElem? (i := 8) rfl)) (inB_5 _ (List.mem_of_getElem? (i := 9) rfl)) (inB_1 _ (List.mem_of_getElem? (i := 12) rfl)) (inB_5 _ (List.mem_of_getElem? (i := 10) rfl))) rfl rfl rfl (by decide +kernel) ⟨Nat.le_of_ble_eq_true rfl, Nat.le_of_ble_eq_true rfl⟩) (rv_wall hk hW) hW hS rfl hl.1 rfl (lv_room (Nat.le_of_ble_eq_true rfl)) dX3_sumByBays_28 ⟨Nat.zero_le _, Nat.zero_le _⟩ (fun hv6 H locs hW hS => ?_)
          refine k_add hx hb dX3_sumByBays_31 ?_
          obtain ⟨hg7, hf⟩ := gd_el hf
          refine lv_istore_n (lv' := [(3, .int (i3 (z.1 + ((fW_sacksIn M0 (k) z.2))))), (0, .ref (gA G (5 + k))), (1, .int (i3 (x1))), (2, .int (i3 (x2))), (4, .int (i3 (z.2)))]) hx hb dX3_sumByBays_32 rfl hl (by decide) rfl (fun ls hl => ?_)
          exact J3 (z.1 + ((fW_sacksIn M0 (k) z.2))) (z.2) hf hg7 hz4 _ _ _ hW hS (lv_sub hl [1, 2, 3, 0, 4] rfl)
  refine k_const hx hb dX3_sumByBays_0 ?_
  refine lv_istore_n (lv' := [(3, .int (i3 (0))), (0, .ref (gA G (5 + k))), (1, .int (i3 (x1))), (2, .int (i3 (x2)))]) hx hb dX3_sumByBays_1 rfl hl (by decide) rfl (fun ls hl => ?_)
  refine k_const hx hb dX3_sumByBays_2 ?_
  refine lv_istore (lv' := [(4, .int (i3 (0))), (3, .int (i3 (0))), (0, .ref (gA G (5 + k))), (1, .int (i3 (x1))), (2, .int (i3 (x2)))]) hx hb dX3_sumByBays_3 hl (by decide) rfl (fun ls hl => ?_)
  exact L8 (x1) hx1 (x2) hx2 (0, 0) r hf rfl (show inR (0) by decide) (show inR (0) by decide) _ _ _ hW hS (lv_sub hl [2, 3, 4, 1, 0] rfl)
set_option maxHeartbeats 4000000 in
set_option maxRecDepth 100000 in
theorem mW_allSacks (l : Launch) (G : gG) (M0 : MemG) (k : Nat) (hk : k < 11) (r : Int) (hf : fW_allSacks M0 k = some r) : Met l yX3_allSacks (wb yX3_allSacks cX3_allSacks 1 (some .int)) ({ frames := 3, cells := 0, slots := 0, locals := 66 } : Room) (PcG G M0 [.ref (gA G (5 + k))]) (QcI G M0 r) 0 0 (PA G) := by
  refine Met.ofW (cc := cX3_allSacks) (maxL := 1) (ret := (some .int)) (by decide) rfl ?_
  intro p e s m args below meth c s₁ B hml hv0
  obtain ⟨hav, hW⟩ := hv0
  have hx := B.exec
  have hb := B.bytes
  have hr := B.returns
  have hts := atoms_spec (ws := (wb yX3_allSacks cX3_allSacks 1 (some .int))) B.pre
  have hown : s.vm.findClass RX3 = some m.cls := findClass_of_methodNamed B.named
  have hlocks := B.notSynchronized
  have hW : Wd G M0 s s.heap := hW
  have hS : va_S (PA G) s.heap s.heap [] := va_S.rf
  have hl := lv_entry [.ref (gA G (5 + k))] (n := 1) (Nat.le_of_ble_eq_true rfl)
  have hent := lg_entry_eq m [.ref (gA G (5 + k))] 1
  rw [← hav] at hent
  rw [hent]
  clear hent
  generalize (lg_sl [.ref (gA G (5 + k))] ++ List.replicate (1 - (lg_sl [.ref (gA G (5 + k))]).length) Slot.unset).toArray = ls at hl ⊢
  have hl : lv_has ls 1 [(0, .ref (gA G (5 + k)))] := hl
  unfold fW_allSacks at hf
  show W p l e ({ frames := 3, cells := 0, slots := 0, locals := 66 } : Room) s m args below meth c s.heap [] 0 0 (MQ below (QcI G M0 r) args s 0 0 (PA G)) (F0 m 0 ls [])
  refine lv_aload_n hx hb dX3_allSacks_0 rfl (lv_at hl 0 rfl) ?_
  refine k_const hx hb dX3_allSacks_1 ?_
  refine k_bipush hx hb dX3_allSacks_2 (by decide +kernel) ?_
  obtain ⟨q1, hq1, hf⟩ := bind_el hf
  refine k_cVi (As := [.int (i3 (0)), .int (i3 (31))]) (rest := []) ⟨hx, hb, hml, hown, hts⟩ (mW_sumByBays l G M0 (k) hk 0 (show inR (0) by decide) 31 (show inR (31) by decide) q1 hq1) (cwV 2 hts (gbV (inB_8 _ (List.mem_of_getElem? (i := 15) rfl)) (inB_8 _ (List.mem_of_getElem? (i := 16) rfl)) (inB_8 _ (List.mem_of_getElem? (i := 17) rfl)) (inB_1 _ (List.mem_of_getElem? (i := 12) rfl)) (inB_8 _ (List.mem_of_getElem? (i := 18) rfl))) rfl rfl rfl (by decide +kernel) ⟨Nat.le_of_ble_eq_true rfl, Nat.le_of_ble_eq_true rfl⟩) (rv_wall hk hW) hW hS rfl hl.1 rfl (lv_room (Nat.le_of_ble_eq_true rfl)) dX3_allSacks_4 ⟨Nat.zero_le _, Nat.zero_le _⟩ (fun hv2 H locs hW hS => ?_)
  obtain rfl := some_el hf
  exact k_ret hx hb hr hlocks hW hS rfl hv2 dX3_allSacks_7
set_option maxHeartbeats 4000000 in
set_option maxRecDepth 100000 in
theorem mW_crackedRungs (l : Launch) (G : gG) (M0 : MemG) (k : Nat) (hk : k < 11) (r : Int) (hf : fW_crackedRungs M0 k = some r) : Met l yX3_crackedRungs (wb yX3_crackedRungs cX3_crackedRungs 3 (some .int)) ({ frames := 2, cells := 0, slots := 0, locals := 42 } : Room) (PcG G M0 [.ref (gA G (5 + k))]) (QcI G M0 r) 0 0 (PA G) := by
  refine Met.ofW (cc := cX3_crackedRungs) (maxL := 3) (ret := (some .int)) (by decide) rfl ?_
  intro p e s m args below meth c s₁ B hml hv0
  obtain ⟨hav, hW⟩ := hv0
  have hx := B.exec
  have hb := B.bytes
  have hr := B.returns
  have hts := atoms_spec (ws := (wb yX3_crackedRungs cX3_crackedRungs 3 (some .int))) B.pre
  have hown : s.vm.findClass RX3 = some m.cls := findClass_of_methodNamed B.named
  have hlocks := B.notSynchronized
  have hW : Wd G M0 s s.heap := hW
  have hS : va_S (PA G) s.heap s.heap [] := va_S.rf
  have hl := lv_entry [.ref (gA G (5 + k))] (n := 3) (Nat.le_of_ble_eq_true rfl)
  have hent := lg_entry_eq m [.ref (gA G (5 + k))] 3
  rw [← hav] at hent
  rw [hent]
  clear hent
  generalize (lg_sl [.ref (gA G (5 + k))] ++ List.replicate (3 - (lg_sl [.ref (gA G (5 + k))]).length) Slot.unset).toArray = ls at hl ⊢
  have hl : lv_has ls 3 [(0, .ref (gA G (5 + k)))] := hl
  unfold fW_crackedRungs at hf
  show W p l e ({ frames := 2, cells := 0, slots := 0, locals := 42 } : Room) s m args below meth c s.heap [] 0 0 (MQ below (QcI G M0 r) args s 0 0 (PA G)) (F0 m 0 ls [])
  have L7 : ∀ (z : (Int × Int)) (q : (Int)), loopN (fW_crackedRungs_l4 M0 k) 200 z = some q → (q = r) → (inR (z.1) → inR (z.2) → ∀ (H : Heap) (locs : List Loc) (ls : Array Slot), Wd G (M0) s H → va_S (PA G) s.heap H locs → lv_has ls 3 [(0, .ref (gA G (5 + k))), (1, .int (i3 (z.1))), (2, .int (i3 (z.2)))] → W p l e ({ frames := 2, cells := 0, slots := 0, locals := 42 } : Room) s m args below meth c H locs 0 0 (MQ below (QcI G M0 r) args s 0 0 (PA G)) (F0 m 4 ls [])) := by
    intro z q hq hex
    refine loop_rule (fW_crackedRungs_l4 M0 k) (fun z => inR (z.1) → inR (z.2) → ∀ (H : Heap) (locs : List Loc) (ls : Array Slot), Wd G (M0) s H → va_S (PA G) s.heap H locs → lv_has ls 3 [(0, .ref (gA G (5 + k))), (1, .int (i3 (z.1))), (2, .int (i3 (z.2)))] → W p l e ({ frames := 2, cells := 0, slots := 0, locals := 42 } : Room) s m args below meth c H locs 0 0 (MQ below (QcI G M0 r) args s 0 0 (PA G)) (F0 m 4 ls [])) (fun q => (q = r)) ?_ 200 z q hq hex
    clear hq hex q z
    intro z x hf hK hz1 hz2 H locs ls hW hS hl
    have J4 : ∀ (x1 : Int) (x2 : Int), fW_crackedRungs_j21 M0 k x1 x2 = some x → inR x1 → inR x2 →  ∀ (H : Heap) (locs : List Loc) (ls : Array Slot), Wd G M0 s H → va_S (PA G) s.heap H locs → lv_has ls 3 [(0, .ref (gA G (5 + k))), (1, .int (i3 (x1))), (2, .int (i3 (x2)))] → W p l e ({ frames := 2, cells := 0, slots := 0, locals := 42 } : Room) s m args below meth c H locs 0 0 (MQ below (QcI G M0 r) args s 0 0 (PA G)) (F0 m 21 ls []) := by
      intro x1 x2 hf hx1 hx2 H locs ls hW hS hl
      unfold fW_crackedRungs_j21 at hf
      obtain ⟨hg5, hf⟩ := gd_el hf
      refine k_iinc (lv' := [(2, .int (i3 (x2 + 1))), (0, .ref (gA G (5 + k))), (1, .int (i3 (x1)))]) hx hb dX3_crackedRungs_21 hl (k := 2) rfl (by decide) rfl (fun ls hl => ?_)
      refine lv_goto (tgt := 4) hx hb dX3_crackedRungs_24 (by decide) ?_
      obtain rfl := some_el hf
      exact hK hx1 hg5 _ _ _ hW hS (lv_sub hl [1, 2, 0] rfl)
    unfold fW_crackedRungs_l4 at hf
    refine lv_iload_n hx hb dX3_crackedRungs_4 rfl (lv_at hl 2 rfl) ?_
    refine k_bipush hx hb dX3_crackedRungs_5 (by decide +kernel) ?_
    refine k_icmp_gt (tgt := 27) hx hb hz2 (show inR (32) by decide) dX3_crackedRungs_7 (by decide) (fun hc1 => ?_) (fun hc1 => ?_)
    · rw [if_pos hc1] at hf
      refine lv_iload_n hx hb dX3_crackedRungs_27 rfl (lv_at hl 1 rfl) ?_
      obtain rfl := some_el hf
      obtain rfl : z.1 = r := hK
      exact k_ret hx hb hr hlocks hW hS rfl hz1 dX3_crackedRungs_28
    · rw [if_neg hc1] at hf
      refine lv_aload_n hx hb dX3_crackedRungs_10 rfl (lv_at hl 0 rfl) ?_
      refine lv_iload_n hx hb dX3_crackedRungs_11 rfl (lv_at hl 2 rfl) ?_
      refine k_cVz (As := [.int (i3 (z.2))]) (rest := []) ⟨hx, hb, hml, hown, hts⟩ (mW_isCracked l G M0 (k) hk z.2 hz2 _ rfl) (cwV 1 hts (gbV (inB_6 _ (List.mem_of_getElem? (i := 19) rfl)) (inB_6 _ (List.mem_of_getElem? (i := 20) rfl)) (inB_6 _ (List.mem_of_getElem? (i := 21) rfl)) (inB_1 _ (List.mem_of_getElem? (i := 12) rfl)) (inB_6 _ (List.mem_of_getElem? (i := 22) rfl))) rfl rfl rfl (by decide +kernel) ⟨Nat.le_of_ble_eq_true rfl, Nat.le_of_ble_eq_true rfl⟩) (rv_wall hk hW) hW hS rfl hl.1 rfl (lv_room (Nat.le_of_ble_eq_true rfl)) dX3_crackedRungs_12 ⟨Nat.zero_le _, Nat.zero_le _⟩ (fun hv2 H locs hW hS => ?_)
      refine k_if_eq (tgt := 21) hx hb (inR_z hv2) dX3_crackedRungs_15 (by decide) (fun hc3 => ?_) (fun hc3 => ?_)
      · rw [if_pos hc3] at hf
        exact J4 (z.1) (z.2) hf hz1 hz2 _ _ _ hW hS (lv_sub hl [0, 1, 2] rfl)
      · rw [if_neg hc3] at hf
        obtain ⟨hg6, hf⟩ := gd_el hf
        refine k_iinc (lv' := [(1, .int (i3 (z.1 + 1))), (0, .ref (gA G (5 + k))), (2, .int (i3 (z.2)))]) hx hb dX3_crackedRungs_18 hl (k := 1) rfl (by decide) rfl (fun ls hl => ?_)
        exact J4 (z.1 + 1) (z.2) hf hg6 hz2 _ _ _ hW hS (lv_sub hl [1, 0, 2] rfl)
  refine k_const hx hb dX3_crackedRungs_0 ?_
  refine lv_istore_n (lv' := [(1, .int (i3 (0))), (0, .ref (gA G (5 + k)))]) hx hb dX3_crackedRungs_1 rfl hl (by decide) rfl (fun ls hl => ?_)
  refine k_const hx hb dX3_crackedRungs_2 ?_
  refine lv_istore_n (lv' := [(2, .int (i3 (1))), (1, .int (i3 (0))), (0, .ref (gA G (5 + k)))]) hx hb dX3_crackedRungs_3 rfl hl (by decide) rfl (fun ls hl => ?_)
  exact L7  (0, 1) r hf rfl (show inR (0) by decide) (show inR (1) by decide) _ _ _ hW hS (lv_sub hl [2, 1, 0] rfl)
set_option maxHeartbeats 4000000 in
set_option maxRecDepth 100000 in
theorem mW_filledBays (l : Launch) (G : gG) (M0 : MemG) (k : Nat) (hk : k < 11) (r : Int) (hf : fW_filledBays M0 k = some r) : Met l yX3_filledBays (wb yX3_filledBays cX3_filledBays 3 (some .int)) ({ frames := 2, cells := 0, slots := 0, locals := 42 } : Room) (PcG G M0 [.ref (gA G (5 + k))]) (QcI G M0 r) 0 0 (PA G) := by
  refine Met.ofW (cc := cX3_filledBays) (maxL := 3) (ret := (some .int)) (by decide) rfl ?_
  intro p e s m args below meth c s₁ B hml hv0
  obtain ⟨hav, hW⟩ := hv0
  have hx := B.exec
  have hb := B.bytes
  have hr := B.returns
  have hts := atoms_spec (ws := (wb yX3_filledBays cX3_filledBays 3 (some .int))) B.pre
  have hown : s.vm.findClass RX3 = some m.cls := findClass_of_methodNamed B.named
  have hlocks := B.notSynchronized
  have hW : Wd G M0 s s.heap := hW
  have hS : va_S (PA G) s.heap s.heap [] := va_S.rf
  have hl := lv_entry [.ref (gA G (5 + k))] (n := 3) (Nat.le_of_ble_eq_true rfl)
  have hent := lg_entry_eq m [.ref (gA G (5 + k))] 3
  rw [← hav] at hent
  rw [hent]
  clear hent
  generalize (lg_sl [.ref (gA G (5 + k))] ++ List.replicate (3 - (lg_sl [.ref (gA G (5 + k))]).length) Slot.unset).toArray = ls at hl ⊢
  have hl : lv_has ls 3 [(0, .ref (gA G (5 + k)))] := hl
  unfold fW_filledBays at hf
  show W p l e ({ frames := 2, cells := 0, slots := 0, locals := 42 } : Room) s m args below meth c s.heap [] 0 0 (MQ below (QcI G M0 r) args s 0 0 (PA G)) (F0 m 0 ls [])
  have L7 : ∀ (z : (Int × Int)) (q : (Int)), loopN (fW_filledBays_l4 M0 k) 200 z = some q → (q = r) → (inR (z.1) → inR (z.2) → ∀ (H : Heap) (locs : List Loc) (ls : Array Slot), Wd G (M0) s H → va_S (PA G) s.heap H locs → lv_has ls 3 [(0, .ref (gA G (5 + k))), (1, .int (i3 (z.1))), (2, .int (i3 (z.2)))] → W p l e ({ frames := 2, cells := 0, slots := 0, locals := 42 } : Room) s m args below meth c H locs 0 0 (MQ below (QcI G M0 r) args s 0 0 (PA G)) (F0 m 4 ls [])) := by
    intro z q hq hex
    refine loop_rule (fW_filledBays_l4 M0 k) (fun z => inR (z.1) → inR (z.2) → ∀ (H : Heap) (locs : List Loc) (ls : Array Slot), Wd G (M0) s H → va_S (PA G) s.heap H locs → lv_has ls 3 [(0, .ref (gA G (5 + k))), (1, .int (i3 (z.1))), (2, .int (i3 (z.2)))] → W p l e ({ frames := 2, cells := 0, slots := 0, locals := 42 } : Room) s m args below meth c H locs 0 0 (MQ below (QcI G M0 r) args s 0 0 (PA G)) (F0 m 4 ls [])) (fun q => (q = r)) ?_ 200 z q hq hex
    clear hq hex q z
    intro z x hf hK hz1 hz2 H locs ls hW hS hl
    have J4 : ∀ (x1 : Int) (x2 : Int), fW_filledBays_j21 M0 k x1 x2 = some x → inR x1 → inR x2 →  ∀ (H : Heap) (locs : List Loc) (ls : Array Slot), Wd G M0 s H → va_S (PA G) s.heap H locs → lv_has ls 3 [(0, .ref (gA G (5 + k))), (1, .int (i3 (x1))), (2, .int (i3 (x2)))] → W p l e ({ frames := 2, cells := 0, slots := 0, locals := 42 } : Room) s m args below meth c H locs 0 0 (MQ below (QcI G M0 r) args s 0 0 (PA G)) (F0 m 21 ls []) := by
      intro x1 x2 hf hx1 hx2 H locs ls hW hS hl
      unfold fW_filledBays_j21 at hf
      obtain ⟨hg5, hf⟩ := gd_el hf
      refine k_iinc (lv' := [(2, .int (i3 (x2 + 1))), (0, .ref (gA G (5 + k))), (1, .int (i3 (x1)))]) hx hb dX3_filledBays_21 hl (k := 2) rfl (by decide) rfl (fun ls hl => ?_)
      refine lv_goto (tgt := 4) hx hb dX3_filledBays_24 (by decide) ?_
      obtain rfl := some_el hf
      exact hK hx1 hg5 _ _ _ hW hS (lv_sub hl [1, 2, 0] rfl)
    unfold fW_filledBays_l4 at hf
    refine lv_iload_n hx hb dX3_filledBays_4 rfl (lv_at hl 2 rfl) ?_
    refine k_bipush hx hb dX3_filledBays_5 (by decide +kernel) ?_
    refine k_icmp_ge (tgt := 27) hx hb hz2 (show inR (32) by decide) dX3_filledBays_7 (by decide) (fun hc1 => ?_) (fun hc1 => ?_)
    · rw [if_neg hc1] at hf
      refine lv_iload_n hx hb dX3_filledBays_27 rfl (lv_at hl 1 rfl) ?_
      obtain rfl := some_el hf
      obtain rfl : z.1 = r := hK
      exact k_ret hx hb hr hlocks hW hS rfl hz1 dX3_filledBays_28
    · rw [if_pos hc1] at hf
      refine lv_aload_n hx hb dX3_filledBays_10 rfl (lv_at hl 0 rfl) ?_
      refine lv_iload_n hx hb dX3_filledBays_11 rfl (lv_at hl 2 rfl) ?_
      refine k_cVz (As := [.int (i3 (z.2))]) (rest := []) ⟨hx, hb, hml, hown, hts⟩ (mW_isEmpty l G M0 (k) hk z.2 hz2 _ rfl) (cwV 1 hts (gbV (inB_8 _ (List.mem_of_getElem? (i := 10) rfl)) (inB_4 _ (List.mem_of_getElem? (i := 22) rfl)) (inB_4 _ (List.mem_of_getElem? (i := 23) rfl)) (inB_1 _ (List.mem_of_getElem? (i := 12) rfl)) (inB_5 _ (List.mem_of_getElem? (i := 0) rfl))) rfl rfl rfl (by decide +kernel) ⟨Nat.le_of_ble_eq_true rfl, Nat.le_of_ble_eq_true rfl⟩) (rv_wall hk hW) hW hS rfl hl.1 rfl (lv_room (Nat.le_of_ble_eq_true rfl)) dX3_filledBays_12 ⟨Nat.zero_le _, Nat.zero_le _⟩ (fun hv2 H locs hW hS => ?_)
      refine k_if_ne (tgt := 21) hx hb (inR_z hv2) dX3_filledBays_15 (by decide) (fun hc3 => ?_) (fun hc3 => ?_)
      · rw [if_neg hc3] at hf
        exact J4 (z.1) (z.2) hf hz1 hz2 _ _ _ hW hS (lv_sub hl [0, 1, 2] rfl)
      · rw [if_pos hc3] at hf
        obtain ⟨hg6, hf⟩ := gd_el hf
        refine k_iinc (lv' := [(1, .int (i3 (z.1 + 1))), (0, .ref (gA G (5 + k))), (2, .int (i3 (z.2)))]) hx hb dX3_filledBays_18 hl (k := 1) rfl (by decide) rfl (fun ls hl => ?_)
        exact J4 (z.1 + 1) (z.2) hf hg6 hz2 _ _ _ hW hS (lv_sub hl [1, 0, 2] rfl)
  refine k_const hx hb dX3_filledBays_0 ?_
  refine lv_istore_n (lv' := [(1, .int (i3 (0))), (0, .ref (gA G (5 + k)))]) hx hb dX3_filledBays_1 rfl hl (by decide) rfl (fun ls hl => ?_)
  refine k_const hx hb dX3_filledBays_2 ?_
  refine lv_istore_n (lv' := [(2, .int (i3 (0))), (1, .int (i3 (0))), (0, .ref (gA G (5 + k)))]) hx hb dX3_filledBays_3 rfl hl (by decide) rfl (fun ls hl => ?_)
  exact L7  (0, 0) r hf rfl (show inR (0) by decide) (show inR (0) by decide) _ _ _ hW hS (lv_sub hl [2, 1, 0] rfl)
set_option maxHeartbeats 4000000 in
set_option maxRecDepth 100000 in
theorem mW_crackedOver (l : Launch) (G : gG) (M0 : MemG) (k : Nat) (hk : k < 11) (x1 : Int) (hx1 : inR x1) (r : Int) (hf : fW_crackedOver M0 k x1 = some r) : Met l yX3_crackedOver (wb yX3_crackedOver cX3_crackedOver 5 (some .int)) ({ frames := 2, cells := 0, slots := 0, locals := 42 } : Room) (PcG G M0 [.ref (gA G (5 + k)), .int (i3 (x1))]) (QcI G M0 r) 0 0 (PA G) := by
  refine Met.ofW (cc := cX3_crackedOver) (maxL := 5) (ret := (some .int)) (by decide) rfl ?_
  intro p e s m args below meth c s₁ B hml hv0
  obtain ⟨hav, hW⟩ := hv0
  have hx := B.exec
  have hb := B.bytes
  have hr := B.returns
  have hts := atoms_spec (ws := (wb yX3_crackedOver cX3_crackedOver 5 (some .int))) B.pre
  have hown : s.vm.findClass RX3 = some m.cls := findClass_of_methodNamed B.named
  have hlocks := B.notSynchronized
  have hW : Wd G M0 s s.heap := hW
  have hS : va_S (PA G) s.heap s.heap [] := va_S.rf
  have hl := lv_entry [.ref (gA G (5 + k)), .int (i3 (x1))] (n := 5) (Nat.le_of_ble_eq_true rfl)
  have hent := lg_entry_eq m [.ref (gA G (5 + k)), .int (i3 (x1))] 5
  rw [← hav] at hent
  rw [hent]
  clear hent
  generalize (lg_sl [.ref (gA G (5 + k)), .int (i3 (x1))] ++ List.replicate (5 - (lg_sl [.ref (gA G (5 + k)), .int (i3 (x1))]).length) Slot.unset).toArray = ls at hl ⊢
  have hl : lv_has ls 5 [(0, .ref (gA G (5 + k))), (1, .int (i3 (x1)))] := hl
  unfold fW_crackedOver at hf
  show W p l e ({ frames := 2, cells := 0, slots := 0, locals := 42 } : Room) s m args below meth c s.heap [] 0 0 (MQ below (QcI G M0 r) args s 0 0 (PA G)) (F0 m 0 ls [])
  have L12 : ∀ (z : (Int × Int × Int)) (q : (Int)), loopN (fW_crackedOver_l9 M0 k) 200 z = some q → (q = r) → (inR (z.1) → inR (z.2.1) → inR (z.2.2) → ∀ (H : Heap) (locs : List Loc) (ls : Array Slot), Wd G (M0) s H → va_S (PA G) s.heap H locs → lv_has ls 5 [(0, .ref (gA G (5 + k))), (2, .int (i3 (z.1))), (3, .int (i3 (z.2.1))), (4, .int (i3 (z.2.2)))] → W p l e ({ frames := 2, cells := 0, slots := 0, locals := 42 } : Room) s m args below meth c H locs 0 0 (MQ below (QcI G M0 r) args s 0 0 (PA G)) (F0 m 9 ls [])) := by
    intro z q hq hex
    refine loop_rule (fW_crackedOver_l9 M0 k) (fun z => inR (z.1) → inR (z.2.1) → inR (z.2.2) → ∀ (H : Heap) (locs : List Loc) (ls : Array Slot), Wd G (M0) s H → va_S (PA G) s.heap H locs → lv_has ls 5 [(0, .ref (gA G (5 + k))), (2, .int (i3 (z.1))), (3, .int (i3 (z.2.1))), (4, .int (i3 (z.2.2)))] → W p l e ({ frames := 2, cells := 0, slots := 0, locals := 42 } : Room) s m args below meth c H locs 0 0 (MQ below (QcI G M0 r) args s 0 0 (PA G)) (F0 m 9 ls [])) (fun q => (q = r)) ?_ 200 z q hq hex
    clear hq hex q z
    intro z x hf hK hz2 hz3 hz4 H locs ls hW hS hl
    have J6 : ∀ (x2 : Int) (x3 : Int) (x4 : Int), fW_crackedOver_j37 M0 k x2 x3 x4 = some x → inR x2 → inR x3 → inR x4 →  ∀ (H : Heap) (locs : List Loc) (ls : Array Slot), Wd G M0 s H → va_S (PA G) s.heap H locs → lv_has ls 5 [(0, .ref (gA G (5 + k))), (2, .int (i3 (x2))), (3, .int (i3 (x3))), (4, .int (i3 (x4)))] → W p l e ({ frames := 2, cells := 0, slots := 0, locals := 42 } : Room) s m args below meth c H locs 0 0 (MQ below (QcI G M0 r) args s 0 0 (PA G)) (F0 m 37 ls []) := by
      intro x2 x3 x4 hf hx2 hx3 hx4 H locs ls hW hS hl
      unfold fW_crackedOver_j37 at hf
      refine lv_iload_n hx hb dX3_crackedOver_37 rfl (lv_at hl 2 rfl) ?_
      refine lv_iload_n hx hb dX3_crackedOver_38 rfl (lv_at hl 2 rfl) ?_
      refine k_cNi (As := [.int (i3 (x3))]) (rest := [.int (i3 (x3))]) ⟨hx, hb, hml, hown, hts⟩ (mG_sizeOf l G M0 x3 hx3 _ rfl) ⟨va_cnB 1 hts (gbC (inB_6 _ (List.mem_of_getElem? (i := 14) rfl))) rfl rfl rfl (hW.N _ (List.mem_of_getElem? (i := 3) rfl)) (hts _ (List.mem_cons_of_mem _ (inB_1 _ (List.mem_of_getElem? (i := 2) rfl)))) (by decide +kernel) ⟨Nat.le_of_ble_eq_true rfl, Nat.le_of_ble_eq_true rfl⟩, (hts _ (List.mem_cons_of_mem _ (inB_6 _ (List.mem_of_getElem? (i := 13) rfl)))), trivial⟩ hW hS rfl hl.1 rfl (lv_room (Nat.le_of_ble_eq_true rfl)) dX3_crackedOver_39 ⟨Nat.zero_le _, Nat.zero_le _⟩ (fun hv7 H locs hW hS => ?_)
      refine k_add hx hb dX3_crackedOver_42 ?_
      obtain ⟨hg8, hf⟩ := gd_el hf
      refine lv_istore_n (lv' := [(3, .int (i3 (x3 + ((fG_sizeOf x3))))), (0, .ref (gA G (5 + k))), (2, .int (i3 (x2))), (4, .int (i3 (x4)))]) hx hb dX3_crackedOver_43 rfl hl (by decide) rfl (fun ls hl => ?_)
      obtain ⟨hg9, hf⟩ := gd_el hf
      refine k_iinc (lv' := [(4, .int (i3 (x4 + 1))), (3, .int (i3 (x3 + ((fG_sizeOf x3))))), (0, .ref (gA G (5 + k))), (2, .int (i3 (x2)))]) hx hb dX3_crackedOver_44 hl (k := 3) rfl (by decide) rfl (fun ls hl => ?_)
      refine lv_goto (tgt := 9) hx hb dX3_crackedOver_47 (by decide) ?_
      obtain rfl := some_el hf
      exact hK hx2 hg8 hg9 _ _ _ hW hS (lv_sub hl [2, 3, 1, 0] rfl)
    unfold fW_crackedOver_l9 at hf
    refine lv_iload hx hb dX3_crackedOver_9 (lv_at hl 3 rfl) ?_
    refine k_bipush hx hb dX3_crackedOver_11 (by decide +kernel) ?_
    refine k_icmp_ge (tgt := 50) hx hb hz4 (show inR (32) by decide) dX3_crackedOver_13 (by decide) (fun hc2 => ?_) (fun hc2 => ?_)
    · rw [if_neg hc2] at hf
      refine lv_iload_n hx hb dX3_crackedOver_50 rfl (lv_at hl 1 rfl) ?_
      obtain rfl := some_el hf
      obtain rfl : z.1 = r := hK
      exact k_ret hx hb hr hlocks hW hS rfl hz2 dX3_crackedOver_51
    · rw [if_pos hc2] at hf
      refine lv_iload_n hx hb dX3_crackedOver_16 rfl (lv_at hl 2 rfl) ?_
      refine k_bipush hx hb dX3_crackedOver_17 (by decide +kernel) ?_
      refine k_icmp_gt (tgt := 50) hx hb hz3 (show inR (32) by decide) dX3_crackedOver_19 (by decide) (fun hc3 => ?_) (fun hc3 => ?_)
      · rw [if_pos hc3] at hf
        refine lv_iload_n hx hb dX3_crackedOver_50 rfl (lv_at hl 1 rfl) ?_
        obtain rfl := some_el hf
        obtain rfl : z.1 = r := hK
        exact k_ret hx hb hr hlocks hW hS rfl hz2 dX3_crackedOver_51
      · rw [if_neg hc3] at hf
        refine lv_aload_n hx hb dX3_crackedOver_22 rfl (lv_at hl 0 rfl) ?_
        refine lv_iload_n hx hb dX3_crackedOver_23 rfl (lv_at hl 2 rfl) ?_
        refine k_cVz (As := [.int (i3 (z.2.1))]) (rest := []) ⟨hx, hb, hml, hown, hts⟩ (mW_isCracked l G M0 (k) hk z.2.1 hz3 _ rfl) (cwV 1 hts (gbV (inB_6 _ (List.mem_of_getElem? (i := 19) rfl)) (inB_6 _ (List.mem_of_getElem? (i := 20) rfl)) (inB_6 _ (List.mem_of_getElem? (i := 21) rfl)) (inB_1 _ (List.mem_of_getElem? (i := 12) rfl)) (inB_6 _ (List.mem_of_getElem? (i := 22) rfl))) rfl rfl rfl (by decide +kernel) ⟨Nat.le_of_ble_eq_true rfl, Nat.le_of_ble_eq_true rfl⟩) (rv_wall hk hW) hW hS rfl hl.1 rfl (lv_room (Nat.le_of_ble_eq_true rfl)) dX3_crackedOver_24 ⟨Nat.zero_le _, Nat.zero_le _⟩ (fun hv4 H locs hW hS => ?_)
        refine k_if_eq (tgt := 37) hx hb (inR_z hv4) dX3_crackedOver_27 (by decide) (fun hc5 => ?_) (fun hc5 => ?_)
        · rw [if_pos hc5] at hf
          exact J6 (z.1) (z.2.1) (z.2.2) hf hz2 hz3 hz4 _ _ _ hW hS (lv_sub hl [0, 1, 2, 3] rfl)
        · rw [if_neg hc5] at hf
          refine lv_iload_n hx hb dX3_crackedOver_30 rfl (lv_at hl 1 rfl) ?_
          refine lv_iload_n hx hb dX3_crackedOver_31 rfl (lv_at hl 2 rfl) ?_
          refine k_cNi (As := [.int (i3 (z.2.1))]) (rest := [.int (i3 (z.1))]) ⟨hx, hb, hml, hown, hts⟩ (mG_sizeOf l G M0 z.2.1 hz3 _ rfl) ⟨va_cnB 1 hts (gbC (inB_6 _ (List.mem_of_getElem? (i := 14) rfl))) rfl rfl rfl (hW.N _ (List.mem_of_getElem? (i := 3) rfl)) (hts _ (List.mem_cons_of_mem _ (inB_1 _ (List.mem_of_getElem? (i := 2) rfl)))) (by decide +kernel) ⟨Nat.le_of_ble_eq_true rfl, Nat.le_of_ble_eq_true rfl⟩, (hts _ (List.mem_cons_of_mem _ (inB_6 _ (List.mem_of_getElem? (i := 13) rfl)))), trivial⟩ hW hS rfl hl.1 rfl (lv_room (Nat.le_of_ble_eq_true rfl)) dX3_crackedOver_32 ⟨Nat.zero_le _, Nat.zero_le _⟩ (fun hv10 H locs hW hS => ?_)
          refine k_add hx hb dX3_crackedOver_35 ?_
          obtain ⟨hg11, hf⟩ := gd_el hf
          refine lv_istore_n (lv' := [(2, .int (i3 (z.1 + ((fG_sizeOf z.2.1))))), (0, .ref (gA G (5 + k))), (3, .int (i3 (z.2.1))), (4, .int (i3 (z.2.2)))]) hx hb dX3_crackedOver_36 rfl hl (by decide) rfl (fun ls hl => ?_)
          exact J6 (z.1 + ((fG_sizeOf z.2.1))) (z.2.1) (z.2.2) hf hg11 hz3 hz4 _ _ _ hW hS (lv_sub hl [1, 0, 2, 3] rfl)
  refine k_const hx hb dX3_crackedOver_0 ?_
  refine lv_istore_n (lv' := [(2, .int (i3 (0))), (0, .ref (gA G (5 + k))), (1, .int (i3 (x1)))]) hx hb dX3_crackedOver_1 rfl hl (by decide) rfl (fun ls hl => ?_)
  refine lv_iload_n hx hb dX3_crackedOver_2 rfl (lv_at hl 2 rfl) ?_
  refine k_const hx hb dX3_crackedOver_3 ?_
  refine k_add hx hb dX3_crackedOver_4 ?_
  obtain ⟨hg1, hf⟩ := gd_el hf
  refine lv_istore_n (lv' := [(3, .int (i3 (x1 + 1))), (2, .int (i3 (0))), (0, .ref (gA G (5 + k))), (1, .int (i3 (x1)))]) hx hb dX3_crackedOver_5 rfl hl (by decide) rfl (fun ls hl => ?_)
  refine k_const hx hb dX3_crackedOver_6 ?_
  refine lv_istore (lv' := [(4, .int (i3 (0))), (3, .int (i3 (x1 + 1))), (2, .int (i3 (0))), (0, .ref (gA G (5 + k))), (1, .int (i3 (x1)))]) hx hb dX3_crackedOver_7 hl (by decide) rfl (fun ls hl => ?_)
  exact L12  (0, x1 + 1, 0) r hf rfl (show inR (0) by decide) hg1 (show inR (0) by decide) _ _ _ hW hS (lv_sub hl [3, 2, 1, 0] rfl)
set_option maxHeartbeats 4000000 in
set_option maxRecDepth 100000 in
theorem mW_rungsOver (l : Launch) (G : gG) (M0 : MemG) (k : Nat) (hk : k < 11) (x1 : Int) (hx1 : inR x1) (r : Int) (hf : fW_rungsOver k x1 = some r) : Met l yX3_rungsOver (wb yX3_rungsOver cX3_rungsOver 5 (some .int)) ({ frames := 1, cells := 0, slots := 0, locals := 20 } : Room) (PcG G M0 [.ref (gA G (5 + k)), .int (i3 (x1))]) (QcI G M0 r) 0 0 (PA G) := by
  refine Met.ofW (cc := cX3_rungsOver) (maxL := 5) (ret := (some .int)) (by decide) rfl ?_
  intro p e s m args below meth c s₁ B hml hv0
  obtain ⟨hav, hW⟩ := hv0
  have hx := B.exec
  have hb := B.bytes
  have hr := B.returns
  have hts := atoms_spec (ws := (wb yX3_rungsOver cX3_rungsOver 5 (some .int))) B.pre
  have hown : s.vm.findClass RX3 = some m.cls := findClass_of_methodNamed B.named
  have hlocks := B.notSynchronized
  have hW : Wd G M0 s s.heap := hW
  have hS : va_S (PA G) s.heap s.heap [] := va_S.rf
  have hl := lv_entry [.ref (gA G (5 + k)), .int (i3 (x1))] (n := 5) (Nat.le_of_ble_eq_true rfl)
  have hent := lg_entry_eq m [.ref (gA G (5 + k)), .int (i3 (x1))] 5
  rw [← hav] at hent
  rw [hent]
  clear hent
  generalize (lg_sl [.ref (gA G (5 + k)), .int (i3 (x1))] ++ List.replicate (5 - (lg_sl [.ref (gA G (5 + k)), .int (i3 (x1))]).length) Slot.unset).toArray = ls at hl ⊢
  have hl : lv_has ls 5 [(0, .ref (gA G (5 + k))), (1, .int (i3 (x1)))] := hl
  unfold fW_rungsOver at hf
  show W p l e ({ frames := 1, cells := 0, slots := 0, locals := 20 } : Room) s m args below meth c s.heap [] 0 0 (MQ below (QcI G M0 r) args s 0 0 (PA G)) (F0 m 0 ls [])
  have L8 : ∀ (z : (Int × Int × Int)) (q : (Int)), loopN (fW_rungsOver_l9 k) 200 z = some q → (q = r) → (inR (z.1) → inR (z.2.1) → inR (z.2.2) → ∀ (H : Heap) (locs : List Loc) (ls : Array Slot), Wd G (M0) s H → va_S (PA G) s.heap H locs → lv_has ls 5 [(2, .int (i3 (z.1))), (3, .int (i3 (z.2.1))), (4, .int (i3 (z.2.2)))] → W p l e ({ frames := 1, cells := 0, slots := 0, locals := 20 } : Room) s m args below meth c H locs 0 0 (MQ below (QcI G M0 r) args s 0 0 (PA G)) (F0 m 9 ls [])) := by
    intro z q hq hex
    refine loop_rule (fW_rungsOver_l9 k) (fun z => inR (z.1) → inR (z.2.1) → inR (z.2.2) → ∀ (H : Heap) (locs : List Loc) (ls : Array Slot), Wd G (M0) s H → va_S (PA G) s.heap H locs → lv_has ls 5 [(2, .int (i3 (z.1))), (3, .int (i3 (z.2.1))), (4, .int (i3 (z.2.2)))] → W p l e ({ frames := 1, cells := 0, slots := 0, locals := 20 } : Room) s m args below meth c H locs 0 0 (MQ below (QcI G M0 r) args s 0 0 (PA G)) (F0 m 9 ls [])) (fun q => (q = r)) ?_ 200 z q hq hex
    clear hq hex q z
    intro z x hf hK hz2 hz3 hz4 H locs ls hW hS hl
    unfold fW_rungsOver_l9 at hf
    refine lv_iload hx hb dX3_rungsOver_9 (lv_at hl 2 rfl) ?_
    refine k_bipush hx hb dX3_rungsOver_11 (by decide +kernel) ?_
    refine k_icmp_ge (tgt := 38) hx hb hz4 (show inR (32) by decide) dX3_rungsOver_13 (by decide) (fun hc2 => ?_) (fun hc2 => ?_)
    · rw [if_neg hc2] at hf
      refine lv_iload_n hx hb dX3_rungsOver_38 rfl (lv_at hl 0 rfl) ?_
      obtain rfl := some_el hf
      obtain rfl : z.1 = r := hK
      exact k_ret hx hb hr hlocks hW hS rfl hz2 dX3_rungsOver_39
    · rw [if_pos hc2] at hf
      refine lv_iload_n hx hb dX3_rungsOver_16 rfl (lv_at hl 1 rfl) ?_
      refine k_bipush hx hb dX3_rungsOver_17 (by decide +kernel) ?_
      refine k_icmp_gt (tgt := 38) hx hb hz3 (show inR (32) by decide) dX3_rungsOver_19 (by decide) (fun hc3 => ?_) (fun hc3 => ?_)
      · rw [if_pos hc3] at hf
        refine lv_iload_n hx hb dX3_rungsOver_38 rfl (lv_at hl 0 rfl) ?_
        obtain rfl := some_el hf
        obtain rfl : z.1 = r := hK
        exact k_ret hx hb hr hlocks hW hS rfl hz2 dX3_rungsOver_39
      · rw [if_neg hc3] at hf
        obtain ⟨hg4, hf⟩ := gd_el hf
        refine k_iinc (lv' := [(2, .int (i3 (z.1 + 1))), (3, .int (i3 (z.2.1))), (4, .int (i3 (z.2.2)))]) hx hb dX3_rungsOver_22 hl (k := 0) rfl (by decide) rfl (fun ls hl => ?_)
        refine lv_iload_n hx hb dX3_rungsOver_25 rfl (lv_at hl 1 rfl) ?_
        refine lv_iload_n hx hb dX3_rungsOver_26 rfl (lv_at hl 1 rfl) ?_
        refine k_cNi (As := [.int (i3 (z.2.1))]) (rest := [.int (i3 (z.2.1))]) ⟨hx, hb, hml, hown, hts⟩ (mG_sizeOf l G M0 z.2.1 hz3 _ rfl) ⟨va_cnB 1 hts (gbC (inB_6 _ (List.mem_of_getElem? (i := 14) rfl))) rfl rfl rfl (hW.N _ (List.mem_of_getElem? (i := 3) rfl)) (hts _ (List.mem_cons_of_mem _ (inB_1 _ (List.mem_of_getElem? (i := 2) rfl)))) (by decide +kernel) ⟨Nat.le_of_ble_eq_true rfl, Nat.le_of_ble_eq_true rfl⟩, (hts _ (List.mem_cons_of_mem _ (inB_6 _ (List.mem_of_getElem? (i := 13) rfl)))), trivial⟩ hW hS rfl hl.1 rfl (lv_room (Nat.le_of_ble_eq_true rfl)) dX3_rungsOver_27 ⟨Nat.zero_le _, Nat.zero_le _⟩ (fun hv5 H locs hW hS => ?_)
        refine k_add hx hb dX3_rungsOver_30 ?_
        obtain ⟨hg6, hf⟩ := gd_el hf
        refine lv_istore_n (lv' := [(3, .int (i3 (z.2.1 + ((fG_sizeOf z.2.1))))), (2, .int (i3 (z.1 + 1))), (4, .int (i3 (z.2.2)))]) hx hb dX3_rungsOver_31 rfl hl (by decide) rfl (fun ls hl => ?_)
        obtain ⟨hg7, hf⟩ := gd_el hf
        refine k_iinc (lv' := [(4, .int (i3 (z.2.2 + 1))), (3, .int (i3 (z.2.1 + ((fG_sizeOf z.2.1))))), (2, .int (i3 (z.1 + 1)))]) hx hb dX3_rungsOver_32 hl (k := 2) rfl (by decide) rfl (fun ls hl => ?_)
        refine lv_goto (tgt := 9) hx hb dX3_rungsOver_35 (by decide) ?_
        obtain rfl := some_el hf
        exact hK hg4 hg6 hg7 _ _ _ hW hS (lv_sub hl [2, 1, 0] rfl)
  refine k_const hx hb dX3_rungsOver_0 ?_
  refine lv_istore_n (lv' := [(2, .int (i3 (0))), (0, .ref (gA G (5 + k))), (1, .int (i3 (x1)))]) hx hb dX3_rungsOver_1 rfl hl (by decide) rfl (fun ls hl => ?_)
  refine lv_iload_n hx hb dX3_rungsOver_2 rfl (lv_at hl 2 rfl) ?_
  refine k_const hx hb dX3_rungsOver_3 ?_
  refine k_add hx hb dX3_rungsOver_4 ?_
  obtain ⟨hg1, hf⟩ := gd_el hf
  refine lv_istore_n (lv' := [(3, .int (i3 (x1 + 1))), (2, .int (i3 (0))), (0, .ref (gA G (5 + k))), (1, .int (i3 (x1)))]) hx hb dX3_rungsOver_5 rfl hl (by decide) rfl (fun ls hl => ?_)
  refine k_const hx hb dX3_rungsOver_6 ?_
  refine lv_istore (lv' := [(4, .int (i3 (0))), (3, .int (i3 (x1 + 1))), (2, .int (i3 (0))), (0, .ref (gA G (5 + k))), (1, .int (i3 (x1)))]) hx hb dX3_rungsOver_7 hl (by decide) rfl (fun ls hl => ?_)
  exact L8  (0, x1 + 1, 0) r hf rfl (show inR (0) by decide) hg1 (show inR (0) by decide) _ _ _ hW hS (lv_sub hl [2, 1, 0] rfl)
set_option maxHeartbeats 4000000 in
set_option maxRecDepth 100000 in
theorem mW_sacksAsOldAs (l : Launch) (G : gG) (M0 : MemG) (k : Nat) (hk : k < 11) (x1 : Int) (hx1 : inR x1) (r : Int) (hf : fW_sacksAsOldAs M0 k x1 = some r) : Met l yX3_sacksAsOldAs (wb yX3_sacksAsOldAs cX3_sacksAsOldAs 4 (some .int)) ({ frames := 2, cells := 0, slots := 0, locals := 42 } : Room) (PcG G M0 [.ref (gA G (5 + k)), .int (i3 (x1))]) (QcI G M0 r) 0 0 (PA G) := by
  refine Met.ofW (cc := cX3_sacksAsOldAs) (maxL := 4) (ret := (some .int)) (by decide) rfl ?_
  intro p e s m args below meth c s₁ B hml hv0
  obtain ⟨hav, hW⟩ := hv0
  have hx := B.exec
  have hb := B.bytes
  have hr := B.returns
  have hts := atoms_spec (ws := (wb yX3_sacksAsOldAs cX3_sacksAsOldAs 4 (some .int))) B.pre
  have hown : s.vm.findClass RX3 = some m.cls := findClass_of_methodNamed B.named
  have hlocks := B.notSynchronized
  have hW : Wd G M0 s s.heap := hW
  have hS : va_S (PA G) s.heap s.heap [] := va_S.rf
  have hl := lv_entry [.ref (gA G (5 + k)), .int (i3 (x1))] (n := 4) (Nat.le_of_ble_eq_true rfl)
  have hent := lg_entry_eq m [.ref (gA G (5 + k)), .int (i3 (x1))] 4
  rw [← hav] at hent
  rw [hent]
  clear hent
  generalize (lg_sl [.ref (gA G (5 + k)), .int (i3 (x1))] ++ List.replicate (4 - (lg_sl [.ref (gA G (5 + k)), .int (i3 (x1))]).length) Slot.unset).toArray = ls at hl ⊢
  have hl : lv_has ls 4 [(0, .ref (gA G (5 + k))), (1, .int (i3 (x1)))] := hl
  unfold fW_sacksAsOldAs at hf
  show W p l e ({ frames := 2, cells := 0, slots := 0, locals := 42 } : Room) s m args below meth c s.heap [] 0 0 (MQ below (QcI G M0 r) args s 0 0 (PA G)) (F0 m 0 ls [])
  have L8 : ∀ (x1 : Int) (hx1 : inR x1), ∀ (z : (Int × Int)) (q : (Int)), loopN (fW_sacksAsOldAs_l4 M0 k x1) 200 z = some q → (q = r) → (inR (z.1) → inR (z.2) → ∀ (H : Heap) (locs : List Loc) (ls : Array Slot), Wd G (M0) s H → va_S (PA G) s.heap H locs → lv_has ls 4 [(0, .ref (gA G (5 + k))), (1, .int (i3 (x1))), (2, .int (i3 (z.1))), (3, .int (i3 (z.2)))] → W p l e ({ frames := 2, cells := 0, slots := 0, locals := 42 } : Room) s m args below meth c H locs 0 0 (MQ below (QcI G M0 r) args s 0 0 (PA G)) (F0 m 4 ls [])) := by
    intro x1 hx1 z q hq hex
    refine loop_rule (fW_sacksAsOldAs_l4 M0 k x1) (fun z => inR (z.1) → inR (z.2) → ∀ (H : Heap) (locs : List Loc) (ls : Array Slot), Wd G (M0) s H → va_S (PA G) s.heap H locs → lv_has ls 4 [(0, .ref (gA G (5 + k))), (1, .int (i3 (x1))), (2, .int (i3 (z.1))), (3, .int (i3 (z.2)))] → W p l e ({ frames := 2, cells := 0, slots := 0, locals := 42 } : Room) s m args below meth c H locs 0 0 (MQ below (QcI G M0 r) args s 0 0 (PA G)) (F0 m 4 ls [])) (fun q => (q = r)) ?_ 200 z q hq hex
    clear hq hex q z
    intro z x hf hK hz2 hz3 H locs ls hW hS hl
    have J4 : ∀ (x2 : Int) (x3 : Int), fW_sacksAsOldAs_j27 M0 k x1 x2 x3 = some x → inR x2 → inR x3 →  ∀ (H : Heap) (locs : List Loc) (ls : Array Slot), Wd G M0 s H → va_S (PA G) s.heap H locs → lv_has ls 4 [(0, .ref (gA G (5 + k))), (1, .int (i3 (x1))), (2, .int (i3 (x2))), (3, .int (i3 (x3)))] → W p l e ({ frames := 2, cells := 0, slots := 0, locals := 42 } : Room) s m args below meth c H locs 0 0 (MQ below (QcI G M0 r) args s 0 0 (PA G)) (F0 m 27 ls []) := by
      intro x2 x3 hf hx2 hx3 H locs ls hW hS hl
      unfold fW_sacksAsOldAs_j27 at hf
      obtain ⟨hg5, hf⟩ := gd_el hf
      refine k_iinc (lv' := [(3, .int (i3 (x3 + 1))), (0, .ref (gA G (5 + k))), (1, .int (i3 (x1))), (2, .int (i3 (x2)))]) hx hb dX3_sacksAsOldAs_27 hl (k := 3) rfl (by decide) rfl (fun ls hl => ?_)
      refine lv_goto (tgt := 4) hx hb dX3_sacksAsOldAs_30 (by decide) ?_
      obtain rfl := some_el hf
      exact hK hx2 hg5 _ _ _ hW hS (lv_sub hl [1, 2, 3, 0] rfl)
    unfold fW_sacksAsOldAs_l4 at hf
    refine lv_iload_n hx hb dX3_sacksAsOldAs_4 rfl (lv_at hl 3 rfl) ?_
    refine k_bipush hx hb dX3_sacksAsOldAs_5 (by decide +kernel) ?_
    refine k_icmp_ge (tgt := 33) hx hb hz3 (show inR (32) by decide) dX3_sacksAsOldAs_7 (by decide) (fun hc1 => ?_) (fun hc1 => ?_)
    · rw [if_neg hc1] at hf
      refine lv_iload_n hx hb dX3_sacksAsOldAs_33 rfl (lv_at hl 2 rfl) ?_
      obtain rfl := some_el hf
      obtain rfl : z.1 = r := hK
      exact k_ret hx hb hr hlocks hW hS rfl hz2 dX3_sacksAsOldAs_34
    · rw [if_pos hc1] at hf
      refine lv_aload_n hx hb dX3_sacksAsOldAs_10 rfl (lv_at hl 0 rfl) ?_
      refine lv_iload_n hx hb dX3_sacksAsOldAs_11 rfl (lv_at hl 3 rfl) ?_
      refine k_cVi (As := [.int (i3 (z.2))]) (rest := []) ⟨hx, hb, hml, hown, hts⟩ (mW_ageIn l G M0 (k) hk z.2 hz3 _ rfl) (cwV 1 hts (gbV (inB_13 _ (List.mem_of_getElem? (i := 5) rfl)) (inB_6 _ (List.mem_of_getElem? (i := 2) rfl)) (inB_6 _ (List.mem_of_getElem? (i := 3) rfl)) (inB_1 _ (List.mem_of_getElem? (i := 12) rfl)) (inB_6 _ (List.mem_of_getElem? (i := 4) rfl))) rfl rfl rfl (by decide +kernel) ⟨Nat.le_of_ble_eq_true rfl, Nat.le_of_ble_eq_true rfl⟩) (rv_wall hk hW) hW hS rfl hl.1 rfl (lv_room (Nat.le_of_ble_eq_true rfl)) dX3_sacksAsOldAs_12 ⟨Nat.zero_le _, Nat.zero_le _⟩ (fun hv2 H locs hW hS => ?_)
      refine lv_iload_n hx hb dX3_sacksAsOldAs_15 rfl (lv_at hl 1 rfl) ?_
      refine k_icmp_ne (tgt := 27) hx hb hv2 hx1 dX3_sacksAsOldAs_16 (by decide) (fun hc3 => ?_) (fun hc3 => ?_)
      · rw [if_neg hc3] at hf
        exact J4 (z.1) (z.2) hf hz2 hz3 _ _ _ hW hS (lv_sub hl [0, 1, 2, 3] rfl)
      · rw [if_pos hc3] at hf
        refine lv_iload_n hx hb dX3_sacksAsOldAs_19 rfl (lv_at hl 2 rfl) ?_
        refine lv_aload_n hx hb dX3_sacksAsOldAs_20 rfl (lv_at hl 0 rfl) ?_
        refine lv_iload_n hx hb dX3_sacksAsOldAs_21 rfl (lv_at hl 3 rfl) ?_
        refine k_cVi (As := [.int (i3 (z.2))]) (rest := [.int (i3 (z.1))]) ⟨hx, hb, hml, hown, hts⟩ (mW_sacksIn l G M0 (k) hk z.2 hz3 _ rfl) (cwV 1 hts (gbV (inB_8 _ (List.mem_of_getElem? (i := 19) rfl)) (inB_5 _ (List.mem_of_getElem? (i := 8) rfl)) (inB_5 _ (List.mem_of_getElem? (i := 9) rfl)) (inB_1 _ (List.mem_of_getElem? (i := 12) rfl)) (inB_5 _ (List.mem_of_getElem? (i := 10) rfl))) rfl rfl rfl (by decide +kernel) ⟨Nat.le_of_ble_eq_true rfl, Nat.le_of_ble_eq_true rfl⟩) (rv_wall hk hW) hW hS rfl hl.1 rfl (lv_room (Nat.le_of_ble_eq_true rfl)) dX3_sacksAsOldAs_22 ⟨Nat.zero_le _, Nat.zero_le _⟩ (fun hv6 H locs hW hS => ?_)
        refine k_add hx hb dX3_sacksAsOldAs_25 ?_
        obtain ⟨hg7, hf⟩ := gd_el hf
        refine lv_istore_n (lv' := [(2, .int (i3 (z.1 + ((fW_sacksIn M0 (k) z.2))))), (0, .ref (gA G (5 + k))), (1, .int (i3 (x1))), (3, .int (i3 (z.2)))]) hx hb dX3_sacksAsOldAs_26 rfl hl (by decide) rfl (fun ls hl => ?_)
        exact J4 (z.1 + ((fW_sacksIn M0 (k) z.2))) (z.2) hf hg7 hz3 _ _ _ hW hS (lv_sub hl [1, 2, 0, 3] rfl)
  refine k_const hx hb dX3_sacksAsOldAs_0 ?_
  refine lv_istore_n (lv' := [(2, .int (i3 (0))), (0, .ref (gA G (5 + k))), (1, .int (i3 (x1)))]) hx hb dX3_sacksAsOldAs_1 rfl hl (by decide) rfl (fun ls hl => ?_)
  refine k_const hx hb dX3_sacksAsOldAs_2 ?_
  refine lv_istore_n (lv' := [(3, .int (i3 (0))), (2, .int (i3 (0))), (0, .ref (gA G (5 + k))), (1, .int (i3 (x1)))]) hx hb dX3_sacksAsOldAs_3 rfl hl (by decide) rfl (fun ls hl => ?_)
  exact L8 (x1) hx1 (0, 0) r hf rfl (show inR (0) by decide) (show inR (0) by decide) _ _ _ hW hS (lv_sub hl [2, 3, 1, 0] rfl)
set_option maxHeartbeats 4000000 in
set_option maxRecDepth 100000 in
theorem mW_isAhead (l : Launch) (G : gG) (M0 : MemG) (k : Nat) (hk : k < 11) (x1 : Int) (hx1 : inR x1) (x2 : Int) (hx2 : inR x2) (r : Int) (hf : fW_isAhead M0 k x1 x2 = r) : Met l yX3_isAhead (wb yX3_isAhead cX3_isAhead 3 (some .boolean)) ({ frames := 2, cells := 0, slots := 0, locals := 42 } : Room) (PcG G M0 [.ref (gA G (5 + k)), .int (i3 (x1)), .int (i3 (x2))]) (QcZ G M0 r) 0 0 (PA G) := by
  refine Met.ofW (cc := cX3_isAhead) (maxL := 3) (ret := (some .boolean)) (by decide) rfl ?_
  intro p e s m args below meth c s₁ B hml hv0
  obtain ⟨hav, hW⟩ := hv0
  have hx := B.exec
  have hb := B.bytes
  have hr := B.returns
  have hts := atoms_spec (ws := (wb yX3_isAhead cX3_isAhead 3 (some .boolean))) B.pre
  have hown : s.vm.findClass RX3 = some m.cls := findClass_of_methodNamed B.named
  have hlocks := B.notSynchronized
  have hW : Wd G M0 s s.heap := hW
  have hS : va_S (PA G) s.heap s.heap [] := va_S.rf
  have hl := lv_entry [.ref (gA G (5 + k)), .int (i3 (x1)), .int (i3 (x2))] (n := 3) (Nat.le_of_ble_eq_true rfl)
  have hent := lg_entry_eq m [.ref (gA G (5 + k)), .int (i3 (x1)), .int (i3 (x2))] 3
  rw [← hav] at hent
  rw [hent]
  clear hent
  generalize (lg_sl [.ref (gA G (5 + k)), .int (i3 (x1)), .int (i3 (x2))] ++ List.replicate (3 - (lg_sl [.ref (gA G (5 + k)), .int (i3 (x1)), .int (i3 (x2))]).length) Slot.unset).toArray = ls at hl ⊢
  have hl : lv_has ls 3 [(0, .ref (gA G (5 + k))), (1, .int (i3 (x1))), (2, .int (i3 (x2)))] := hl
  unfold fW_isAhead at hf
  show W p l e ({ frames := 2, cells := 0, slots := 0, locals := 42 } : Room) s m args below meth c s.heap [] 0 0 (MQ below (QcZ G M0 r) args s 0 0 (PA G)) (F0 m 0 ls [])
  refine lv_aload_n hx hb dX3_isAhead_0 rfl (lv_at hl 0 rfl) ?_
  refine lv_iload_n hx hb dX3_isAhead_1 rfl (lv_at hl 1 rfl) ?_
  refine k_cVi (As := [.int (i3 (x1))]) (rest := []) ⟨hx, hb, hml, hown, hts⟩ (mW_ageIn l G M0 (k) hk x1 hx1 _ rfl) (cwV 1 hts (gbV (inB_13 _ (List.mem_of_getElem? (i := 5) rfl)) (inB_6 _ (List.mem_of_getElem? (i := 2) rfl)) (inB_6 _ (List.mem_of_getElem? (i := 3) rfl)) (inB_1 _ (List.mem_of_getElem? (i := 12) rfl)) (inB_6 _ (List.mem_of_getElem? (i := 4) rfl))) rfl rfl rfl (by decide +kernel) ⟨Nat.le_of_ble_eq_true rfl, Nat.le_of_ble_eq_true rfl⟩) (rv_wall hk hW) hW hS rfl hl.1 rfl (lv_room (Nat.le_of_ble_eq_true rfl)) dX3_isAhead_2 ⟨Nat.zero_le _, Nat.zero_le _⟩ (fun hv1 H locs hW hS => ?_)
  refine lv_aload_n hx hb dX3_isAhead_5 rfl (lv_at hl 0 rfl) ?_
  refine lv_iload_n hx hb dX3_isAhead_6 rfl (lv_at hl 2 rfl) ?_
  refine k_cVi (As := [.int (i3 (x2))]) (rest := [.int (i3 ((fW_ageIn M0 (k) x1)))]) ⟨hx, hb, hml, hown, hts⟩ (mW_ageIn l G M0 (k) hk x2 hx2 _ rfl) (cwV 1 hts (gbV (inB_13 _ (List.mem_of_getElem? (i := 5) rfl)) (inB_6 _ (List.mem_of_getElem? (i := 2) rfl)) (inB_6 _ (List.mem_of_getElem? (i := 3) rfl)) (inB_1 _ (List.mem_of_getElem? (i := 12) rfl)) (inB_6 _ (List.mem_of_getElem? (i := 4) rfl))) rfl rfl rfl (by decide +kernel) ⟨Nat.le_of_ble_eq_true rfl, Nat.le_of_ble_eq_true rfl⟩) (rv_wall hk hW) hW hS rfl hl.1 rfl (lv_room (Nat.le_of_ble_eq_true rfl)) dX3_isAhead_7 ⟨Nat.zero_le _, Nat.zero_le _⟩ (fun hv2 H locs hW hS => ?_)
  refine k_icmp_eq (tgt := 32) hx hb hv1 hv2 dX3_isAhead_10 (by decide) (fun hc3 => ?_) (fun hc3 => ?_)
  · rw [if_pos hc3] at hf
    refine lv_aload_n hx hb dX3_isAhead_32 rfl (lv_at hl 0 rfl) ?_
    refine lv_iload_n hx hb dX3_isAhead_33 rfl (lv_at hl 1 rfl) ?_
    refine k_cVi (As := [.int (i3 (x1))]) (rest := []) ⟨hx, hb, hml, hown, hts⟩ (mW_sacksIn l G M0 (k) hk x1 hx1 _ rfl) (cwV 1 hts (gbV (inB_8 _ (List.mem_of_getElem? (i := 19) rfl)) (inB_5 _ (List.mem_of_getElem? (i := 8) rfl)) (inB_5 _ (List.mem_of_getElem? (i := 9) rfl)) (inB_1 _ (List.mem_of_getElem? (i := 12) rfl)) (inB_5 _ (List.mem_of_getElem? (i := 10) rfl))) rfl rfl rfl (by decide +kernel) ⟨Nat.le_of_ble_eq_true rfl, Nat.le_of_ble_eq_true rfl⟩) (rv_wall hk hW) hW hS rfl hl.1 rfl (lv_room (Nat.le_of_ble_eq_true rfl)) dX3_isAhead_34 ⟨Nat.zero_le _, Nat.zero_le _⟩ (fun hv4 H locs hW hS => ?_)
    refine lv_aload_n hx hb dX3_isAhead_37 rfl (lv_at hl 0 rfl) ?_
    refine lv_iload_n hx hb dX3_isAhead_38 rfl (lv_at hl 2 rfl) ?_
    refine k_cVi (As := [.int (i3 (x2))]) (rest := [.int (i3 ((fW_sacksIn M0 (k) x1)))]) ⟨hx, hb, hml, hown, hts⟩ (mW_sacksIn l G M0 (k) hk x2 hx2 _ rfl) (cwV 1 hts (gbV (inB_8 _ (List.mem_of_getElem? (i := 19) rfl)) (inB_5 _ (List.mem_of_getElem? (i := 8) rfl)) (inB_5 _ (List.mem_of_getElem? (i := 9) rfl)) (inB_1 _ (List.mem_of_getElem? (i := 12) rfl)) (inB_5 _ (List.mem_of_getElem? (i := 10) rfl))) rfl rfl rfl (by decide +kernel) ⟨Nat.le_of_ble_eq_true rfl, Nat.le_of_ble_eq_true rfl⟩) (rv_wall hk hW) hW hS rfl hl.1 rfl (lv_room (Nat.le_of_ble_eq_true rfl)) dX3_isAhead_39 ⟨Nat.zero_le _, Nat.zero_le _⟩ (fun hv5 H locs hW hS => ?_)
    refine k_icmp_eq (tgt := 64) hx hb hv4 hv5 dX3_isAhead_42 (by decide) (fun hc6 => ?_) (fun hc6 => ?_)
    · rw [if_pos hc6] at hf
      refine lv_iload_n hx hb dX3_isAhead_64 rfl (lv_at hl 1 rfl) ?_
      refine lv_iload_n hx hb dX3_isAhead_65 rfl (lv_at hl 2 rfl) ?_
      refine k_icmp_ge (tgt := 73) hx hb hx1 hx2 dX3_isAhead_66 (by decide) (fun hc7 => ?_) (fun hc7 => ?_)
      · rw [if_neg hc7] at hf
        refine k_const hx hb dX3_isAhead_73 ?_
        subst hf
        exact k_retz hx hb hr hlocks hW hS rfl (show (0 : Int) = 0 ∨ (0 : Int) = 1 by decide) dX3_isAhead_74
      · rw [if_pos hc7] at hf
        refine k_const hx hb dX3_isAhead_69 ?_
        refine lv_goto (tgt := 74) hx hb dX3_isAhead_70 (by decide) ?_
        subst hf
        exact k_retz hx hb hr hlocks hW hS rfl (show (1 : Int) = 0 ∨ (1 : Int) = 1 by decide) dX3_isAhead_74
    · rw [if_neg hc6] at hf
      refine lv_aload_n hx hb dX3_isAhead_45 rfl (lv_at hl 0 rfl) ?_
      refine lv_iload_n hx hb dX3_isAhead_46 rfl (lv_at hl 1 rfl) ?_
      refine k_cVi (As := [.int (i3 (x1))]) (rest := []) ⟨hx, hb, hml, hown, hts⟩ (mW_sacksIn l G M0 (k) hk x1 hx1 _ rfl) (cwV 1 hts (gbV (inB_8 _ (List.mem_of_getElem? (i := 19) rfl)) (inB_5 _ (List.mem_of_getElem? (i := 8) rfl)) (inB_5 _ (List.mem_of_getElem? (i := 9) rfl)) (inB_1 _ (List.mem_of_getElem? (i := 12) rfl)) (inB_5 _ (List.mem_of_getElem? (i := 10) rfl))) rfl rfl rfl (by decide +kernel) ⟨Nat.le_of_ble_eq_true rfl, Nat.le_of_ble_eq_true rfl⟩) (rv_wall hk hW) hW hS rfl hl.1 rfl (lv_room (Nat.le_of_ble_eq_true rfl)) dX3_isAhead_47 ⟨Nat.zero_le _, Nat.zero_le _⟩ (fun hv8 H locs hW hS => ?_)
      refine lv_aload_n hx hb dX3_isAhead_50 rfl (lv_at hl 0 rfl) ?_
      refine lv_iload_n hx hb dX3_isAhead_51 rfl (lv_at hl 2 rfl) ?_
      refine k_cVi (As := [.int (i3 (x2))]) (rest := [.int (i3 ((fW_sacksIn M0 (k) x1)))]) ⟨hx, hb, hml, hown, hts⟩ (mW_sacksIn l G M0 (k) hk x2 hx2 _ rfl) (cwV 1 hts (gbV (inB_8 _ (List.mem_of_getElem? (i := 19) rfl)) (inB_5 _ (List.mem_of_getElem? (i := 8) rfl)) (inB_5 _ (List.mem_of_getElem? (i := 9) rfl)) (inB_1 _ (List.mem_of_getElem? (i := 12) rfl)) (inB_5 _ (List.mem_of_getElem? (i := 10) rfl))) rfl rfl rfl (by decide +kernel) ⟨Nat.le_of_ble_eq_true rfl, Nat.le_of_ble_eq_true rfl⟩) (rv_wall hk hW) hW hS rfl hl.1 rfl (lv_room (Nat.le_of_ble_eq_true rfl)) dX3_isAhead_52 ⟨Nat.zero_le _, Nat.zero_le _⟩ (fun hv9 H locs hW hS => ?_)
      refine k_icmp_le (tgt := 62) hx hb hv8 hv9 dX3_isAhead_55 (by decide) (fun hc10 => ?_) (fun hc10 => ?_)
      · rw [if_neg hc10] at hf
        refine k_const hx hb dX3_isAhead_62 ?_
        subst hf
        exact k_retz hx hb hr hlocks hW hS rfl (show (0 : Int) = 0 ∨ (0 : Int) = 1 by decide) dX3_isAhead_63
      · rw [if_pos hc10] at hf
        refine k_const hx hb dX3_isAhead_58 ?_
        refine lv_goto (tgt := 63) hx hb dX3_isAhead_59 (by decide) ?_
        subst hf
        exact k_retz hx hb hr hlocks hW hS rfl (show (1 : Int) = 0 ∨ (1 : Int) = 1 by decide) dX3_isAhead_63
  · rw [if_neg hc3] at hf
    refine lv_aload_n hx hb dX3_isAhead_13 rfl (lv_at hl 0 rfl) ?_
    refine lv_iload_n hx hb dX3_isAhead_14 rfl (lv_at hl 1 rfl) ?_
    refine k_cVi (As := [.int (i3 (x1))]) (rest := []) ⟨hx, hb, hml, hown, hts⟩ (mW_ageIn l G M0 (k) hk x1 hx1 _ rfl) (cwV 1 hts (gbV (inB_13 _ (List.mem_of_getElem? (i := 5) rfl)) (inB_6 _ (List.mem_of_getElem? (i := 2) rfl)) (inB_6 _ (List.mem_of_getElem? (i := 3) rfl)) (inB_1 _ (List.mem_of_getElem? (i := 12) rfl)) (inB_6 _ (List.mem_of_getElem? (i := 4) rfl))) rfl rfl rfl (by decide +kernel) ⟨Nat.le_of_ble_eq_true rfl, Nat.le_of_ble_eq_true rfl⟩) (rv_wall hk hW) hW hS rfl hl.1 rfl (lv_room (Nat.le_of_ble_eq_true rfl)) dX3_isAhead_15 ⟨Nat.zero_le _, Nat.zero_le _⟩ (fun hv11 H locs hW hS => ?_)
    refine lv_aload_n hx hb dX3_isAhead_18 rfl (lv_at hl 0 rfl) ?_
    refine lv_iload_n hx hb dX3_isAhead_19 rfl (lv_at hl 2 rfl) ?_
    refine k_cVi (As := [.int (i3 (x2))]) (rest := [.int (i3 ((fW_ageIn M0 (k) x1)))]) ⟨hx, hb, hml, hown, hts⟩ (mW_ageIn l G M0 (k) hk x2 hx2 _ rfl) (cwV 1 hts (gbV (inB_13 _ (List.mem_of_getElem? (i := 5) rfl)) (inB_6 _ (List.mem_of_getElem? (i := 2) rfl)) (inB_6 _ (List.mem_of_getElem? (i := 3) rfl)) (inB_1 _ (List.mem_of_getElem? (i := 12) rfl)) (inB_6 _ (List.mem_of_getElem? (i := 4) rfl))) rfl rfl rfl (by decide +kernel) ⟨Nat.le_of_ble_eq_true rfl, Nat.le_of_ble_eq_true rfl⟩) (rv_wall hk hW) hW hS rfl hl.1 rfl (lv_room (Nat.le_of_ble_eq_true rfl)) dX3_isAhead_20 ⟨Nat.zero_le _, Nat.zero_le _⟩ (fun hv12 H locs hW hS => ?_)
    refine k_icmp_le (tgt := 30) hx hb hv11 hv12 dX3_isAhead_23 (by decide) (fun hc13 => ?_) (fun hc13 => ?_)
    · rw [if_neg hc13] at hf
      refine k_const hx hb dX3_isAhead_30 ?_
      subst hf
      exact k_retz hx hb hr hlocks hW hS rfl (show (0 : Int) = 0 ∨ (0 : Int) = 1 by decide) dX3_isAhead_31
    · rw [if_pos hc13] at hf
      refine k_const hx hb dX3_isAhead_26 ?_
      refine lv_goto (tgt := 31) hx hb dX3_isAhead_27 (by decide) ?_
      subst hf
      exact k_retz hx hb hr hlocks hW hS rfl (show (1 : Int) = 0 ∨ (1 : Int) = 1 by decide) dX3_isAhead_31
set_option maxHeartbeats 4000000 in
set_option maxRecDepth 100000 in
theorem mW_placeOf (l : Launch) (G : gG) (M0 : MemG) (k : Nat) (hk : k < 11) (x1 : Int) (hx1 : inR x1) (r : Int) (hf : fW_placeOf M0 k x1 = some r) : Met l yX3_placeOf (wb yX3_placeOf cX3_placeOf 4 (some .int)) ({ frames := 3, cells := 0, slots := 0, locals := 64 } : Room) (PcG G M0 [.ref (gA G (5 + k)), .int (i3 (x1))]) (QcI G M0 r) 0 0 (PA G) := by
  refine Met.ofW (cc := cX3_placeOf) (maxL := 4) (ret := (some .int)) (by decide) rfl ?_
  intro p e s m args below meth c s₁ B hml hv0
  obtain ⟨hav, hW⟩ := hv0
  have hx := B.exec
  have hb := B.bytes
  have hr := B.returns
  have hts := atoms_spec (ws := (wb yX3_placeOf cX3_placeOf 4 (some .int))) B.pre
  have hown : s.vm.findClass RX3 = some m.cls := findClass_of_methodNamed B.named
  have hlocks := B.notSynchronized
  have hW : Wd G M0 s s.heap := hW
  have hS : va_S (PA G) s.heap s.heap [] := va_S.rf
  have hl := lv_entry [.ref (gA G (5 + k)), .int (i3 (x1))] (n := 4) (Nat.le_of_ble_eq_true rfl)
  have hent := lg_entry_eq m [.ref (gA G (5 + k)), .int (i3 (x1))] 4
  rw [← hav] at hent
  rw [hent]
  clear hent
  generalize (lg_sl [.ref (gA G (5 + k)), .int (i3 (x1))] ++ List.replicate (4 - (lg_sl [.ref (gA G (5 + k)), .int (i3 (x1))]).length) Slot.unset).toArray = ls at hl ⊢
  have hl : lv_has ls 4 [(0, .ref (gA G (5 + k))), (1, .int (i3 (x1)))] := hl
  unfold fW_placeOf at hf
  show W p l e ({ frames := 3, cells := 0, slots := 0, locals := 64 } : Room) s m args below meth c s.heap [] 0 0 (MQ below (QcI G M0 r) args s 0 0 (PA G)) (F0 m 0 ls [])
  have L9 : ∀ (x1 : Int) (hx1 : inR x1), ∀ (z : (Int × Int)) (q : (Int)), loopN (fW_placeOf_l4 M0 k x1) 200 z = some q → (q = r) → (inR (z.1) → inR (z.2) → ∀ (H : Heap) (locs : List Loc) (ls : Array Slot), Wd G (M0) s H → va_S (PA G) s.heap H locs → lv_has ls 4 [(0, .ref (gA G (5 + k))), (1, .int (i3 (x1))), (2, .int (i3 (z.1))), (3, .int (i3 (z.2)))] → W p l e ({ frames := 3, cells := 0, slots := 0, locals := 64 } : Room) s m args below meth c H locs 0 0 (MQ below (QcI G M0 r) args s 0 0 (PA G)) (F0 m 4 ls [])) := by
    intro x1 hx1 z q hq hex
    refine loop_rule (fW_placeOf_l4 M0 k x1) (fun z => inR (z.1) → inR (z.2) → ∀ (H : Heap) (locs : List Loc) (ls : Array Slot), Wd G (M0) s H → va_S (PA G) s.heap H locs → lv_has ls 4 [(0, .ref (gA G (5 + k))), (1, .int (i3 (x1))), (2, .int (i3 (z.1))), (3, .int (i3 (z.2)))] → W p l e ({ frames := 3, cells := 0, slots := 0, locals := 64 } : Room) s m args below meth c H locs 0 0 (MQ below (QcI G M0 r) args s 0 0 (PA G)) (F0 m 4 ls [])) (fun q => (q = r)) ?_ 200 z q hq hex
    clear hq hex q z
    intro z x hf hK hz2 hz3 H locs ls hW hS hl
    have J4 : ∀ (x2 : Int) (x3 : Int), fW_placeOf_j30 M0 k x1 x2 x3 = some x → inR x2 → inR x3 →  ∀ (H : Heap) (locs : List Loc) (ls : Array Slot), Wd G M0 s H → va_S (PA G) s.heap H locs → lv_has ls 4 [(0, .ref (gA G (5 + k))), (1, .int (i3 (x1))), (2, .int (i3 (x2))), (3, .int (i3 (x3)))] → W p l e ({ frames := 3, cells := 0, slots := 0, locals := 64 } : Room) s m args below meth c H locs 0 0 (MQ below (QcI G M0 r) args s 0 0 (PA G)) (F0 m 30 ls []) := by
      intro x2 x3 hf hx2 hx3 H locs ls hW hS hl
      unfold fW_placeOf_j30 at hf
      obtain ⟨hg5, hf⟩ := gd_el hf
      refine k_iinc (lv' := [(3, .int (i3 (x3 + 1))), (0, .ref (gA G (5 + k))), (1, .int (i3 (x1))), (2, .int (i3 (x2)))]) hx hb dX3_placeOf_30 hl (k := 3) rfl (by decide) rfl (fun ls hl => ?_)
      refine lv_goto (tgt := 4) hx hb dX3_placeOf_33 (by decide) ?_
      obtain rfl := some_el hf
      exact hK hx2 hg5 _ _ _ hW hS (lv_sub hl [1, 2, 3, 0] rfl)
    unfold fW_placeOf_l4 at hf
    refine lv_iload_n hx hb dX3_placeOf_4 rfl (lv_at hl 3 rfl) ?_
    refine k_bipush hx hb dX3_placeOf_5 (by decide +kernel) ?_
    refine k_icmp_ge (tgt := 36) hx hb hz3 (show inR (32) by decide) dX3_placeOf_7 (by decide) (fun hc1 => ?_) (fun hc1 => ?_)
    · rw [if_neg hc1] at hf
      refine lv_iload_n hx hb dX3_placeOf_36 rfl (lv_at hl 2 rfl) ?_
      obtain rfl := some_el hf
      obtain rfl : z.1 = r := hK
      exact k_ret hx hb hr hlocks hW hS rfl hz2 dX3_placeOf_37
    · rw [if_pos hc1] at hf
      refine lv_aload_n hx hb dX3_placeOf_10 rfl (lv_at hl 0 rfl) ?_
      refine lv_iload_n hx hb dX3_placeOf_11 rfl (lv_at hl 3 rfl) ?_
      refine k_cVz (As := [.int (i3 (z.2))]) (rest := []) ⟨hx, hb, hml, hown, hts⟩ (mW_isEmpty l G M0 (k) hk z.2 hz3 _ rfl) (cwV 1 hts (gbV (inB_8 _ (List.mem_of_getElem? (i := 10) rfl)) (inB_4 _ (List.mem_of_getElem? (i := 22) rfl)) (inB_4 _ (List.mem_of_getElem? (i := 23) rfl)) (inB_1 _ (List.mem_of_getElem? (i := 12) rfl)) (inB_5 _ (List.mem_of_getElem? (i := 0) rfl))) rfl rfl rfl (by decide +kernel) ⟨Nat.le_of_ble_eq_true rfl, Nat.le_of_ble_eq_true rfl⟩) (rv_wall hk hW) hW hS rfl hl.1 rfl (lv_room (Nat.le_of_ble_eq_true rfl)) dX3_placeOf_12 ⟨Nat.zero_le _, Nat.zero_le _⟩ (fun hv2 H locs hW hS => ?_)
      refine k_if_ne (tgt := 30) hx hb (inR_z hv2) dX3_placeOf_15 (by decide) (fun hc3 => ?_) (fun hc3 => ?_)
      · rw [if_neg hc3] at hf
        exact J4 (z.1) (z.2) hf hz2 hz3 _ _ _ hW hS (lv_sub hl [0, 1, 2, 3] rfl)
      · rw [if_pos hc3] at hf
        refine lv_aload_n hx hb dX3_placeOf_18 rfl (lv_at hl 0 rfl) ?_
        refine lv_iload_n hx hb dX3_placeOf_19 rfl (lv_at hl 3 rfl) ?_
        refine lv_iload_n hx hb dX3_placeOf_20 rfl (lv_at hl 1 rfl) ?_
        refine k_cVz (As := [.int (i3 (z.2)), .int (i3 (x1))]) (rest := []) ⟨hx, hb, hml, hown, hts⟩ (mW_isAhead l G M0 (k) hk z.2 hz3 x1 hx1 _ rfl) (cwV 2 hts (gbV (inB_21 _ (List.mem_of_getElem? (i := 8) rfl)) (inB_21 _ (List.mem_of_getElem? (i := 9) rfl)) (inB_21 _ (List.mem_of_getElem? (i := 10) rfl)) (inB_1 _ (List.mem_of_getElem? (i := 12) rfl)) (inB_21 _ (List.mem_of_getElem? (i := 11) rfl))) rfl rfl rfl (by decide +kernel) ⟨Nat.le_of_ble_eq_true rfl, Nat.le_of_ble_eq_true rfl⟩) (rv_wall hk hW) hW hS rfl hl.1 rfl (lv_room (Nat.le_of_ble_eq_true rfl)) dX3_placeOf_21 ⟨Nat.zero_le _, Nat.zero_le _⟩ (fun hv6 H locs hW hS => ?_)
        refine k_if_eq (tgt := 30) hx hb (inR_z hv6) dX3_placeOf_24 (by decide) (fun hc7 => ?_) (fun hc7 => ?_)
        · rw [if_pos hc7] at hf
          exact J4 (z.1) (z.2) hf hz2 hz3 _ _ _ hW hS (lv_sub hl [0, 1, 2, 3] rfl)
        · rw [if_neg hc7] at hf
          obtain ⟨hg8, hf⟩ := gd_el hf
          refine k_iinc (lv' := [(2, .int (i3 (z.1 + 1))), (0, .ref (gA G (5 + k))), (1, .int (i3 (x1))), (3, .int (i3 (z.2)))]) hx hb dX3_placeOf_27 hl (k := 2) rfl (by decide) rfl (fun ls hl => ?_)
          exact J4 (z.1 + 1) (z.2) hf hg8 hz3 _ _ _ hW hS (lv_sub hl [1, 2, 0, 3] rfl)
  refine k_const hx hb dX3_placeOf_0 ?_
  refine lv_istore_n (lv' := [(2, .int (i3 (0))), (0, .ref (gA G (5 + k))), (1, .int (i3 (x1)))]) hx hb dX3_placeOf_1 rfl hl (by decide) rfl (fun ls hl => ?_)
  refine k_const hx hb dX3_placeOf_2 ?_
  refine lv_istore_n (lv' := [(3, .int (i3 (0))), (2, .int (i3 (0))), (0, .ref (gA G (5 + k))), (1, .int (i3 (x1)))]) hx hb dX3_placeOf_3 rfl hl (by decide) rfl (fun ls hl => ?_)
  exact L9 (x1) hx1 (0, 0) r hf rfl (show inR (0) by decide) (show inR (0) by decide) _ _ _ hW hS (lv_sub hl [2, 3, 1, 0] rfl)
set_option maxHeartbeats 4000000 in
set_option maxRecDepth 100000 in
theorem mW_sumByClimbing (l : Launch) (G : gG) (M0 : MemG) (k : Nat) (hk : k < 11) (x1 : Int) (hx1 : inR x1) (r : Int) (hf : fW_sumByClimbing M0 k x1 = some r) : Met l yX3_sumByClimbing (wb yX3_sumByClimbing cX3_sumByClimbing 5 (some .int)) ({ frames := 2, cells := 0, slots := 0, locals := 42 } : Room) (PcG G M0 [.ref (gA G (5 + k)), .int (i3 (x1))]) (QcI G M0 r) 0 0 (PA G) := by
  refine Met.ofW (cc := cX3_sumByClimbing) (maxL := 5) (ret := (some .int)) (by decide) rfl ?_
  intro p e s m args below meth c s₁ B hml hv0
  obtain ⟨hav, hW⟩ := hv0
  have hx := B.exec
  have hb := B.bytes
  have hr := B.returns
  have hts := atoms_spec (ws := (wb yX3_sumByClimbing cX3_sumByClimbing 5 (some .int))) B.pre
  have hown : s.vm.findClass RX3 = some m.cls := findClass_of_methodNamed B.named
  have hlocks := B.notSynchronized
  have hW : Wd G M0 s s.heap := hW
  have hS : va_S (PA G) s.heap s.heap [] := va_S.rf
  have hl := lv_entry [.ref (gA G (5 + k)), .int (i3 (x1))] (n := 5) (Nat.le_of_ble_eq_true rfl)
  have hent := lg_entry_eq m [.ref (gA G (5 + k)), .int (i3 (x1))] 5
  rw [← hav] at hent
  rw [hent]
  clear hent
  generalize (lg_sl [.ref (gA G (5 + k)), .int (i3 (x1))] ++ List.replicate (5 - (lg_sl [.ref (gA G (5 + k)), .int (i3 (x1))]).length) Slot.unset).toArray = ls at hl ⊢
  have hl : lv_has ls 5 [(0, .ref (gA G (5 + k))), (1, .int (i3 (x1)))] := hl
  unfold fW_sumByClimbing at hf
  show W p l e ({ frames := 2, cells := 0, slots := 0, locals := 42 } : Room) s m args below meth c s.heap [] 0 0 (MQ below (QcI G M0 r) args s 0 0 (PA G)) (F0 m 0 ls [])
  have L9 : ∀ (z : (Int × Int × Int)) (q : (Int)), loopN (fW_sumByClimbing_l9 M0 k) 200 z = some q → (q = r) → (inR (z.1) → inR (z.2.1) → inR (z.2.2) → ∀ (H : Heap) (locs : List Loc) (ls : Array Slot), Wd G (M0) s H → va_S (PA G) s.heap H locs → lv_has ls 5 [(0, .ref (gA G (5 + k))), (2, .int (i3 (z.1))), (3, .int (i3 (z.2.1))), (4, .int (i3 (z.2.2)))] → W p l e ({ frames := 2, cells := 0, slots := 0, locals := 42 } : Room) s m args below meth c H locs 0 0 (MQ below (QcI G M0 r) args s 0 0 (PA G)) (F0 m 9 ls [])) := by
    intro z q hq hex
    refine loop_rule (fW_sumByClimbing_l9 M0 k) (fun z => inR (z.1) → inR (z.2.1) → inR (z.2.2) → ∀ (H : Heap) (locs : List Loc) (ls : Array Slot), Wd G (M0) s H → va_S (PA G) s.heap H locs → lv_has ls 5 [(0, .ref (gA G (5 + k))), (2, .int (i3 (z.1))), (3, .int (i3 (z.2.1))), (4, .int (i3 (z.2.2)))] → W p l e ({ frames := 2, cells := 0, slots := 0, locals := 42 } : Room) s m args below meth c H locs 0 0 (MQ below (QcI G M0 r) args s 0 0 (PA G)) (F0 m 9 ls [])) (fun q => (q = r)) ?_ 200 z q hq hex
    clear hq hex q z
    intro z x hf hK hz2 hz3 hz4 H locs ls hW hS hl
    unfold fW_sumByClimbing_l9 at hf
    refine lv_iload hx hb dX3_sumByClimbing_9 (lv_at hl 3 rfl) ?_
    refine k_bipush hx hb dX3_sumByClimbing_11 (by decide +kernel) ?_
    refine k_icmp_ge (tgt := 41) hx hb hz4 (show inR (32) by decide) dX3_sumByClimbing_13 (by decide) (fun hc2 => ?_) (fun hc2 => ?_)
    · rw [if_neg hc2] at hf
      refine lv_iload_n hx hb dX3_sumByClimbing_41 rfl (lv_at hl 1 rfl) ?_
      obtain rfl := some_el hf
      obtain rfl : z.1 = r := hK
      exact k_ret hx hb hr hlocks hW hS rfl hz2 dX3_sumByClimbing_42
    · rw [if_pos hc2] at hf
      refine lv_iload_n hx hb dX3_sumByClimbing_16 rfl (lv_at hl 2 rfl) ?_
      refine k_if_le (tgt := 41) hx hb hz3 dX3_sumByClimbing_17 (by decide) (fun hc3 => ?_) (fun hc3 => ?_)
      · rw [if_neg hc3] at hf
        refine lv_iload_n hx hb dX3_sumByClimbing_41 rfl (lv_at hl 1 rfl) ?_
        obtain rfl := some_el hf
        obtain rfl : z.1 = r := hK
        exact k_ret hx hb hr hlocks hW hS rfl hz2 dX3_sumByClimbing_42
      · rw [if_pos hc3] at hf
        refine lv_iload_n hx hb dX3_sumByClimbing_20 rfl (lv_at hl 1 rfl) ?_
        refine lv_aload_n hx hb dX3_sumByClimbing_21 rfl (lv_at hl 0 rfl) ?_
        refine lv_iload_n hx hb dX3_sumByClimbing_22 rfl (lv_at hl 2 rfl) ?_
        refine k_cVi (As := [.int (i3 (z.2.1))]) (rest := [.int (i3 (z.1))]) ⟨hx, hb, hml, hown, hts⟩ (mW_sumOf l G M0 (k) hk z.2.1 hz3 _ rfl) (cwV 1 hts (gbV (inB_6 _ (List.mem_of_getElem? (i := 23) rfl)) (inB_7 _ (List.mem_of_getElem? (i := 0) rfl)) (inB_7 _ (List.mem_of_getElem? (i := 1) rfl)) (inB_1 _ (List.mem_of_getElem? (i := 12) rfl)) (inB_7 _ (List.mem_of_getElem? (i := 2) rfl))) rfl rfl rfl (by decide +kernel) ⟨Nat.le_of_ble_eq_true rfl, Nat.le_of_ble_eq_true rfl⟩) (rv_wall hk hW) hW hS rfl hl.1 rfl (lv_room (Nat.le_of_ble_eq_true rfl)) dX3_sumByClimbing_23 ⟨Nat.zero_le _, Nat.zero_le _⟩ (fun hv4 H locs hW hS => ?_)
        refine k_add hx hb dX3_sumByClimbing_26 ?_
        obtain ⟨hg5, hf⟩ := gd_el hf
        refine lv_istore_n (lv' := [(2, .int (i3 (z.1 + ((fW_sumOf M0 (k) z.2.1))))), (0, .ref (gA G (5 + k))), (3, .int (i3 (z.2.1))), (4, .int (i3 (z.2.2)))]) hx hb dX3_sumByClimbing_27 rfl hl (by decide) rfl (fun ls hl => ?_)
        refine lv_iload_n hx hb dX3_sumByClimbing_28 rfl (lv_at hl 2 rfl) ?_
        refine lv_iload_n hx hb dX3_sumByClimbing_29 rfl (lv_at hl 2 rfl) ?_
        refine k_cNi (As := [.int (i3 (z.2.1))]) (rest := [.int (i3 (z.2.1))]) ⟨hx, hb, hml, hown, hts⟩ (mG_sizeOf l G M0 z.2.1 hz3 _ rfl) ⟨va_cnB 1 hts (gbC (inB_6 _ (List.mem_of_getElem? (i := 14) rfl))) rfl rfl rfl (hW.N _ (List.mem_of_getElem? (i := 3) rfl)) (hts _ (List.mem_cons_of_mem _ (inB_1 _ (List.mem_of_getElem? (i := 2) rfl)))) (by decide +kernel) ⟨Nat.le_of_ble_eq_true rfl, Nat.le_of_ble_eq_true rfl⟩, (hts _ (List.mem_cons_of_mem _ (inB_6 _ (List.mem_of_getElem? (i := 13) rfl)))), trivial⟩ hW hS rfl hl.1 rfl (lv_room (Nat.le_of_ble_eq_true rfl)) dX3_sumByClimbing_30 ⟨Nat.zero_le _, Nat.zero_le _⟩ (fun hv6 H locs hW hS => ?_)
        refine k_sub hx hb dX3_sumByClimbing_33 ?_
        obtain ⟨hg7, hf⟩ := gd_el hf
        refine lv_istore_n (lv' := [(3, .int (i3 (z.2.1 - ((fG_sizeOf z.2.1))))), (2, .int (i3 (z.1 + ((fW_sumOf M0 (k) z.2.1))))), (0, .ref (gA G (5 + k))), (4, .int (i3 (z.2.2)))]) hx hb dX3_sumByClimbing_34 rfl hl (by decide) rfl (fun ls hl => ?_)
        obtain ⟨hg8, hf⟩ := gd_el hf
        refine k_iinc (lv' := [(4, .int (i3 (z.2.2 + 1))), (3, .int (i3 (z.2.1 - ((fG_sizeOf z.2.1))))), (2, .int (i3 (z.1 + ((fW_sumOf M0 (k) z.2.1))))), (0, .ref (gA G (5 + k)))]) hx hb dX3_sumByClimbing_35 hl (k := 3) rfl (by decide) rfl (fun ls hl => ?_)
        refine lv_goto (tgt := 9) hx hb dX3_sumByClimbing_38 (by decide) ?_
        obtain rfl := some_el hf
        exact hK hg5 hg7 hg8 _ _ _ hW hS (lv_sub hl [3, 2, 1, 0] rfl)
  refine k_const hx hb dX3_sumByClimbing_0 ?_
  refine lv_istore_n (lv' := [(2, .int (i3 (0))), (0, .ref (gA G (5 + k))), (1, .int (i3 (x1)))]) hx hb dX3_sumByClimbing_1 rfl hl (by decide) rfl (fun ls hl => ?_)
  refine lv_iload_n hx hb dX3_sumByClimbing_2 rfl (lv_at hl 2 rfl) ?_
  refine k_const hx hb dX3_sumByClimbing_3 ?_
  refine k_add hx hb dX3_sumByClimbing_4 ?_
  obtain ⟨hg1, hf⟩ := gd_el hf
  refine lv_istore_n (lv' := [(3, .int (i3 (x1 + 1))), (2, .int (i3 (0))), (0, .ref (gA G (5 + k))), (1, .int (i3 (x1)))]) hx hb dX3_sumByClimbing_5 rfl hl (by decide) rfl (fun ls hl => ?_)
  refine k_const hx hb dX3_sumByClimbing_6 ?_
  refine lv_istore (lv' := [(4, .int (i3 (0))), (3, .int (i3 (x1 + 1))), (2, .int (i3 (0))), (0, .ref (gA G (5 + k))), (1, .int (i3 (x1)))]) hx hb dX3_sumByClimbing_7 hl (by decide) rfl (fun ls hl => ?_)
  exact L9  (0, x1 + 1, 0) r hf rfl (show inR (0) by decide) hg1 (show inR (0) by decide) _ _ _ hW hS (lv_sub hl [3, 2, 1, 0] rfl)
set_option maxHeartbeats 4000000 in
set_option maxRecDepth 100000 in
theorem mW_cracksUnder (l : Launch) (G : gG) (M0 : MemG) (k : Nat) (hk : k < 11) (x1 : Int) (hx1 : inR x1) (x2 : Int) (hx2 : inR x2) (r : Int) (hf : fW_cracksUnder M0 k x1 x2 = some r) : Met l yX3_cracksUnder (wb yX3_cracksUnder cX3_cracksUnder 5 (some .boolean)) ({ frames := 2, cells := 0, slots := 0, locals := 42 } : Room) (PcG G M0 [.ref (gA G (5 + k)), .int (i3 (x1)), .int (i3 (x2))]) (QcZ G M0 r) 0 0 (PA G) := by
  refine Met.ofW (cc := cX3_cracksUnder) (maxL := 5) (ret := (some .boolean)) (by decide) rfl ?_
  intro p e s m args below meth c s₁ B hml hv0
  obtain ⟨hav, hW⟩ := hv0
  have hx := B.exec
  have hb := B.bytes
  have hr := B.returns
  have hts := atoms_spec (ws := (wb yX3_cracksUnder cX3_cracksUnder 5 (some .boolean))) B.pre
  have hown : s.vm.findClass RX3 = some m.cls := findClass_of_methodNamed B.named
  have hlocks := B.notSynchronized
  have hW : Wd G M0 s s.heap := hW
  have hS : va_S (PA G) s.heap s.heap [] := va_S.rf
  have hl := lv_entry [.ref (gA G (5 + k)), .int (i3 (x1)), .int (i3 (x2))] (n := 5) (Nat.le_of_ble_eq_true rfl)
  have hent := lg_entry_eq m [.ref (gA G (5 + k)), .int (i3 (x1)), .int (i3 (x2))] 5
  rw [← hav] at hent
  rw [hent]
  clear hent
  generalize (lg_sl [.ref (gA G (5 + k)), .int (i3 (x1)), .int (i3 (x2))] ++ List.replicate (5 - (lg_sl [.ref (gA G (5 + k)), .int (i3 (x1)), .int (i3 (x2))]).length) Slot.unset).toArray = ls at hl ⊢
  have hl : lv_has ls 5 [(0, .ref (gA G (5 + k))), (1, .int (i3 (x1))), (2, .int (i3 (x2)))] := hl
  unfold fW_cracksUnder at hf
  show W p l e ({ frames := 2, cells := 0, slots := 0, locals := 42 } : Room) s m args below meth c s.heap [] 0 0 (MQ below (QcZ G M0 r) args s 0 0 (PA G)) (F0 m 0 ls [])
  have L15 : ∀ (x2 : Int) (hx2 : inR x2), ∀ (z : (Int × Int)) (q : (Int)), loopN (fW_cracksUnder_l7 M0 k x2) 200 z = some q → (q = r) → (inR (z.1) → inR (z.2) → ∀ (H : Heap) (locs : List Loc) (ls : Array Slot), Wd G (M0) s H → va_S (PA G) s.heap H locs → lv_has ls 5 [(0, .ref (gA G (5 + k))), (2, .int (i3 (x2))), (3, .int (i3 (z.1))), (4, .int (i3 (z.2)))] → W p l e ({ frames := 2, cells := 0, slots := 0, locals := 42 } : Room) s m args below meth c H locs 0 0 (MQ below (QcZ G M0 r) args s 0 0 (PA G)) (F0 m 7 ls [])) := by
    intro x2 hx2 z q hq hex
    refine loop_rule (fW_cracksUnder_l7 M0 k x2) (fun z => inR (z.1) → inR (z.2) → ∀ (H : Heap) (locs : List Loc) (ls : Array Slot), Wd G (M0) s H → va_S (PA G) s.heap H locs → lv_has ls 5 [(0, .ref (gA G (5 + k))), (2, .int (i3 (x2))), (3, .int (i3 (z.1))), (4, .int (i3 (z.2)))] → W p l e ({ frames := 2, cells := 0, slots := 0, locals := 42 } : Room) s m args below meth c H locs 0 0 (MQ below (QcZ G M0 r) args s 0 0 (PA G)) (F0 m 7 ls [])) (fun q => (q = r)) ?_ 200 z q hq hex
    clear hq hex q z
    intro z x hf hK hz3 hz4 H locs ls hW hS hl
    have J6 : ∀ (x3 : Int) (x4 : Int), fW_cracksUnder_j44 M0 k x2 x3 x4 = some x → inR x3 → inR x4 →  ∀ (H : Heap) (locs : List Loc) (ls : Array Slot), Wd G M0 s H → va_S (PA G) s.heap H locs → lv_has ls 5 [(0, .ref (gA G (5 + k))), (2, .int (i3 (x2))), (3, .int (i3 (x3))), (4, .int (i3 (x4)))] → W p l e ({ frames := 2, cells := 0, slots := 0, locals := 42 } : Room) s m args below meth c H locs 0 0 (MQ below (QcZ G M0 r) args s 0 0 (PA G)) (F0 m 44 ls []) := by
      intro x3 x4 hf hx3 hx4 H locs ls hW hS hl
      unfold fW_cracksUnder_j44 at hf
      refine lv_iload_n hx hb dX3_cracksUnder_44 rfl (lv_at hl 2 rfl) ?_
      refine lv_iload_n hx hb dX3_cracksUnder_45 rfl (lv_at hl 2 rfl) ?_
      refine k_cNi (As := [.int (i3 (x3))]) (rest := [.int (i3 (x3))]) ⟨hx, hb, hml, hown, hts⟩ (mG_sizeOf l G M0 x3 hx3 _ rfl) ⟨va_cnB 1 hts (gbC (inB_6 _ (List.mem_of_getElem? (i := 14) rfl))) rfl rfl rfl (hW.N _ (List.mem_of_getElem? (i := 3) rfl)) (hts _ (List.mem_cons_of_mem _ (inB_1 _ (List.mem_of_getElem? (i := 2) rfl)))) (by decide +kernel) ⟨Nat.le_of_ble_eq_true rfl, Nat.le_of_ble_eq_true rfl⟩, (hts _ (List.mem_cons_of_mem _ (inB_6 _ (List.mem_of_getElem? (i := 13) rfl)))), trivial⟩ hW hS rfl hl.1 rfl (lv_room (Nat.le_of_ble_eq_true rfl)) dX3_cracksUnder_46 ⟨Nat.zero_le _, Nat.zero_le _⟩ (fun hv7 H locs hW hS => ?_)
      refine k_add hx hb dX3_cracksUnder_49 ?_
      obtain ⟨hg8, hf⟩ := gd_el hf
      refine lv_istore_n (lv' := [(3, .int (i3 (x3 + ((fG_sizeOf x3))))), (0, .ref (gA G (5 + k))), (2, .int (i3 (x2))), (4, .int (i3 (x4)))]) hx hb dX3_cracksUnder_50 rfl hl (by decide) rfl (fun ls hl => ?_)
      obtain ⟨hg9, hf⟩ := gd_el hf
      refine k_iinc (lv' := [(4, .int (i3 (x4 + 1))), (3, .int (i3 (x3 + ((fG_sizeOf x3))))), (0, .ref (gA G (5 + k))), (2, .int (i3 (x2)))]) hx hb dX3_cracksUnder_51 hl (k := 3) rfl (by decide) rfl (fun ls hl => ?_)
      refine lv_goto (tgt := 7) hx hb dX3_cracksUnder_54 (by decide) ?_
      obtain rfl := some_el hf
      exact hK hg8 hg9 _ _ _ hW hS (lv_sub hl [2, 3, 1, 0] rfl)
    unfold fW_cracksUnder_l7 at hf
    refine lv_iload hx hb dX3_cracksUnder_7 (lv_at hl 3 rfl) ?_
    refine k_bipush hx hb dX3_cracksUnder_9 (by decide +kernel) ?_
    refine k_icmp_ge (tgt := 57) hx hb hz4 (show inR (32) by decide) dX3_cracksUnder_11 (by decide) (fun hc2 => ?_) (fun hc2 => ?_)
    · rw [if_neg hc2] at hf
      refine k_const hx hb dX3_cracksUnder_57 ?_
      obtain rfl := some_el hf
      obtain rfl : 0 = r := hK
      exact k_retz hx hb hr hlocks hW hS rfl (show (0 : Int) = 0 ∨ (0 : Int) = 1 by decide) dX3_cracksUnder_58
    · rw [if_pos hc2] at hf
      refine lv_iload_n hx hb dX3_cracksUnder_14 rfl (lv_at hl 2 rfl) ?_
      refine k_bipush hx hb dX3_cracksUnder_15 (by decide +kernel) ?_
      refine k_icmp_gt (tgt := 57) hx hb hz3 (show inR (32) by decide) dX3_cracksUnder_17 (by decide) (fun hc3 => ?_) (fun hc3 => ?_)
      · rw [if_pos hc3] at hf
        refine k_const hx hb dX3_cracksUnder_57 ?_
        obtain rfl := some_el hf
        obtain rfl : 0 = r := hK
        exact k_retz hx hb hr hlocks hW hS rfl (show (0 : Int) = 0 ∨ (0 : Int) = 1 by decide) dX3_cracksUnder_58
      · rw [if_neg hc3] at hf
        refine lv_aload_n hx hb dX3_cracksUnder_20 rfl (lv_at hl 0 rfl) ?_
        refine lv_iload_n hx hb dX3_cracksUnder_21 rfl (lv_at hl 2 rfl) ?_
        refine k_cVz (As := [.int (i3 (z.1))]) (rest := []) ⟨hx, hb, hml, hown, hts⟩ (mW_isCracked l G M0 (k) hk z.1 hz3 _ rfl) (cwV 1 hts (gbV (inB_6 _ (List.mem_of_getElem? (i := 19) rfl)) (inB_6 _ (List.mem_of_getElem? (i := 20) rfl)) (inB_6 _ (List.mem_of_getElem? (i := 21) rfl)) (inB_1 _ (List.mem_of_getElem? (i := 12) rfl)) (inB_6 _ (List.mem_of_getElem? (i := 22) rfl))) rfl rfl rfl (by decide +kernel) ⟨Nat.le_of_ble_eq_true rfl, Nat.le_of_ble_eq_true rfl⟩) (rv_wall hk hW) hW hS rfl hl.1 rfl (lv_room (Nat.le_of_ble_eq_true rfl)) dX3_cracksUnder_22 ⟨Nat.zero_le _, Nat.zero_le _⟩ (fun hv4 H locs hW hS => ?_)
        refine k_if_ne (tgt := 44) hx hb (inR_z hv4) dX3_cracksUnder_25 (by decide) (fun hc5 => ?_) (fun hc5 => ?_)
        · rw [if_neg hc5] at hf
          exact J6 (z.1) (z.2) hf hz3 hz4 _ _ _ hW hS (lv_sub hl [0, 1, 2, 3] rfl)
        · rw [if_pos hc5] at hf
          refine lv_aload_n hx hb dX3_cracksUnder_28 rfl (lv_at hl 0 rfl) ?_
          refine lv_iload_n hx hb dX3_cracksUnder_29 rfl (lv_at hl 2 rfl) ?_
          refine k_cVi (As := [.int (i3 (z.1))]) (rest := []) ⟨hx, hb, hml, hown, hts⟩ (mW_sumOf l G M0 (k) hk z.1 hz3 _ rfl) (cwV 1 hts (gbV (inB_6 _ (List.mem_of_getElem? (i := 23) rfl)) (inB_7 _ (List.mem_of_getElem? (i := 0) rfl)) (inB_7 _ (List.mem_of_getElem? (i := 1) rfl)) (inB_1 _ (List.mem_of_getElem? (i := 12) rfl)) (inB_7 _ (List.mem_of_getElem? (i := 2) rfl))) rfl rfl rfl (by decide +kernel) ⟨Nat.le_of_ble_eq_true rfl, Nat.le_of_ble_eq_true rfl⟩) (rv_wall hk hW) hW hS rfl hl.1 rfl (lv_room (Nat.le_of_ble_eq_true rfl)) dX3_cracksUnder_30 ⟨Nat.zero_le _, Nat.zero_le _⟩ (fun hv10 H locs hW hS => ?_)
          refine lv_iload_n hx hb dX3_cracksUnder_33 rfl (lv_at hl 1 rfl) ?_
          refine k_add hx hb dX3_cracksUnder_34 ?_
          refine lv_iload_n hx hb dX3_cracksUnder_35 rfl (lv_at hl 2 rfl) ?_
          obtain ⟨q11, hq11, hf⟩ := bind_el hf
          refine k_cNi (As := [.int (i3 (z.1))]) (rest := [.int (i3 (((fW_sumOf M0 (k) z.1)) + x2))]) ⟨hx, hb, hml, hown, hts⟩ (mG_loadOf l G M0 z.1 hz3 q11 hq11) ⟨va_cnB 1 hts (gbC (inB_7 _ (List.mem_of_getElem? (i := 4) rfl))) rfl rfl rfl (hW.N _ (List.mem_of_getElem? (i := 4) rfl)) (hts _ (List.mem_cons_of_mem _ (inB_1 _ (List.mem_of_getElem? (i := 2) rfl)))) (by decide +kernel) ⟨Nat.le_of_ble_eq_true rfl, Nat.le_of_ble_eq_true rfl⟩, (hts _ (List.mem_cons_of_mem _ (inB_7 _ (List.mem_of_getElem? (i := 3) rfl)))), trivial⟩ hW hS rfl hl.1 rfl (lv_room (Nat.le_of_ble_eq_true rfl)) dX3_cracksUnder_36 ⟨Nat.zero_le _, Nat.zero_le _⟩ (fun hv12 H locs hW hS => ?_)
          obtain ⟨hg13, hf⟩ := gd_el hf
          refine k_icmp_le (tgt := 44) hx hb hg13 hv12 dX3_cracksUnder_39 (by decide) (fun hc14 => ?_) (fun hc14 => ?_)
          · rw [if_neg hc14] at hf
            exact J6 (z.1) (z.2) hf hz3 hz4 _ _ _ hW hS (lv_sub hl [0, 1, 2, 3] rfl)
          · rw [if_pos hc14] at hf
            refine k_const hx hb dX3_cracksUnder_42 ?_
            obtain rfl := some_el hf
            obtain rfl : 1 = r := hK
            exact k_retz hx hb hr hlocks hW hS rfl (show (1 : Int) = 0 ∨ (1 : Int) = 1 by decide) dX3_cracksUnder_43
  refine lv_iload_n hx hb dX3_cracksUnder_0 rfl (lv_at hl 1 rfl) ?_
  refine k_const hx hb dX3_cracksUnder_1 ?_
  refine k_add hx hb dX3_cracksUnder_2 ?_
  obtain ⟨hg1, hf⟩ := gd_el hf
  refine lv_istore_n (lv' := [(3, .int (i3 (x1 + 1))), (0, .ref (gA G (5 + k))), (1, .int (i3 (x1))), (2, .int (i3 (x2)))]) hx hb dX3_cracksUnder_3 rfl hl (by decide) rfl (fun ls hl => ?_)
  refine k_const hx hb dX3_cracksUnder_4 ?_
  refine lv_istore (lv' := [(4, .int (i3 (0))), (3, .int (i3 (x1 + 1))), (0, .ref (gA G (5 + k))), (1, .int (i3 (x1))), (2, .int (i3 (x2)))]) hx hb dX3_cracksUnder_5 hl (by decide) rfl (fun ls hl => ?_)
  exact L15 (x2) hx2 (x1 + 1, 0) r hf rfl hg1 (show inR (0) by decide) _ _ _ hW hS (lv_sub hl [2, 4, 1, 0] rfl)
end
