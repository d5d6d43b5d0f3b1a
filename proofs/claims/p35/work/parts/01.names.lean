-- ===== PART A: goes FIRST, ahead of the names: the tables' words, and 'selects' of the private methods out of them =====
/-- a private method of a class that the tables say can be made, by its rows of tables_1 -/
def lw_okq (q : MethodName × Nat) : Prop := (q.1.cls ≠ "java/lang/invoke/MethodHandle" ∧ q.1.cls ≠ "java/lang/invoke/VarHandle") ∧ Cond.instantiable q.1.cls q.2 ∈ tables_1 ∧ Cond.privateMethod q.1 ∈ tables_1 ∧ Cond.instanceMethod q.1 ∈ tables_1
theorem lw_p0 : lw_okq (⟨"GranaryLadder", "storeSacks", "(III)I"⟩, 10) := ⟨⟨by decide +kernel, by decide +kernel⟩, List.mem_of_getElem? (i := 13) (by decide +kernel), List.mem_of_getElem? (i := 146) (by decide +kernel), List.mem_of_getElem? (i := 147) (by decide +kernel)⟩
theorem lw_p1 : lw_okq (⟨"GranaryLadder", "hasRoom", "(III)Z"⟩, 10) := ⟨⟨by decide +kernel, by decide +kernel⟩, List.mem_of_getElem? (i := 13) (by decide +kernel), List.mem_of_getElem? (i := 159) (by decide +kernel), List.mem_of_getElem? (i := 160) (by decide +kernel)⟩
theorem lw_p2 : lw_okq (⟨"GranaryLadder", "refuseRoom", "(III)I"⟩, 10) := ⟨⟨by decide +kernel, by decide +kernel⟩, List.mem_of_getElem? (i := 13) (by decide +kernel), List.mem_of_getElem? (i := 178) (by decide +kernel), List.mem_of_getElem? (i := 179) (by decide +kernel)⟩
theorem lw_p3 : lw_okq (⟨"GranaryLadder", "refuse", "(II)I"⟩, 10) := ⟨⟨by decide +kernel, by decide +kernel⟩, List.mem_of_getElem? (i := 13) (by decide +kernel), List.mem_of_getElem? (i := 182) (by decide +kernel), List.mem_of_getElem? (i := 183) (by decide +kernel)⟩
theorem lw_p4 : lw_okq (⟨"GranaryLadder$Wall", "changeSacks", "(II)V"⟩, 6) := ⟨⟨by decide +kernel, by decide +kernel⟩, List.mem_of_getElem? (i := 21) (by decide +kernel), List.mem_of_getElem? (i := 201) (by decide +kernel), List.mem_of_getElem? (i := 202) (by decide +kernel)⟩
theorem lw_p5 : lw_okq (⟨"GranaryLadder$Wall", "crackOver", "(I)I"⟩, 6) := ⟨⟨by decide +kernel, by decide +kernel⟩, List.mem_of_getElem? (i := 21) (by decide +kernel), List.mem_of_getElem? (i := 208) (by decide +kernel), List.mem_of_getElem? (i := 209) (by decide +kernel)⟩
theorem lw_p6 : lw_okq (⟨"GranaryLadder", "remember", "(I)I"⟩, 10) := ⟨⟨by decide +kernel, by decide +kernel⟩, List.mem_of_getElem? (i := 13) (by decide +kernel), List.mem_of_getElem? (i := 225) (by decide +kernel), List.mem_of_getElem? (i := 226) (by decide +kernel)⟩
theorem lw_p7 : lw_okq (⟨"GranaryLadder", "moveSacks", "(III)I"⟩, 10) := ⟨⟨by decide +kernel, by decide +kernel⟩, List.mem_of_getElem? (i := 13) (by decide +kernel), List.mem_of_getElem? (i := 241) (by decide +kernel), List.mem_of_getElem? (i := 242) (by decide +kernel)⟩
theorem lw_p8 : lw_okq (⟨"GranaryLadder", "hasSacks", "(II)Z"⟩, 10) := ⟨⟨by decide +kernel, by decide +kernel⟩, List.mem_of_getElem? (i := 13) (by decide +kernel), List.mem_of_getElem? (i := 245) (by decide +kernel), List.mem_of_getElem? (i := 246) (by decide +kernel)⟩
theorem lw_p9 : lw_okq (⟨"GranaryLadder", "refuseSacks", "(I)I"⟩, 10) := ⟨⟨by decide +kernel, by decide +kernel⟩, List.mem_of_getElem? (i := 13) (by decide +kernel), List.mem_of_getElem? (i := 249) (by decide +kernel), List.mem_of_getElem? (i := 250) (by decide +kernel)⟩
theorem lw_p10 : lw_okq (⟨"GranaryLadder", "mend", "(I)I"⟩, 10) := ⟨⟨by decide +kernel, by decide +kernel⟩, List.mem_of_getElem? (i := 13) (by decide +kernel), List.mem_of_getElem? (i := 265) (by decide +kernel), List.mem_of_getElem? (i := 266) (by decide +kernel)⟩
theorem lw_p11 : lw_okq (⟨"GranaryLadder", "letWeeksPass", "(I)I"⟩, 10) := ⟨⟨by decide +kernel, by decide +kernel⟩, List.mem_of_getElem? (i := 13) (by decide +kernel), List.mem_of_getElem? (i := 287) (by decide +kernel), List.mem_of_getElem? (i := 288) (by decide +kernel)⟩
theorem lw_p12 : lw_okq (⟨"GranaryLadder$CommandText", "readCommand", "()Z"⟩, 6) := ⟨⟨by decide +kernel, by decide +kernel⟩, List.mem_of_getElem? (i := 66) (by decide +kernel), List.mem_of_getElem? (i := 313) (by decide +kernel), List.mem_of_getElem? (i := 314) (by decide +kernel)⟩
theorem lw_p13 : lw_okq (⟨"GranaryLadder$CommandText", "nextCode", "()I"⟩, 6) := ⟨⟨by decide +kernel, by decide +kernel⟩, List.mem_of_getElem? (i := 66) (by decide +kernel), List.mem_of_getElem? (i := 331) (by decide +kernel), List.mem_of_getElem? (i := 332) (by decide +kernel)⟩
theorem lw_p14 : lw_okq (⟨"GranaryLadder$CommandText", "addCell", "(I)V"⟩, 6) := ⟨⟨by decide +kernel, by decide +kernel⟩, List.mem_of_getElem? (i := 66) (by decide +kernel), List.mem_of_getElem? (i := 376) (by decide +kernel), List.mem_of_getElem? (i := 377) (by decide +kernel)⟩
theorem lw_p15 : lw_okq (⟨"GranaryLadder$CommandText", "readAlong", "(Ljava/lang/String;)Z"⟩, 6) := ⟨⟨by decide +kernel, by decide +kernel⟩, List.mem_of_getElem? (i := 66) (by decide +kernel), List.mem_of_getElem? (i := 381) (by decide +kernel), List.mem_of_getElem? (i := 382) (by decide +kernel)⟩
def lw_privs_1 : List (MethodName × Nat) := [(⟨"GranaryLadder", "storeSacks", "(III)I"⟩, 10), (⟨"GranaryLadder", "hasRoom", "(III)Z"⟩, 10), (⟨"GranaryLadder", "refuseRoom", "(III)I"⟩, 10), (⟨"GranaryLadder", "refuse", "(II)I"⟩, 10), (⟨"GranaryLadder$Wall", "changeSacks", "(II)V"⟩, 6), (⟨"GranaryLadder$Wall", "crackOver", "(I)I"⟩, 6), (⟨"GranaryLadder", "remember", "(I)I"⟩, 10), (⟨"GranaryLadder", "moveSacks", "(III)I"⟩, 10), (⟨"GranaryLadder", "hasSacks", "(II)Z"⟩, 10), (⟨"GranaryLadder", "refuseSacks", "(I)I"⟩, 10), (⟨"GranaryLadder", "mend", "(I)I"⟩, 10), (⟨"GranaryLadder", "letWeeksPass", "(I)I"⟩, 10), (⟨"GranaryLadder$CommandText", "readCommand", "()Z"⟩, 6), (⟨"GranaryLadder$CommandText", "nextCode", "()I"⟩, 6), (⟨"GranaryLadder$CommandText", "addCell", "(I)V"⟩, 6), (⟨"GranaryLadder$CommandText", "readAlong", "(Ljava/lang/String;)Z"⟩, 6)]
theorem lw_r1 : ∀ q ∈ lw_privs_1, lw_okq q := List.forall_mem_cons.mpr ⟨lw_p0, List.forall_mem_cons.mpr ⟨lw_p1, List.forall_mem_cons.mpr ⟨lw_p2, List.forall_mem_cons.mpr ⟨lw_p3, List.forall_mem_cons.mpr ⟨lw_p4, List.forall_mem_cons.mpr ⟨lw_p5, List.forall_mem_cons.mpr ⟨lw_p6, List.forall_mem_cons.mpr ⟨lw_p7, List.forall_mem_cons.mpr ⟨lw_p8, List.forall_mem_cons.mpr ⟨lw_p9, List.forall_mem_cons.mpr ⟨lw_p10, List.forall_mem_cons.mpr ⟨lw_p11, List.forall_mem_cons.mpr ⟨lw_p12, List.forall_mem_cons.mpr ⟨lw_p13, List.forall_mem_cons.mpr ⟨lw_p14, List.forall_mem_cons.mpr ⟨lw_p15, fun _ h => absurd h List.not_mem_nil⟩⟩⟩⟩⟩⟩⟩⟩⟩⟩⟩⟩⟩⟩⟩⟩
theorem lw_p16 : lw_okq (⟨"GranaryLadder$CommandText", "readNumber", "(I)Z"⟩, 6) := ⟨⟨by decide +kernel, by decide +kernel⟩, List.mem_of_getElem? (i := 66) (by decide +kernel), List.mem_of_getElem? (i := 393) (by decide +kernel), List.mem_of_getElem? (i := 394) (by decide +kernel)⟩
theorem lw_p17 : lw_okq (⟨"GranaryLadder$CommandText", "readKind", "()Z"⟩, 6) := ⟨⟨by decide +kernel, by decide +kernel⟩, List.mem_of_getElem? (i := 66) (by decide +kernel), List.mem_of_getElem? (i := 398) (by decide +kernel), List.mem_of_getElem? (i := 399) (by decide +kernel)⟩
theorem lw_p18 : lw_okq (⟨"GranaryLadder$CommandText", "readCode", "(I)Z"⟩, 6) := ⟨⟨by decide +kernel, by decide +kernel⟩, List.mem_of_getElem? (i := 66) (by decide +kernel), List.mem_of_getElem? (i := 404) (by decide +kernel), List.mem_of_getElem? (i := 405) (by decide +kernel)⟩
theorem lw_p19 : lw_okq (⟨"GranaryLadder", "carryOut", "(I)I"⟩, 10) := ⟨⟨by decide +kernel, by decide +kernel⟩, List.mem_of_getElem? (i := 13) (by decide +kernel), List.mem_of_getElem? (i := 420) (by decide +kernel), List.mem_of_getElem? (i := 421) (by decide +kernel)⟩
theorem lw_p20 : lw_okq (⟨"GranaryLadder", "takeSacks", "(II)I"⟩, 10) := ⟨⟨by decide +kernel, by decide +kernel⟩, List.mem_of_getElem? (i := 13) (by decide +kernel), List.mem_of_getElem? (i := 432) (by decide +kernel), List.mem_of_getElem? (i := 433) (by decide +kernel)⟩
theorem lw_p21 : lw_okq (⟨"GranaryLadder", "fillOrder", "(II)I"⟩, 10) := ⟨⟨by decide +kernel, by decide +kernel⟩, List.mem_of_getElem? (i := 13) (by decide +kernel), List.mem_of_getElem? (i := 436) (by decide +kernel), List.mem_of_getElem? (i := 437) (by decide +kernel)⟩
theorem lw_p22 : lw_okq (⟨"GranaryLadder$Wall", "isAhead", "(II)Z"⟩, 6) := ⟨⟨by decide +kernel, by decide +kernel⟩, List.mem_of_getElem? (i := 21) (by decide +kernel), List.mem_of_getElem? (i := 579) (by decide +kernel), List.mem_of_getElem? (i := 580) (by decide +kernel)⟩
theorem lw_p23 : lw_okq (⟨"GranaryLadder", "stepsByKnown", "(I)I"⟩, 10) := ⟨⟨by decide +kernel, by decide +kernel⟩, List.mem_of_getElem? (i := 13) (by decide +kernel), List.mem_of_getElem? (i := 642) (by decide +kernel), List.mem_of_getElem? (i := 643) (by decide +kernel)⟩
theorem lw_p24 : lw_okq (⟨"GranaryLadder", "knownSteps", "(II)I"⟩, 10) := ⟨⟨by decide +kernel, by decide +kernel⟩, List.mem_of_getElem? (i := 13) (by decide +kernel), List.mem_of_getElem? (i := 646) (by decide +kernel), List.mem_of_getElem? (i := 647) (by decide +kernel)⟩
def lw_privs_2 : List (MethodName × Nat) := [(⟨"GranaryLadder$CommandText", "readNumber", "(I)Z"⟩, 6), (⟨"GranaryLadder$CommandText", "readKind", "()Z"⟩, 6), (⟨"GranaryLadder$CommandText", "readCode", "(I)Z"⟩, 6), (⟨"GranaryLadder", "carryOut", "(I)I"⟩, 10), (⟨"GranaryLadder", "takeSacks", "(II)I"⟩, 10), (⟨"GranaryLadder", "fillOrder", "(II)I"⟩, 10), (⟨"GranaryLadder$Wall", "isAhead", "(II)Z"⟩, 6), (⟨"GranaryLadder", "stepsByKnown", "(I)I"⟩, 10), (⟨"GranaryLadder", "knownSteps", "(II)I"⟩, 10)]
theorem lw_r2 : ∀ q ∈ lw_privs_2, lw_okq q := List.forall_mem_cons.mpr ⟨lw_p16, List.forall_mem_cons.mpr ⟨lw_p17, List.forall_mem_cons.mpr ⟨lw_p18, List.forall_mem_cons.mpr ⟨lw_p19, List.forall_mem_cons.mpr ⟨lw_p20, List.forall_mem_cons.mpr ⟨lw_p21, List.forall_mem_cons.mpr ⟨lw_p22, List.forall_mem_cons.mpr ⟨lw_p23, List.forall_mem_cons.mpr ⟨lw_p24, fun _ h => absurd h List.not_mem_nil⟩⟩⟩⟩⟩⟩⟩⟩⟩
def lw_privs : List (MethodName × Nat) := lw_privs_1 ++ (lw_privs_2)
def lw_tbl : List Cond := k2_sels lw_privs ++ tables_1
theorem lw_privs_ok : ∀ q ∈ lw_privs, lw_okq q := by
  show ∀ q ∈ lw_privs_1 ++ (lw_privs_2), lw_okq q
  exact List.forall_mem_append.mpr ⟨lw_r1, lw_r2⟩
/-- the streams that the claim lets the run draw from -/
abbrev lw_cs : List Choice := [Jvm.Choice.named "NaN.bits"]
theorem lw_bits : nanBits ∈ lw_cs := by first | decide | exact List.mem_cons_self | simp [lw_cs, nanBits]
/-! ===== BEGIN words of one list among another's, by their places ===== -/
theorem goodIn_r {big : List Cond} (ws : List Cond) (ps : List Nat) (hp : ws = ps.filterMap (fun i => big[i]?)) (h : ws.all goodWord = true) : GoodIn big ws := by
  intro w hw
  have h1 := List.all_eq_true.mp h w hw
  rw [hp] at hw
  obtain ⟨i, -, hi⟩ := List.mem_filterMap.mp hw
  have hm : w ∈ big := by first | exact List.mem_of_getElem? hi | exact List.getElem?_mem hi
  exact ⟨hm, good_of_word h1⟩
theorem goodIn_app {big a b : List Cond} (ha : GoodIn big a) (hb : GoodIn big b) : GoodIn big (a ++ b) := fun w h => (List.mem_append.mp h).elim (ha w) (hb w)
theorem goodIn_ca {big a b : List Cond} {c : Cond} (ha : GoodIn big (c :: a)) (hb : GoodIn big b) : GoodIn big (c :: (a ++ b)) := fun w h => (List.mem_cons.mp h).elim (fun e => ha w (List.mem_cons.mpr (Or.inl e))) (fun h => (List.mem_append.mp h).elim (fun h => ha w (List.mem_cons.mpr (Or.inr h))) (hb w))
theorem goodIn_sub {big ws : List Cond} (hm : ∀ w ∈ ws, w ∈ big) (h : ws.all goodWord = true) : GoodIn big ws := fun w hw => ⟨hm w hw, good_of_word (List.all_eq_true.mp h w hw)⟩
/-! ===== END ===== -/

/-! ===== BEGIN printed: names, fields, word lists, decode rows ===== -/
def RX0 : String := "GranaryLadder$CommandText"
def TX0 : u_T := fun k => match k with
  | 0 => ("GranaryLadder$CommandText", "codes", "[I", true)
  | 1 => ("GranaryLadder$CommandText", "length", "I", false)
  | 2 => ("GranaryLadder$CommandText", "cells", "[I", true)
  | 3 => ("GranaryLadder$CommandText", "commands", "I", false)
  | 4 => ("GranaryLadder$CommandText", "nextCell", "I", false)
  | _ => ("GranaryLadder$CommandText", "place", "I", false)
def tyX0 : Nat → FieldType := fun k => match k with
  | 0 => .array .int
  | 1 => .int
  | 2 => .array .int
  | 3 => .int
  | 4 => .int
  | _ => .int
abbrev wsX00 : List Cond := u_ws RX0 TX0 6
theorem nmX0 : ∀ a, a < 6 → ∀ b, b < 6 → a ≠ b → (TX0 a).2.1 ≠ (TX0 b).2.1 := by decide +kernel
theorem tyX0_ok : ∀ k, k < 6 → parseFieldDescriptor (TX0 k).2.2.1 = some (tyX0 k) := by decide +kernel
abbrev cX0_init : ByteArray := prog_2_method_1_code
def yX0_init : MethodName := ⟨RX0, "<init>", "()V"⟩
abbrev cX0_size : ByteArray := prog_2_method_2_code
def yX0_size : MethodName := ⟨RX0, "size", "()I"⟩
abbrev cX0_addCode : ByteArray := prog_2_method_3_code
def yX0_addCode : MethodName := ⟨RX0, "addCode", "(I)I"⟩
abbrev cX0_becomeEmpty : ByteArray := prog_2_method_4_code
def yX0_becomeEmpty : MethodName := ⟨RX0, "becomeEmpty", "()V"⟩
abbrev cX0_faultPosition : ByteArray := prog_2_method_5_code
def yX0_faultPosition : MethodName := ⟨RX0, "faultPosition", "()I"⟩
abbrev cX0_commandCount : ByteArray := prog_2_method_6_code
def yX0_commandCount : MethodName := ⟨RX0, "commandCount", "()I"⟩
abbrev cX0_verb : ByteArray := prog_2_method_7_code
def yX0_verb : MethodName := ⟨RX0, "verb", "(I)I"⟩
abbrev cX0_argument : ByteArray := prog_2_method_8_code
def yX0_argument : MethodName := ⟨RX0, "argument", "(II)I"⟩
abbrev cX0_readCommands : ByteArray := prog_2_method_9_code
def yX0_readCommands : MethodName := ⟨RX0, "readCommands", "()Z"⟩
abbrev cX0_readCommand : ByteArray := prog_2_method_10_code
def yX0_readCommand : MethodName := ⟨RX0, "readCommand", "()Z"⟩
abbrev cX0_patternOf : ByteArray := prog_2_method_11_code
def yX0_patternOf : MethodName := ⟨RX0, "patternOf", "(I)Ljava/lang/String;"⟩
abbrev cX0_readAlong : ByteArray := prog_2_method_12_code
def yX0_readAlong : MethodName := ⟨RX0, "readAlong", "(Ljava/lang/String;)Z"⟩
abbrev cX0_readNumber : ByteArray := prog_2_method_13_code
def yX0_readNumber : MethodName := ⟨RX0, "readNumber", "(I)Z"⟩
abbrev cX0_readKind : ByteArray := prog_2_method_14_code
def yX0_readKind : MethodName := ⟨RX0, "readKind", "()Z"⟩
abbrev cX0_readCode : ByteArray := prog_2_method_15_code
def yX0_readCode : MethodName := ⟨RX0, "readCode", "(I)Z"⟩
abbrev cX0_nextCode : ByteArray := prog_2_method_16_code
def yX0_nextCode : MethodName := ⟨RX0, "nextCode", "()I"⟩
abbrev cX0_addCell : ByteArray := prog_2_method_17_code
def yX0_addCell : MethodName := ⟨RX0, "addCell", "(I)V"⟩
def RX1 : String := "GranaryLadder$Line"
def TX1 : u_T := fun k => match k with
  | 0 => ("GranaryLadder$Line", "codes", "[I", true)
  | _ => ("GranaryLadder$Line", "length", "I", false)
def tyX1 : Nat → FieldType := fun k => match k with
  | 0 => .array .int
  | _ => .int
abbrev wsX10 : List Cond := u_ws RX1 TX1 2
theorem nmX1 : ∀ a, a < 2 → ∀ b, b < 2 → a ≠ b → (TX1 a).2.1 ≠ (TX1 b).2.1 := by decide +kernel
theorem tyX1_ok : ∀ k, k < 2 → parseFieldDescriptor (TX1 k).2.2.1 = some (tyX1 k) := by decide +kernel
abbrev cX1_init : ByteArray := prog_3_method_1_code
def yX1_init : MethodName := ⟨RX1, "<init>", "()V"⟩
abbrev cX1_size : ByteArray := prog_3_method_2_code
def yX1_size : MethodName := ⟨RX1, "size", "()I"⟩
abbrev cX1_becomeEmpty : ByteArray := prog_3_method_3_code
def yX1_becomeEmpty : MethodName := ⟨RX1, "becomeEmpty", "()V"⟩
abbrev cX1_addCode : ByteArray := prog_3_method_4_code
def yX1_addCode : MethodName := ⟨RX1, "addCode", "(I)V"⟩
abbrev cX1_addNumber : ByteArray := prog_3_method_5_code
def yX1_addNumber : MethodName := ⟨RX1, "addNumber", "(I)V"⟩
abbrev cX1_codeAt : ByteArray := prog_3_method_6_code
def yX1_codeAt : MethodName := ⟨RX1, "codeAt", "(I)I"⟩
def RX2 : String := "GranaryLadder$Past"
def TX2 : u_T := fun k => match k with
  | 0 => ("GranaryLadder$Past", "walls", "[LGranaryLadder$Wall;", true)
  | 1 => ("GranaryLadder$Past", "next", "I", false)
  | _ => ("GranaryLadder$Past", "kept", "I", false)
def tyX2 : Nat → FieldType := fun k => match k with
  | 0 => .array (.object "GranaryLadder$Wall")
  | 1 => .int
  | _ => .int
abbrev wsX20 : List Cond := u_ws RX2 TX2 3
theorem nmX2 : ∀ a, a < 3 → ∀ b, b < 3 → a ≠ b → (TX2 a).2.1 ≠ (TX2 b).2.1 := by decide +kernel
theorem tyX2_ok : ∀ k, k < 3 → parseFieldDescriptor (TX2 k).2.2.1 = some (tyX2 k) := by decide +kernel
abbrev cX2_init : ByteArray := prog_4_method_1_code
def yX2_init : MethodName := ⟨RX2, "<init>", "()V"⟩
abbrev cX2_size : ByteArray := prog_4_method_2_code
def yX2_size : MethodName := ⟨RX2, "size", "()I"⟩
abbrev cX2_keep : ByteArray := prog_4_method_3_code
def yX2_keep : MethodName := ⟨RX2, "keep", "(LGranaryLadder$Wall;)V"⟩
abbrev cX2_giveBack : ByteArray := prog_4_method_4_code
def yX2_giveBack : MethodName := ⟨RX2, "giveBack", "(LGranaryLadder$Wall;)V"⟩
abbrev cX2_forget : ByteArray := prog_4_method_5_code
def yX2_forget : MethodName := ⟨RX2, "forget", "()V"⟩
def RX3 : String := "GranaryLadder$Wall"
def TX3 : u_T := fun k => match k with
  | 0 => ("GranaryLadder$Wall", "kinds", "[I", true)
  | 1 => ("GranaryLadder$Wall", "sacks", "[I", true)
  | 2 => ("GranaryLadder$Wall", "ages", "[I", true)
  | 3 => ("GranaryLadder$Wall", "sums", "[I", true)
  | 4 => ("GranaryLadder$Wall", "cracks", "[I", true)
  | _ => ("GranaryLadder$Wall", "counters", "[I", true)
def tyX3 : Nat → FieldType := fun k => match k with
  | 0 => .array .int
  | 1 => .array .int
  | 2 => .array .int
  | 3 => .array .int
  | 4 => .array .int
  | _ => .array .int
abbrev wsX30 : List Cond := u_ws RX3 TX3 6
theorem nmX3 : ∀ a, a < 6 → ∀ b, b < 6 → a ≠ b → (TX3 a).2.1 ≠ (TX3 b).2.1 := by decide +kernel
theorem tyX3_ok : ∀ k, k < 6 → parseFieldDescriptor (TX3 k).2.2.1 = some (tyX3 k) := by decide +kernel
abbrev cX3_init : ByteArray := prog_5_method_1_code
def yX3_init : MethodName := ⟨RX3, "<init>", "()V"⟩
abbrev cX3_copyFrom : ByteArray := prog_5_method_2_code
def yX3_copyFrom : MethodName := ⟨RX3, "copyFrom", "(LGranaryLadder$Wall;)V"⟩
abbrev cX3_isEmpty : ByteArray := prog_5_method_3_code
def yX3_isEmpty : MethodName := ⟨RX3, "isEmpty", "(I)Z"⟩
abbrev cX3_kindIn : ByteArray := prog_5_method_4_code
def yX3_kindIn : MethodName := ⟨RX3, "kindIn", "(I)I"⟩
abbrev cX3_sacksIn : ByteArray := prog_5_method_5_code
def yX3_sacksIn : MethodName := ⟨RX3, "sacksIn", "(I)I"⟩
abbrev cX3_ageIn : ByteArray := prog_5_method_6_code
def yX3_ageIn : MethodName := ⟨RX3, "ageIn", "(I)I"⟩
abbrev cX3_sumOf : ByteArray := prog_5_method_7_code
def yX3_sumOf : MethodName := ⟨RX3, "sumOf", "(I)I"⟩
abbrev cX3_isCracked : ByteArray := prog_5_method_8_code
def yX3_isCracked : MethodName := ⟨RX3, "isCracked", "(I)Z"⟩
abbrev cX3_makeSound : ByteArray := prog_5_method_9_code
def yX3_makeSound : MethodName := ⟨RX3, "makeSound", "(I)V"⟩
abbrev cX3_counted : ByteArray := prog_5_method_10_code
def yX3_counted : MethodName := ⟨RX3, "counted", "(I)I"⟩
abbrev cX3_count : ByteArray := prog_5_method_11_code
def yX3_count : MethodName := ⟨RX3, "count", "(II)V"⟩
abbrev cX3_bring : ByteArray := prog_5_method_12_code
def yX3_bring : MethodName := ⟨RX3, "bring", "(IIII)I"⟩
abbrev cX3_remove : ByteArray := prog_5_method_13_code
def yX3_remove : MethodName := ⟨RX3, "remove", "(II)V"⟩
abbrev cX3_changeSacks : ByteArray := prog_5_method_14_code
def yX3_changeSacks : MethodName := ⟨RX3, "changeSacks", "(II)V"⟩
abbrev cX3_crackOver : ByteArray := prog_5_method_15_code
def yX3_crackOver : MethodName := ⟨RX3, "crackOver", "(I)I"⟩
abbrev cX3_cracksUnder : ByteArray := prog_5_method_16_code
def yX3_cracksUnder : MethodName := ⟨RX3, "cracksUnder", "(II)Z"⟩
abbrev cX3_rungsOver : ByteArray := prog_5_method_17_code
def yX3_rungsOver : MethodName := ⟨RX3, "rungsOver", "(I)I"⟩
abbrev cX3_crackedOver : ByteArray := prog_5_method_18_code
def yX3_crackedOver : MethodName := ⟨RX3, "crackedOver", "(I)I"⟩
abbrev cX3_sumByClimbing : ByteArray := prog_5_method_19_code
def yX3_sumByClimbing : MethodName := ⟨RX3, "sumByClimbing", "(I)I"⟩
abbrev cX3_sumByBays : ByteArray := prog_5_method_20_code
def yX3_sumByBays : MethodName := ⟨RX3, "sumByBays", "(II)I"⟩
abbrev cX3_allSacks : ByteArray := prog_5_method_21_code
def yX3_allSacks : MethodName := ⟨RX3, "allSacks", "()I"⟩
abbrev cX3_sacksOfKind : ByteArray := prog_5_method_22_code
def yX3_sacksOfKind : MethodName := ⟨RX3, "sacksOfKind", "(I)I"⟩
abbrev cX3_sacksAsOldAs : ByteArray := prog_5_method_23_code
def yX3_sacksAsOldAs : MethodName := ⟨RX3, "sacksAsOldAs", "(I)I"⟩
abbrev cX3_filledBays : ByteArray := prog_5_method_24_code
def yX3_filledBays : MethodName := ⟨RX3, "filledBays", "()I"⟩
abbrev cX3_crackedRungs : ByteArray := prog_5_method_25_code
def yX3_crackedRungs : MethodName := ⟨RX3, "crackedRungs", "()I"⟩
abbrev cX3_placeOf : ByteArray := prog_5_method_26_code
def yX3_placeOf : MethodName := ⟨RX3, "placeOf", "(I)I"⟩
abbrev cX3_isAhead : ByteArray := prog_5_method_27_code
def yX3_isAhead : MethodName := ⟨RX3, "isAhead", "(II)Z"⟩
abbrev cX3_oldestOfKind : ByteArray := prog_5_method_28_code
def yX3_oldestOfKind : MethodName := ⟨RX3, "oldestOfKind", "(I)I"⟩
abbrev cX3_spoilingAt : ByteArray := prog_5_method_29_code
def yX3_spoilingAt : MethodName := ⟨RX3, "spoilingAt", "(II)I"⟩
abbrev cX3_growOlder : ByteArray := prog_5_method_30_code
def yX3_growOlder : MethodName := ⟨RX3, "growOlder", "()I"⟩
def RX4 : String := "GranaryLadder"
def TX4 : u_T := fun k => match k with
  | 0 => ("GranaryLadder", "now", "LGranaryLadder$Wall;", true)
  | 1 => ("GranaryLadder", "before", "LGranaryLadder$Wall;", true)
  | 2 => ("GranaryLadder", "snapshot", "LGranaryLadder$Wall;", true)
  | 3 => ("GranaryLadder", "hasSnapshot", "Z", false)
  | 4 => ("GranaryLadder", "past", "LGranaryLadder$Past;", true)
  | 5 => ("GranaryLadder", "text", "LGranaryLadder$CommandText;", true)
  | 6 => ("GranaryLadder", "line", "LGranaryLadder$Line;", true)
  | 7 => ("GranaryLadder", "latestReason", "I", false)
  | 8 => ("GranaryLadder", "latestDetail", "I", false)
  | _ => ("GranaryLadder", "stepsOfRungs", "[I", true)
def tyX4 : Nat → FieldType := fun k => match k with
  | 0 => .object "GranaryLadder$Wall"
  | 1 => .object "GranaryLadder$Wall"
  | 2 => .object "GranaryLadder$Wall"
  | 3 => .boolean
  | 4 => .object "GranaryLadder$Past"
  | 5 => .object "GranaryLadder$CommandText"
  | 6 => .object "GranaryLadder$Line"
  | 7 => .int
  | 8 => .int
  | _ => .array .int
abbrev wsX40 : List Cond := u_ws RX4 TX4 10
theorem nmX4 : ∀ a, a < 10 → ∀ b, b < 10 → a ≠ b → (TX4 a).2.1 ≠ (TX4 b).2.1 := by decide +kernel
theorem tyX4_ok : ∀ k, k < 10 → parseFieldDescriptor (TX4 k).2.2.1 = some (tyX4 k) := by decide +kernel
abbrev cX4_init : ByteArray := prog_1_method_1_code
def yX4_init : MethodName := ⟨RX4, "<init>", "()V"⟩
abbrev cX4_store : ByteArray := prog_1_method_2_code
def yX4_store : MethodName := ⟨RX4, "store", "(III)I"⟩
abbrev cX4_take : ByteArray := prog_1_method_3_code
def yX4_take : MethodName := ⟨RX4, "take", "(II)I"⟩
abbrev cX4_move : ByteArray := prog_1_method_4_code
def yX4_move : MethodName := ⟨RX4, "move", "(III)I"⟩
abbrev cX4_order : ByteArray := prog_1_method_5_code
def yX4_order : MethodName := ⟨RX4, "order", "(II)I"⟩
abbrev cX4_fix : ByteArray := prog_1_method_6_code
def yX4_fix : MethodName := ⟨RX4, "fix", "(I)I"⟩
abbrev cX4_pass : ByteArray := prog_1_method_7_code
def yX4_pass : MethodName := ⟨RX4, "pass", "(I)I"⟩
abbrev cX4_bayOf : ByteArray := prog_1_method_8_code
def yX4_bayOf : MethodName := ⟨RX4, "bayOf", "(II)I"⟩
abbrev cX4_rungOf : ByteArray := prog_1_method_9_code
def yX4_rungOf : MethodName := ⟨RX4, "rungOf", "(II)I"⟩
abbrev cX4_sum : ByteArray := prog_1_method_10_code
def yX4_sum : MethodName := ⟨RX4, "sum", "(II)I"⟩
abbrev cX4_sumAgain : ByteArray := prog_1_method_11_code
def yX4_sumAgain : MethodName := ⟨RX4, "sumAgain", "(II)I"⟩
abbrev cX4_reach : ByteArray := prog_1_method_12_code
def yX4_reach : MethodName := ⟨RX4, "reach", "(I)I"⟩
abbrev cX4_reachAgain : ByteArray := prog_1_method_13_code
def yX4_reachAgain : MethodName := ⟨RX4, "reachAgain", "(I)I"⟩
abbrev cX4_steps : ByteArray := prog_1_method_14_code
def yX4_steps : MethodName := ⟨RX4, "steps", "(I)I"⟩
abbrev cX4_stepsAgain : ByteArray := prog_1_method_15_code
def yX4_stepsAgain : MethodName := ⟨RX4, "stepsAgain", "(I)I"⟩
abbrev cX4_oldest : ByteArray := prog_1_method_16_code
def yX4_oldest : MethodName := ⟨RX4, "oldest", "(I)I"⟩
abbrev cX4_commonAge : ByteArray := prog_1_method_17_code
def yX4_commonAge : MethodName := ⟨RX4, "commonAge", "()I"⟩
abbrev cX4_tightest : ByteArray := prog_1_method_18_code
def yX4_tightest : MethodName := ⟨RX4, "tightest", "()I"⟩
abbrev cX4_bestBay : ByteArray := prog_1_method_19_code
def yX4_bestBay : MethodName := ⟨RX4, "bestBay", "(II)I"⟩
abbrev cX4_price : ByteArray := prog_1_method_20_code
def yX4_price : MethodName := ⟨RX4, "price", "(II)I"⟩
abbrev cX4_append : ByteArray := prog_1_method_21_code
def yX4_append : MethodName := ⟨RX4, "append", "(I)I"⟩
abbrev cX4_run : ByteArray := prog_1_method_22_code
def yX4_run : MethodName := ⟨RX4, "run", "()I"⟩
abbrev cX4_tellRung : ByteArray := prog_1_method_24_code
def yX4_tellRung : MethodName := ⟨RX4, "tellRung", "(I)I"⟩
abbrev cX4_character : ByteArray := prog_1_method_25_code
def yX4_character : MethodName := ⟨RX4, "character", "(I)I"⟩
abbrev cX4_reason : ByteArray := prog_1_method_26_code
def yX4_reason : MethodName := ⟨RX4, "reason", "(Z)I"⟩
abbrev cX4_account : ByteArray := prog_1_method_27_code
def yX4_account : MethodName := ⟨RX4, "account", "(I)I"⟩
abbrev cX4_isBalanced : ByteArray := prog_1_method_28_code
def yX4_isBalanced : MethodName := ⟨RX4, "isBalanced", "()I"⟩
abbrev cX4_meanSacks : ByteArray := prog_1_method_29_code
def yX4_meanSacks : MethodName := ⟨RX4, "meanSacks", "()D"⟩
abbrev cX4_soundShare : ByteArray := prog_1_method_30_code
def yX4_soundShare : MethodName := ⟨RX4, "soundShare", "()F"⟩
abbrev cX4_undo : ByteArray := prog_1_method_31_code
def yX4_undo : MethodName := ⟨RX4, "undo", "()I"⟩
abbrev cX4_save : ByteArray := prog_1_method_32_code
def yX4_save : MethodName := ⟨RX4, "save", "()I"⟩
abbrev cX4_restore : ByteArray := prog_1_method_33_code
def yX4_restore : MethodName := ⟨RX4, "restore", "()I"⟩
abbrev cX4_storeSacks : ByteArray := prog_1_method_34_code
def yX4_storeSacks : MethodName := ⟨RX4, "storeSacks", "(III)I"⟩
abbrev cX4_takeSacks : ByteArray := prog_1_method_35_code
def yX4_takeSacks : MethodName := ⟨RX4, "takeSacks", "(II)I"⟩
abbrev cX4_moveSacks : ByteArray := prog_1_method_36_code
def yX4_moveSacks : MethodName := ⟨RX4, "moveSacks", "(III)I"⟩
abbrev cX4_fillOrder : ByteArray := prog_1_method_37_code
def yX4_fillOrder : MethodName := ⟨RX4, "fillOrder", "(II)I"⟩
abbrev cX4_mend : ByteArray := prog_1_method_38_code
def yX4_mend : MethodName := ⟨RX4, "mend", "(I)I"⟩
abbrev cX4_letWeeksPass : ByteArray := prog_1_method_39_code
def yX4_letWeeksPass : MethodName := ⟨RX4, "letWeeksPass", "(I)I"⟩
abbrev cX4_carryOut : ByteArray := prog_1_method_40_code
def yX4_carryOut : MethodName := ⟨RX4, "carryOut", "(I)I"⟩
abbrev cX4_remember : ByteArray := prog_1_method_41_code
def yX4_remember : MethodName := ⟨RX4, "remember", "(I)I"⟩
abbrev cX4_refuse : ByteArray := prog_1_method_42_code
def yX4_refuse : MethodName := ⟨RX4, "refuse", "(II)I"⟩
abbrev cX4_hasRoom : ByteArray := prog_1_method_43_code
def yX4_hasRoom : MethodName := ⟨RX4, "hasRoom", "(III)Z"⟩
abbrev cX4_refuseRoom : ByteArray := prog_1_method_44_code
def yX4_refuseRoom : MethodName := ⟨RX4, "refuseRoom", "(III)I"⟩
abbrev cX4_hasSacks : ByteArray := prog_1_method_45_code
def yX4_hasSacks : MethodName := ⟨RX4, "hasSacks", "(II)Z"⟩
abbrev cX4_refuseSacks : ByteArray := prog_1_method_46_code
def yX4_refuseSacks : MethodName := ⟨RX4, "refuseSacks", "(I)I"⟩
abbrev cX4_stepsBelow : ByteArray := prog_1_method_47_code
def yX4_stepsBelow : MethodName := ⟨RX4, "stepsBelow", "(LGranaryLadder$Wall;II)I"⟩
abbrev cX4_stepsByKnown : ByteArray := prog_1_method_48_code
def yX4_stepsByKnown : MethodName := ⟨RX4, "stepsByKnown", "(I)I"⟩
abbrev cX4_knownSteps : ByteArray := prog_1_method_49_code
def yX4_knownSteps : MethodName := ⟨RX4, "knownSteps", "(II)I"⟩
abbrev cX4_isWithin : ByteArray := prog_1_method_50_code
def yX4_isWithin : MethodName := ⟨RX4, "isWithin", "(III)Z"⟩
abbrev cX4_isBay : ByteArray := prog_1_method_51_code
def yX4_isBay : MethodName := ⟨RX4, "isBay", "(I)Z"⟩
abbrev cX4_isRung : ByteArray := prog_1_method_52_code
def yX4_isRung : MethodName := ⟨RX4, "isRung", "(I)Z"⟩
abbrev cX4_isKind : ByteArray := prog_1_method_53_code
def yX4_isKind : MethodName := ⟨RX4, "isKind", "(I)Z"⟩
abbrev cX4_sizeOf : ByteArray := prog_1_method_54_code
def yX4_sizeOf : MethodName := ⟨RX4, "sizeOf", "(I)I"⟩
abbrev cX4_loadOf : ByteArray := prog_1_method_55_code
def yX4_loadOf : MethodName := ⟨RX4, "loadOf", "(I)I"⟩
abbrev cX4_firstBayOf : ByteArray := prog_1_method_56_code
def yX4_firstBayOf : MethodName := ⟨RX4, "firstBayOf", "(I)I"⟩
abbrev cX4_rungsBelow : ByteArray := prog_1_method_57_code
def yX4_rungsBelow : MethodName := ⟨RX4, "rungsBelow", "(I)I"⟩
abbrev cX4_coinsFor : ByteArray := prog_1_method_58_code
def yX4_coinsFor : MethodName := ⟨RX4, "coinsFor", "(II)I"⟩
abbrev cX4_at : ByteArray := prog_1_method_59_code
def yX4_at : MethodName := ⟨RX4, "at", "([II)I"⟩
abbrev cX4_put : ByteArray := prog_1_method_60_code
def yX4_put : MethodName := ⟨RX4, "put", "([III)V"⟩
abbrev cX4_copyRow : ByteArray := prog_1_method_61_code
def yX4_copyRow : MethodName := ⟨RX4, "copyRow", "([I[I)V"⟩
def RX5 : String := "GranaryLadderModel"
def TX5 : u_T := fun k => match k with
  | _ => ("", "", "", false)
def tyX5 : Nat → FieldType := fun k => match k with
  | _ => .int
abbrev wsX50 : List Cond := u_ws RX5 TX5 0
theorem nmX5 : ∀ a, a < 0 → ∀ b, b < 0 → a ≠ b → (TX5 a).2.1 ≠ (TX5 b).2.1 := by decide +kernel
theorem tyX5_ok : ∀ k, k < 0 → parseFieldDescriptor (TX5 k).2.2.1 = some (tyX5 k) := by decide +kernel
def RJ6 : String := "java/lang/Integer"
def TJ6 : u_T := fun k => match k with
  | _ => ("", "", "", false)
def tyJ6 : Nat → FieldType := fun k => match k with
  | _ => .int
abbrev wsJ60 : List Cond := u_ws RJ6 TJ6 0
theorem nmJ6 : ∀ a, a < 0 → ∀ b, b < 0 → a ≠ b → (TJ6 a).2.1 ≠ (TJ6 b).2.1 := by decide +kernel
theorem tyJ6_ok : ∀ k, k < 0 → parseFieldDescriptor (TJ6 k).2.2.1 = some (tyJ6 k) := by decide +kernel
abbrev cJ6_bitCount_0f7a4 : ByteArray := prog_8_method_49_code
def yJ6_bitCount_0f7a4 : MethodName := ⟨RJ6, "bitCount", "(I)I"⟩
def RJ9 : String := "java/lang/Math"
def TJ9 : u_T := fun k => match k with
  | _ => ("", "", "", false)
def tyJ9 : Nat → FieldType := fun k => match k with
  | _ => .int
abbrev wsJ90 : List Cond := u_ws RJ9 TJ9 0
theorem nmJ9 : ∀ a, a < 0 → ∀ b, b < 0 → a ≠ b → (TJ9 a).2.1 ≠ (TJ9 b).2.1 := by decide +kernel
theorem tyJ9_ok : ∀ k, k < 0 → parseFieldDescriptor (TJ9 k).2.2.1 = some (tyJ9 k) := by decide +kernel
abbrev cJ9_max_7cf53 : ByteArray := prog_9_method_65_code
def yJ9_max_7cf53 : MethodName := ⟨RJ9, "max", "(II)I"⟩
abbrev cJ9_min_7cf53 : ByteArray := prog_9_method_69_code
def yJ9_min_7cf53 : MethodName := ⟨RJ9, "min", "(II)I"⟩
def RJ0 : String := "java/lang/String"
def TJ0 : u_T := fun k => match k with
  | _ => ("", "", "", false)
def tyJ0 : Nat → FieldType := fun k => match k with
  | _ => .int
abbrev wsJ00 : List Cond := u_ws RJ0 TJ0 0
theorem nmJ0 : ∀ a, a < 0 → ∀ b, b < 0 → a ≠ b → (TJ0 a).2.1 ≠ (TJ0 b).2.1 := by decide +kernel
theorem tyJ0_ok : ∀ k, k < 0 → parseFieldDescriptor (TJ0 k).2.2.1 = some (tyJ0 k) := by decide +kernel
abbrev cJ0_length_8abf5 : ByteArray := prog_10_method_54_code
def yJ0_length_8abf5 : MethodName := ⟨RJ0, "length", "()I"⟩
abbrev cJ0_isEmpty_aae02 : ByteArray := prog_10_method_55_code
def yJ0_isEmpty_aae02 : MethodName := ⟨RJ0, "isEmpty", "()Z"⟩
abbrev cJ0_charAt_5068e : ByteArray := prog_10_method_56_code
def yJ0_charAt_5068e : MethodName := ⟨RJ0, "charAt", "(I)C"⟩
abbrev cJ0_coder_7d493 : ByteArray := prog_10_method_152_code
def yJ0_coder_7d493 : MethodName := ⟨RJ0, "coder", "()B"⟩
abbrev cJ0_isLatin1_aae02 : ByteArray := prog_10_method_154_code
def yJ0_isLatin1_aae02 : MethodName := ⟨RJ0, "isLatin1", "()Z"⟩
abbrev cJ0_checkIndex_df160 : ByteArray := prog_10_method_155_code
def yJ0_checkIndex_df160 : MethodName := ⟨RJ0, "checkIndex", "(II)V"⟩
def RJ1 : String := "java/lang/StringLatin1"
def TJ1 : u_T := fun k => match k with
  | _ => ("", "", "", false)
def tyJ1 : Nat → FieldType := fun k => match k with
  | _ => .int
abbrev wsJ10 : List Cond := u_ws RJ1 TJ1 0
theorem nmJ1 : ∀ a, a < 0 → ∀ b, b < 0 → a ≠ b → (TJ1 a).2.1 ≠ (TJ1 b).2.1 := by decide +kernel
theorem tyJ1_ok : ∀ k, k < 0 → parseFieldDescriptor (TJ1 k).2.2.1 = some (tyJ1 k) := by decide +kernel
abbrev cJ1_charAt_3b067 : ByteArray := prog_11_method_2_code
def yJ1_charAt_3b067 : MethodName := ⟨RJ1, "charAt", "([BI)C"⟩
def RJ2 : String := "java/lang/StringUTF16"
def TJ2 : u_T := fun k => match k with
  | _ => ("", "", "", false)
def tyJ2 : Nat → FieldType := fun k => match k with
  | _ => .int
abbrev wsJ20 : List Cond := u_ws RJ2 TJ2 0
theorem nmJ2 : ∀ a, a < 0 → ∀ b, b < 0 → a ≠ b → (TJ2 a).2.1 ≠ (TJ2 b).2.1 := by decide +kernel
theorem tyJ2_ok : ∀ k, k < 0 → parseFieldDescriptor (TJ2 k).2.2.1 = some (tyJ2 k) := by decide +kernel
abbrev cJ2_getChar_3b067 : ByteArray := prog_12_method_5_code
def yJ2_getChar_3b067 : MethodName := ⟨RJ2, "getChar", "([BI)C"⟩
abbrev cJ2_length_9d52b : ByteArray := prog_12_method_6_code
def yJ2_length_9d52b : MethodName := ⟨RJ2, "length", "([B)I"⟩
abbrev cJ2_charAt_3b067 : ByteArray := prog_12_method_83_code
def yJ2_charAt_3b067 : MethodName := ⟨RJ2, "charAt", "([BI)C"⟩
abbrev cJ2_checkIndex_2214a : ByteArray := prog_12_method_91_code
def yJ2_checkIndex_2214a : MethodName := ⟨RJ2, "checkIndex", "(I[B)V"⟩
def RJ3 : String := "jdk/internal/util/Preconditions"
def TJ3 : u_T := fun k => match k with
  | _ => ("", "", "", false)
def tyJ3 : Nat → FieldType := fun k => match k with
  | _ => .int
abbrev wsJ30 : List Cond := u_ws RJ3 TJ3 0
theorem nmJ3 : ∀ a, a < 0 → ∀ b, b < 0 → a ≠ b → (TJ3 a).2.1 ≠ (TJ3 b).2.1 := by decide +kernel
theorem tyJ3_ok : ∀ k, k < 0 → parseFieldDescriptor (TJ3 k).2.2.1 = some (tyJ3 k) := by decide +kernel
abbrev cJ3_checkIndex_8e157 : ByteArray := prog_13_method_11_code
def yJ3_checkIndex_8e157 : MethodName := ⟨RJ3, "checkIndex", "(IILjava/util/function/BiFunction;)I"⟩
def RL : String := "GranaryLadderLaw"
abbrev cL_cell : ByteArray := method_2_code
def yL_cell : MethodName := ⟨RL, "cell", "([II)I"⟩
abbrev cL_write : ByteArray := method_3_code
def yL_write : MethodName := ⟨RL, "write", "(LGranaryLadder;Ljava/lang/String;)LGranaryLadder;"⟩
abbrev cL_act : ByteArray := method_4_code
def yL_act : MethodName := ⟨RL, "act", "(LGranaryLadder;I)I"⟩
abbrev cL_digest : ByteArray := method_5_code
def yL_digest : MethodName := ⟨RL, "digest", "(LGranaryLadder;)J"⟩
abbrev cL_keeps : ByteArray := method_6_code
def yL_keeps : MethodName := ⟨RL, "keeps", "(I)I"⟩
abbrev cL_isBay : ByteArray := method_7_code
def yL_isBay : MethodName := ⟨RL, "isBay", "(LGranaryLadder;I)Z"⟩
abbrev cL_isRung : ByteArray := method_8_code
def yL_isRung : MethodName := ⟨RL, "isRung", "(LGranaryLadder;I)Z"⟩
abbrev cL_areRanks : ByteArray := method_9_code
def yL_areRanks : MethodName := ⟨RL, "areRanks", "(LGranaryLadder;)Z"⟩
abbrev cL_areReached : ByteArray := method_10_code
def yL_areReached : MethodName := ⟨RL, "areReached", "(LGranaryLadder;)Z"⟩
abbrev cL_isFit : ByteArray := method_11_code
def yL_isFit : MethodName := ⟨RL, "isFit", "(LGranaryLadder;)Z"⟩
abbrev cL_isBest : ByteArray := method_12_code
def yL_isBest : MethodName := ⟨RL, "isBest", "(LGranaryLadder;II)Z"⟩
abbrev cL_isSold : ByteArray := method_13_code
def yL_isSold : MethodName := ⟨RL, "isSold", "(LGranaryLadder;II)Z"⟩
abbrev cL_isPassed : ByteArray := method_14_code
def yL_isPassed : MethodName := ⟨RL, "isPassed", "(LGranaryLadder;)Z"⟩
abbrev cL_law : ByteArray := code
def yL_law : MethodName := ⟨RL, "law", "([I)Z"⟩
def wsL_law_r1 : List Cond := [Cond.classLink RL 19 RX4, Cond.instantiable RX4 10, Cond.initialized RX4, Cond.fieldLink RL 44 "GranaryLadderLaw" "TEXTS" "[Ljava/lang/String;", Cond.methodLink RL 168 yX4_init, Cond.instanceMethod yX4_init, Cond.code yX4_init cX4_init 1 none, Cond.methodLink RX4 1 objectInit, Cond.instanceMethod objectInit, Cond.code objectInit ⟨#[0xb1]⟩ 1 none, Cond.classLink RX4 7 RX3, Cond.instantiable RX3 6, Cond.initialized RX3, Cond.fieldLink RX4 10 "GranaryLadder" "now" "LGranaryLadder$Wall;", Cond.fieldLink RX4 16 "GranaryLadder" "before" "LGranaryLadder$Wall;", Cond.fieldLink RX4 19 "GranaryLadder" "snapshot" "LGranaryLadder$Wall;", Cond.fieldLink RX4 22 "GranaryLadder" "hasSnapshot" "Z", Cond.classLink RX4 26 RX2, Cond.instantiable RX2 3, Cond.initialized RX2, Cond.fieldLink RX4 29 "GranaryLadder" "past" "LGranaryLadder$Past;", Cond.classLink RX4 33 RX0, Cond.instantiable RX0 6, Cond.initialized RX0]
def wsL_law_r2 : List Cond := [Cond.fieldLink RX4 36 "GranaryLadder" "text" "LGranaryLadder$CommandText;", Cond.classLink RX4 40 RX1, Cond.instantiable RX1 2, Cond.initialized RX1, Cond.fieldLink RX4 43 "GranaryLadder" "line" "LGranaryLadder$Line;", Cond.fieldLink RX4 47 "GranaryLadder" "latestReason" "I", Cond.fieldLink RX4 51 "GranaryLadder" "latestDetail" "I", Cond.arrayClass .int, Cond.fieldLink RX4 54 "GranaryLadder" "stepsOfRungs" "[I", Cond.methodLink RX4 9 yX3_init, Cond.instanceMethod yX3_init, Cond.code yX3_init cX3_init 1 none, Cond.methodLink RX3 3 objectInit, Cond.fieldLink RX3 9 "GranaryLadder$Wall" "kinds" "[I", Cond.fieldLink RX3 15 "GranaryLadder$Wall" "sacks" "[I", Cond.fieldLink RX3 18 "GranaryLadder$Wall" "ages" "[I", Cond.fieldLink RX3 21 "GranaryLadder$Wall" "sums" "[I", Cond.fieldLink RX3 24 "GranaryLadder$Wall" "cracks" "[I", Cond.fieldLink RX3 27 "GranaryLadder$Wall" "counters" "[I", Cond.methodLink RX4 28 yX2_init, Cond.instanceMethod yX2_init, Cond.code yX2_init cX2_init 2 none, Cond.methodLink RX2 3 objectInit, Cond.classLink RX2 9 RX3]
def wsL_law_r3 : List Cond := [Cond.fieldLink RX2 11 "GranaryLadder$Past" "walls" "[LGranaryLadder$Wall;", Cond.fieldLink RX2 17 "GranaryLadder$Past" "next" "I", Cond.fieldLink RX2 21 "GranaryLadder$Past" "kept" "I", Cond.methodLink RX2 24 yX3_init, Cond.instanceMethod yX0_init, Cond.code yX0_init cX0_init 1 none, Cond.methodLink RX0 3 objectInit, Cond.fieldLink RX0 9 "GranaryLadder$CommandText" "codes" "[I", Cond.fieldLink RX0 15 "GranaryLadder$CommandText" "length" "I", Cond.fieldLink RX0 19 "GranaryLadder$CommandText" "cells" "[I", Cond.fieldLink RX0 22 "GranaryLadder$CommandText" "commands" "I", Cond.fieldLink RX0 25 "GranaryLadder$CommandText" "nextCell" "I", Cond.fieldLink RX0 28 "GranaryLadder$CommandText" "place" "I", Cond.instanceMethod yX1_init, Cond.code yX1_init cX1_init 1 none, Cond.methodLink RX1 3 objectInit, Cond.fieldLink RX1 9 "GranaryLadder$Line" "codes" "[I", Cond.fieldLink RX1 15 "GranaryLadder$Line" "length" "I", Cond.methodLink RL 24 yX4_store, Cond.instanceMethod yX4_store, Cond.selects RX4 yX4_store yX4_store, Cond.code yX4_store cX4_store 4 (some .int), Cond.methodLink RX4 58 yX3_copyFrom, Cond.instanceMethod yX3_copyFrom]
def wsL_law_r4 : List Cond := [Cond.selects RX3 yX3_copyFrom yX3_copyFrom, Cond.code yX3_copyFrom cX3_copyFrom 2 none, Cond.static yX4_copyRow, Cond.code yX4_copyRow cX4_copyRow 3 none, Cond.methodLink RX4 62 yX4_storeSacks, Cond.instanceMethod yX4_storeSacks, Cond.selects RX4 yX4_storeSacks yX4_storeSacks, Cond.code yX4_storeSacks cX4_storeSacks 4 (some .int), Cond.methodLink RX4 86 yX4_isBay, Cond.static yX4_isBay, Cond.code yX4_isBay cX4_isBay 1 (some .boolean), Cond.methodLink RX4 138 yX4_isWithin, Cond.static yX4_isWithin, Cond.code yX4_isWithin cX4_isWithin 3 (some .boolean), Cond.methodLink RX4 162 yX4_isKind, Cond.static yX4_isKind, Cond.code yX4_isKind cX4_isKind 1 (some .boolean), Cond.methodLink RX4 165 yX4_hasRoom, Cond.instanceMethod yX4_hasRoom, Cond.selects RX4 yX4_hasRoom yX4_hasRoom, Cond.code yX4_hasRoom cX4_hasRoom 4 (some .boolean), Cond.methodLink RX4 90 yX3_isEmpty, Cond.instanceMethod yX3_isEmpty, Cond.selects RX3 yX3_isEmpty yX3_isEmpty]
def wsL_law_r5 : List Cond := [Cond.code yX3_isEmpty cX3_isEmpty 2 (some .boolean), Cond.static yX4_at, Cond.code yX4_at cX4_at 2 (some .int), Cond.methodLink RX4 93 yX3_kindIn, Cond.instanceMethod yX3_kindIn, Cond.selects RX3 yX3_kindIn yX3_kindIn, Cond.code yX3_kindIn cX3_kindIn 2 (some .int), Cond.methodLink RX4 96 yX3_sacksIn, Cond.instanceMethod yX3_sacksIn, Cond.selects RX3 yX3_sacksIn yX3_sacksIn, Cond.code yX3_sacksIn cX3_sacksIn 2 (some .int), Cond.methodLink RX4 242 yX4_refuseRoom, Cond.instanceMethod yX4_refuseRoom, Cond.selects RX4 yX4_refuseRoom yX4_refuseRoom, Cond.code yX4_refuseRoom cX4_refuseRoom 4 (some .int), Cond.methodLink RX4 195 yX4_refuse, Cond.instanceMethod yX4_refuse, Cond.selects RX4 yX4_refuse yX4_refuse, Cond.code yX4_refuse cX4_refuse 3 (some .int), Cond.methodLink RX4 245 yX3_count, Cond.instanceMethod yX3_count, Cond.selects RX3 yX3_count yX3_count, Cond.code yX3_count cX3_count 3 none, Cond.static yX4_put]
def wsL_law_r6 : List Cond := [Cond.code yX4_put cX4_put 3 none, Cond.methodLink RX4 99 yX3_ageIn, Cond.instanceMethod yX3_ageIn, Cond.selects RX3 yX3_ageIn yX3_ageIn, Cond.code yX3_ageIn cX3_ageIn 2 (some .int), Cond.methodLink RX4 249 yX3_bring, Cond.instanceMethod yX3_bring, Cond.selects RX3 yX3_bring yX3_bring, Cond.code yX3_bring cX3_bring 5 (some .int), Cond.methodLink RX3 42 yX3_changeSacks, Cond.instanceMethod yX3_changeSacks, Cond.selects RX3 yX3_changeSacks yX3_changeSacks, Cond.code yX3_changeSacks cX3_changeSacks 5 none, Cond.static yX4_sizeOf, Cond.code yX4_sizeOf cX4_sizeOf 1 (some .int), Cond.methodLink RX3 46 yX3_crackOver, Cond.instanceMethod yX3_crackOver, Cond.selects RX3 yX3_crackOver yX3_crackOver, Cond.code yX3_crackOver cX3_crackOver 5 (some .int), Cond.methodLink RX3 57 yX3_isCracked, Cond.instanceMethod yX3_isCracked, Cond.selects RX3 yX3_isCracked yX3_isCracked, Cond.code yX3_isCracked cX3_isCracked 2 (some .boolean), Cond.methodLink RX3 60 yX3_sumOf]
def wsL_law_r7 : List Cond := [Cond.instanceMethod yX3_sumOf, Cond.selects RX3 yX3_sumOf yX3_sumOf, Cond.code yX3_sumOf cX3_sumOf 2 (some .int), Cond.static yX4_loadOf, Cond.code yX4_loadOf cX4_loadOf 1 (some .int), Cond.methodLink RX4 114 yX4_sizeOf, Cond.methodLink RX3 66 yX3_count, Cond.methodLink RX4 66 yX4_remember, Cond.instanceMethod yX4_remember, Cond.selects RX4 yX4_remember yX4_remember, Cond.code yX4_remember cX4_remember 2 (some .int), Cond.methodLink RX4 285 yX2_keep, Cond.instanceMethod yX2_keep, Cond.selects RX2 yX2_keep yX2_keep, Cond.code yX2_keep cX2_keep 2 none, Cond.methodLink RX2 29 Lib.Math.min.name, Cond.static Lib.Math.min.name, Cond.initialized "java/lang/Math", Cond.code Lib.Math.min.name Lib.Math.min.code 2 (some .int), Cond.methodLink RX2 25 yX3_copyFrom, Cond.methodLink RL 151 yL_digest, Cond.static yL_digest, Cond.initialized RL, Cond.code yL_digest cL_digest 4 (some .long)]
def wsL_law_r8 : List Cond := [Cond.constantLong RL 71 (7), Cond.constantLong RL 73 (31), Cond.methodLink RL 75 yX4_account, Cond.instanceMethod yX4_account, Cond.selects RX4 yX4_account yX4_account, Cond.code yX4_account cX4_account 2 (some .int), Cond.methodLink RX4 218 yX3_filledBays, Cond.instanceMethod yX3_filledBays, Cond.selects RX3 yX3_filledBays yX3_filledBays, Cond.code yX3_filledBays cX3_filledBays 3 (some .int), Cond.methodLink RX3 50 yX3_isEmpty, Cond.methodLink RX4 221 yX3_allSacks, Cond.instanceMethod yX3_allSacks, Cond.selects RX3 yX3_allSacks yX3_allSacks, Cond.code yX3_allSacks cX3_allSacks 1 (some .int), Cond.methodLink RX3 72 yX3_sumByBays, Cond.instanceMethod yX3_sumByBays, Cond.selects RX3 yX3_sumByBays yX3_sumByBays, Cond.code yX3_sumByBays cX3_sumByBays 5 (some .int), Cond.methodLink RX3 69 yX3_sacksIn, Cond.methodLink RX4 224 yX3_sacksOfKind, Cond.instanceMethod yX3_sacksOfKind, Cond.selects RX3 yX3_sacksOfKind yX3_sacksOfKind, Cond.code yX3_sacksOfKind cX3_sacksOfKind 4 (some .int)]
def wsL_law_r9 : List Cond := [Cond.methodLink RX3 76 yX3_kindIn, Cond.methodLink RX4 227 yX3_crackedRungs, Cond.instanceMethod yX3_crackedRungs, Cond.selects RX3 yX3_crackedRungs yX3_crackedRungs, Cond.code yX3_crackedRungs cX3_crackedRungs 3 (some .int), Cond.methodLink RX4 230 yX0_size, Cond.instanceMethod yX0_size, Cond.selects RX0 yX0_size yX0_size, Cond.code yX0_size cX0_size 1 (some .int), Cond.methodLink RX4 231 yX2_size, Cond.instanceMethod yX2_size, Cond.selects RX2 yX2_size yX2_size, Cond.code yX2_size cX2_size 1 (some .int), Cond.methodLink RX4 232 yX3_counted, Cond.instanceMethod yX3_counted, Cond.selects RX3 yX3_counted yX3_counted, Cond.code yX3_counted cX3_counted 2 (some .int), Cond.methodLink RL 78 yX4_bayOf, Cond.instanceMethod yX4_bayOf, Cond.selects RX4 yX4_bayOf yX4_bayOf, Cond.code yX4_bayOf cX4_bayOf 3 (some .int), Cond.methodLink RX4 102 yX3_spoilingAt, Cond.instanceMethod yX3_spoilingAt, Cond.selects RX3 yX3_spoilingAt yX3_spoilingAt]
def wsL_law_r10 : List Cond := [Cond.code yX3_spoilingAt cX3_spoilingAt 3 (some .int), Cond.methodLink RX4 105 yX3_rungsOver, Cond.instanceMethod yX3_rungsOver, Cond.selects RX3 yX3_rungsOver yX3_rungsOver, Cond.code yX3_rungsOver cX3_rungsOver 5 (some .int), Cond.methodLink RX4 108 yX3_crackedOver, Cond.instanceMethod yX3_crackedOver, Cond.selects RX3 yX3_crackedOver yX3_crackedOver, Cond.code yX3_crackedOver cX3_crackedOver 5 (some .int), Cond.methodLink RL 81 yX4_rungOf, Cond.instanceMethod yX4_rungOf, Cond.selects RX4 yX4_rungOf yX4_rungOf, Cond.code yX4_rungOf cX4_rungOf 3 (some .int), Cond.methodLink RX4 111 yX4_isRung, Cond.static yX4_isRung, Cond.code yX4_isRung cX4_isRung 1 (some .boolean), Cond.methodLink RX4 117 yX3_sumOf, Cond.methodLink RX4 120 yX4_loadOf, Cond.methodLink RX4 123 yX3_isCracked, Cond.methodLink RX4 126 yX4_firstBayOf, Cond.static yX4_firstBayOf, Cond.code yX4_firstBayOf cX4_firstBayOf 1 (some .int), Cond.methodLink RX4 129 yX4_rungsBelow, Cond.static yX4_rungsBelow]
def wsL_law_r11 : List Cond := [Cond.code yX4_rungsBelow cX4_rungsBelow 4 (some .int), Cond.methodLink RL 169 yL_cell, Cond.static yL_cell, Cond.code yL_cell cL_cell 2 (some .int), Cond.constant RL 7 (65535), Cond.methodLink RL 173 yL_act, Cond.static yL_act, Cond.code yL_act cL_act 4 (some .int), Cond.methodLink RL 57 Lib.Math.max.name, Cond.static Lib.Math.max.name, Cond.code Lib.Math.max.name Lib.Math.max.code 2 (some .int), Cond.methodLink RL 28 yX4_take, Cond.instanceMethod yX4_take, Cond.selects RX4 yX4_take yX4_take, Cond.code yX4_take cX4_take 3 (some .int), Cond.methodLink RX4 70 yX4_takeSacks, Cond.instanceMethod yX4_takeSacks, Cond.selects RX4 yX4_takeSacks yX4_takeSacks, Cond.code yX4_takeSacks cX4_takeSacks 3 (some .int), Cond.methodLink RX4 253 yX4_hasSacks, Cond.instanceMethod yX4_hasSacks, Cond.selects RX4 yX4_hasSacks yX4_hasSacks, Cond.code yX4_hasSacks cX4_hasSacks 3 (some .boolean), Cond.methodLink RX4 256 yX4_refuseSacks]
def wsL_law_r12 : List Cond := [Cond.instanceMethod yX4_refuseSacks, Cond.selects RX4 yX4_refuseSacks yX4_refuseSacks, Cond.code yX4_refuseSacks cX4_refuseSacks 2 (some .int), Cond.methodLink RX4 259 yX3_remove, Cond.instanceMethod yX3_remove, Cond.selects RX3 yX3_remove yX3_remove, Cond.code yX3_remove cX3_remove 3 none, Cond.methodLink RL 32 yX4_move, Cond.instanceMethod yX4_move, Cond.selects RX4 yX4_move yX4_move, Cond.code yX4_move cX4_move 4 (some .int), Cond.methodLink RX4 74 yX4_moveSacks, Cond.instanceMethod yX4_moveSacks, Cond.selects RX4 yX4_moveSacks yX4_moveSacks, Cond.code yX4_moveSacks cX4_moveSacks 6 (some .int), Cond.methodLink RX4 262 Lib.Math.max.name, Cond.methodLink RL 35 yX4_order, Cond.instanceMethod yX4_order, Cond.selects RX4 yX4_order yX4_order, Cond.code yX4_order cX4_order 3 (some .int), Cond.methodLink RX4 77 yX4_fillOrder, Cond.instanceMethod yX4_fillOrder, Cond.selects RX4 yX4_fillOrder yX4_fillOrder, Cond.code yX4_fillOrder cX4_fillOrder 8 (some .int)]
def wsL_law_r13 : List Cond := [Cond.methodLink RX4 270 Lib.Math.min.name, Cond.methodLink RX4 267 yX3_oldestOfKind, Cond.instanceMethod yX3_oldestOfKind, Cond.selects RX3 yX3_oldestOfKind yX3_oldestOfKind, Cond.code yX3_oldestOfKind cX3_oldestOfKind 4 (some .int), Cond.methodLink RX3 79 yX3_ageIn, Cond.methodLink RX4 172 yX4_coinsFor, Cond.static yX4_coinsFor, Cond.code yX4_coinsFor cX4_coinsFor 2 (some .int), Cond.methodLink RL 38 yX4_fix, Cond.instanceMethod yX4_fix, Cond.selects RX4 yX4_fix yX4_fix, Cond.code yX4_fix cX4_fix 2 (some .int), Cond.methodLink RX4 80 yX4_mend, Cond.instanceMethod yX4_mend, Cond.selects RX4 yX4_mend yX4_mend, Cond.code yX4_mend cX4_mend 3 (some .int), Cond.methodLink RX4 273 yX3_makeSound, Cond.instanceMethod yX3_makeSound, Cond.selects RX3 yX3_makeSound yX3_makeSound, Cond.code yX3_makeSound cX3_makeSound 2 none, Cond.methodLink RL 41 yX4_pass, Cond.instanceMethod yX4_pass, Cond.selects RX4 yX4_pass yX4_pass]
def wsL_law_r14 : List Cond := [Cond.code yX4_pass cX4_pass 2 (some .int), Cond.methodLink RX4 83 yX4_letWeeksPass, Cond.instanceMethod yX4_letWeeksPass, Cond.selects RX4 yX4_letWeeksPass yX4_letWeeksPass, Cond.code yX4_letWeeksPass cX4_letWeeksPass 4 (some .int), Cond.methodLink RX4 276 yX3_growOlder, Cond.instanceMethod yX3_growOlder, Cond.selects RX3 yX3_growOlder yX3_growOlder, Cond.code yX3_growOlder cX3_growOlder 4 (some .int), Cond.methodLink RX3 89 yX3_spoilingAt, Cond.methodLink RX3 92 yX3_remove, Cond.methodLink RL 50 yL_write, Cond.static yL_write, Cond.code yL_write cL_write 3 (some (.object "GranaryLadder")), Cond.methodLink RL 8 yJ0_length_8abf5, Cond.instanceMethod yJ0_length_8abf5, Cond.selects RJ0 yJ0_length_8abf5 yJ0_length_8abf5, Cond.initialized RJ0, Cond.code yJ0_length_8abf5 cJ0_length_8abf5 1 (some .int), Cond.fieldLink RJ0 9 "java/lang/String" "value" "[B", Cond.methodLink RJ0 335 yJ0_coder_7d493, Cond.instanceMethod yJ0_coder_7d493, Cond.selects RJ0 yJ0_coder_7d493 yJ0_coder_7d493, Cond.code yJ0_coder_7d493 cJ0_coder_7d493 1 (some .byte)]
def wsL_law_r15 : List Cond := [Cond.fieldLink RJ0 38 "java/lang/String" "COMPACT_STRINGS" "Z", Cond.fieldLink RJ0 15 "java/lang/String" "coder" "B", Cond.methodLink RL 14 yJ0_charAt_5068e, Cond.instanceMethod yJ0_charAt_5068e, Cond.selects RJ0 yJ0_charAt_5068e yJ0_charAt_5068e, Cond.code yJ0_charAt_5068e cJ0_charAt_5068e 2 (some .char), Cond.methodLink RJ0 492 yJ0_isLatin1_aae02, Cond.instanceMethod yJ0_isLatin1_aae02, Cond.selects RJ0 yJ0_isLatin1_aae02 yJ0_isLatin1_aae02, Cond.code yJ0_isLatin1_aae02 cJ0_isLatin1_aae02 1 (some .boolean), Cond.methodLink RJ0 495 yJ1_charAt_3b067, Cond.static yJ1_charAt_3b067, Cond.initialized RJ1, Cond.code yJ1_charAt_3b067 cJ1_charAt_3b067 2 (some .char), Cond.methodLink RJ1 9 yJ0_checkIndex_df160, Cond.static yJ0_checkIndex_df160, Cond.code yJ0_checkIndex_df160 cJ0_checkIndex_df160 2 none, Cond.fieldLink RJ0 1053 "jdk/internal/util/Preconditions" "SIOOBE_FORMATTER" "Ljava/util/function/BiFunction;", Cond.methodLink RJ0 1059 yJ3_checkIndex_8e157, Cond.static yJ3_checkIndex_8e157, Cond.initialized RJ3, Cond.code yJ3_checkIndex_8e157 cJ3_checkIndex_8e157 3 (some .int), Cond.methodLink RJ0 498 yJ2_charAt_3b067, Cond.static yJ2_charAt_3b067]
def wsL_law_r16 : List Cond := [Cond.initialized RJ2, Cond.code yJ2_charAt_3b067 cJ2_charAt_3b067 2 (some .char), Cond.methodLink RJ2 67 yJ2_checkIndex_2214a, Cond.static yJ2_checkIndex_2214a, Cond.code yJ2_checkIndex_2214a cJ2_checkIndex_2214a 2 none, Cond.methodLink RJ2 48 yJ2_length_9d52b, Cond.static yJ2_length_9d52b, Cond.code yJ2_length_9d52b cJ2_length_9d52b 1 (some .int), Cond.methodLink RJ2 414 yJ0_checkIndex_df160, Cond.methodLink RJ2 71 yJ2_getChar_3b067, Cond.static yJ2_getChar_3b067, Cond.code yJ2_getChar_3b067 cJ2_getChar_3b067 2 (some .char), Cond.fieldLink RJ2 44 "java/lang/StringUTF16" "$assertionsDisabled" "Z", Cond.fieldLink RJ2 59 "java/lang/StringUTF16" "HI_BYTE_SHIFT" "I", Cond.fieldLink RJ2 63 "java/lang/StringUTF16" "LO_BYTE_SHIFT" "I", Cond.methodLink RL 18 yX4_append, Cond.instanceMethod yX4_append, Cond.selects RX4 yX4_append yX4_append, Cond.code yX4_append cX4_append 2 (some .int), Cond.methodLink RX4 175 yX0_addCode, Cond.instanceMethod yX0_addCode, Cond.selects RX0 yX0_addCode yX0_addCode, Cond.code yX0_addCode cX0_addCode 2 (some .int), Cond.methodLink RL 54 yX4_run]
def wsL_law_r17 : List Cond := [Cond.instanceMethod yX4_run, Cond.selects RX4 yX4_run yX4_run, Cond.code yX4_run cX4_run 4 (some .int), Cond.methodLink RX4 178 yX0_readCommands, Cond.instanceMethod yX0_readCommands, Cond.selects RX0 yX0_readCommands yX0_readCommands, Cond.code yX0_readCommands cX0_readCommands 2 (some .boolean), Cond.methodLink RX0 39 yX0_readCommand, Cond.instanceMethod yX0_readCommand, Cond.selects RX0 yX0_readCommand yX0_readCommand, Cond.code yX0_readCommand cX0_readCommand 3 (some .boolean), Cond.methodLink RX0 47 yX0_patternOf, Cond.static yX0_patternOf, Cond.code yX0_patternOf cX0_patternOf 1 (some (.object "java/lang/String")), Cond.methodLink RX0 51 yJ0_isEmpty_aae02, Cond.instanceMethod yJ0_isEmpty_aae02, Cond.selects RJ0 yJ0_isEmpty_aae02 yJ0_isEmpty_aae02, Cond.code yJ0_isEmpty_aae02 cJ0_isEmpty_aae02 1 (some .boolean), Cond.methodLink RX0 56 yX0_nextCode, Cond.instanceMethod yX0_nextCode, Cond.selects RX0 yX0_nextCode yX0_nextCode, Cond.code yX0_nextCode cX0_nextCode 1 (some .int), Cond.methodLink RX0 60 yJ0_charAt_5068e, Cond.methodLink RX0 64 yX0_addCell]
def wsL_law_r18 : List Cond := [Cond.instanceMethod yX0_addCell, Cond.selects RX0 yX0_addCell yX0_addCell, Cond.code yX0_addCell cX0_addCell 2 none, Cond.methodLink RX0 68 yX0_readAlong, Cond.instanceMethod yX0_readAlong, Cond.selects RX0 yX0_readAlong yX0_readAlong, Cond.code yX0_readAlong cX0_readAlong 5 (some .boolean), Cond.methodLink RX0 86 yJ0_length_8abf5, Cond.methodLink RX0 88 yX0_readNumber, Cond.instanceMethod yX0_readNumber, Cond.selects RX0 yX0_readNumber yX0_readNumber, Cond.code yX0_readNumber cX0_readNumber 4 (some .boolean), Cond.methodLink RX0 91 yX0_readKind, Cond.instanceMethod yX0_readKind, Cond.selects RX0 yX0_readKind yX0_readKind, Cond.code yX0_readKind cX0_readKind 2 (some .boolean), Cond.methodLink RX0 43 yX0_readCode, Cond.instanceMethod yX0_readCode, Cond.selects RX0 yX0_readCode yX0_readCode, Cond.code yX0_readCode cX0_readCode 2 (some .boolean), Cond.methodLink RX4 182 yX0_becomeEmpty, Cond.instanceMethod yX0_becomeEmpty, Cond.selects RX0 yX0_becomeEmpty yX0_becomeEmpty, Cond.code yX0_becomeEmpty cX0_becomeEmpty 1 none]
def wsL_law_r19 : List Cond := [Cond.methodLink RX4 185 yX0_faultPosition, Cond.instanceMethod yX0_faultPosition, Cond.selects RX0 yX0_faultPosition yX0_faultPosition, Cond.code yX0_faultPosition cX0_faultPosition 1 (some .int), Cond.methodLink RX4 189 yX0_commandCount, Cond.instanceMethod yX0_commandCount, Cond.selects RX0 yX0_commandCount yX0_commandCount, Cond.code yX0_commandCount cX0_commandCount 1 (some .int), Cond.methodLink RX4 192 yX4_carryOut, Cond.instanceMethod yX4_carryOut, Cond.selects RX4 yX4_carryOut yX4_carryOut, Cond.code yX4_carryOut cX4_carryOut 5 (some .int), Cond.methodLink RX4 279 yX0_argument, Cond.instanceMethod yX0_argument, Cond.selects RX0 yX0_argument yX0_argument, Cond.code yX0_argument cX0_argument 3 (some .int), Cond.methodLink RX4 282 yX0_verb, Cond.instanceMethod yX0_verb, Cond.selects RX0 yX0_verb yX0_verb, Cond.code yX0_verb cX0_verb 2 (some .int), Cond.methodLink RL 62 yX4_save, Cond.instanceMethod yX4_save, Cond.selects RX4 yX4_save yX4_save, Cond.code yX4_save cX4_save 1 (some .int)]
def wsL_law_r20 : List Cond := [Cond.methodLink RL 65 yX4_restore, Cond.instanceMethod yX4_restore, Cond.selects RX4 yX4_restore yX4_restore, Cond.code yX4_restore cX4_restore 1 (some .int), Cond.methodLink RX4 239 yX2_forget, Cond.instanceMethod yX2_forget, Cond.selects RX2 yX2_forget yX2_forget, Cond.code yX2_forget cX2_forget 1 none, Cond.methodLink RL 68 yX4_undo, Cond.instanceMethod yX4_undo, Cond.selects RX4 yX4_undo yX4_undo, Cond.code yX4_undo cX4_undo 1 (some .int), Cond.methodLink RX4 236 yX2_giveBack, Cond.instanceMethod yX2_giveBack, Cond.selects RX2 yX2_giveBack yX2_giveBack, Cond.code yX2_giveBack cX2_giveBack 2 none, Cond.methodLink RX2 35 Lib.Math.max.name, Cond.methodLink RL 158 yL_isFit, Cond.static yL_isFit, Cond.code yL_isFit cL_isFit 7 (some .boolean), Cond.methodLink RL 130 yL_areRanks, Cond.static yL_areRanks, Cond.code yL_areRanks cL_areRanks 8 (some .boolean), Cond.constantFloat RL 123 (1107296256)]
def wsL_law_r21 : List Cond := [Cond.methodLink RL 110 yX4_oldest, Cond.instanceMethod yX4_oldest, Cond.selects RX4 yX4_oldest yX4_oldest, Cond.code yX4_oldest cX4_oldest 3 (some .int), Cond.methodLink RX4 156 yX3_placeOf, Cond.instanceMethod yX3_placeOf, Cond.selects RX3 yX3_placeOf yX3_placeOf, Cond.code yX3_placeOf cX3_placeOf 4 (some .int), Cond.methodLink RX3 82 yX3_isAhead, Cond.instanceMethod yX3_isAhead, Cond.selects RX3 yX3_isAhead yX3_isAhead, Cond.code yX3_isAhead cX3_isAhead 3 (some .boolean), Cond.methodLink RL 113 yX4_tightest, Cond.instanceMethod yX4_tightest, Cond.selects RX4 yX4_tightest yX4_tightest, Cond.code yX4_tightest cX4_tightest 5 (some .int), Cond.methodLink RL 116 yX4_commonAge, Cond.instanceMethod yX4_commonAge, Cond.selects RX4 yX4_commonAge yX4_commonAge, Cond.code yX4_commonAge cX4_commonAge 6 (some .int), Cond.methodLink RX4 159 yX3_sacksAsOldAs, Cond.instanceMethod yX3_sacksAsOldAs, Cond.selects RX3 yX3_sacksAsOldAs yX3_sacksAsOldAs, Cond.code yX3_sacksAsOldAs cX3_sacksAsOldAs 4 (some .int)]
def wsL_law_r22 : List Cond := [Cond.methodLink RL 119 yX4_soundShare, Cond.instanceMethod yX4_soundShare, Cond.selects RX4 yX4_soundShare yX4_soundShare, Cond.code yX4_soundShare cX4_soundShare 1 (some .float), Cond.constantFloat RX4 235 (1107296256), Cond.methodLink RL 134 yL_areReached, Cond.static yL_areReached, Cond.code yL_areReached cL_areReached 6 (some .boolean), Cond.methodLink RL 124 yX4_reach, Cond.instanceMethod yX4_reach, Cond.selects RX4 yX4_reach yX4_reach, Cond.code yX4_reach cX4_reach 6 (some .int), Cond.methodLink RL 127 yX4_reachAgain, Cond.instanceMethod yX4_reachAgain, Cond.selects RX4 yX4_reachAgain yX4_reachAgain, Cond.code yX4_reachAgain cX4_reachAgain 4 (some .int), Cond.methodLink RL 98 yX4_sum, Cond.instanceMethod yX4_sum, Cond.selects RX4 yX4_sum yX4_sum, Cond.code yX4_sum cX4_sum 3 (some .int), Cond.methodLink RX4 132 yX3_sumByClimbing, Cond.instanceMethod yX3_sumByClimbing, Cond.selects RX3 yX3_sumByClimbing yX3_sumByClimbing, Cond.code yX3_sumByClimbing cX3_sumByClimbing 5 (some .int)]
def wsL_law_r23 : List Cond := [Cond.methodLink RL 137 yX4_isBalanced, Cond.instanceMethod yX4_isBalanced, Cond.selects RX4 yX4_isBalanced yX4_isBalanced, Cond.code yX4_isBalanced cX4_isBalanced 2 (some .int), Cond.methodLink RX4 135 yX3_sumByBays, Cond.methodLink RL 140 yL_isBay, Cond.static yL_isBay, Cond.code yL_isBay cL_isBay 11 (some .boolean), Cond.methodLink RL 84 yL_keeps, Cond.static yL_keeps, Cond.code yL_keeps cL_keeps 1 (some .int), Cond.methodLink RL 87 yX4_steps, Cond.instanceMethod yX4_steps, Cond.selects RX4 yX4_steps yX4_steps, Cond.code yX4_steps cX4_steps 5 (some .int), Cond.methodLink RX4 142 yX4_stepsBelow, Cond.static yX4_stepsBelow, Cond.code yX4_stepsBelow cX4_stepsBelow 6 (some .int), Cond.methodLink RL 90 yX4_stepsAgain, Cond.instanceMethod yX4_stepsAgain, Cond.selects RX4 yX4_stepsAgain yX4_stepsAgain, Cond.code yX4_stepsAgain cX4_stepsAgain 3 (some .int), Cond.methodLink RX4 146 yX4_stepsByKnown, Cond.instanceMethod yX4_stepsByKnown]
def wsL_law_r24 : List Cond := [Cond.selects RX4 yX4_stepsByKnown yX4_stepsByKnown, Cond.code yX4_stepsByKnown cX4_stepsByKnown 2 (some .int), Cond.methodLink RX4 153 yX4_knownSteps, Cond.instanceMethod yX4_knownSteps, Cond.selects RX4 yX4_knownSteps yX4_knownSteps, Cond.code yX4_knownSteps cX4_knownSteps 6 (some .int), Cond.methodLink RX4 205 yX4_at, Cond.methodLink RX4 149 yX4_put, Cond.methodLink RL 93 yJ6_bitCount_0f7a4, Cond.static yJ6_bitCount_0f7a4, Cond.initialized RJ6, Cond.code yJ6_bitCount_0f7a4 cJ6_bitCount_0f7a4 1 (some .int), Cond.constant RJ6 265 (1431655765), Cond.constant RJ6 266 (858993459), Cond.constant RJ6 267 (252645135), Cond.methodLink RL 101 yX4_sumAgain, Cond.instanceMethod yX4_sumAgain, Cond.selects RX4 yX4_sumAgain yX4_sumAgain, Cond.code yX4_sumAgain cX4_sumAgain 3 (some .int), Cond.methodLink RL 144 yL_isRung, Cond.static yL_isRung, Cond.code yL_isRung cL_isRung 6 (some .boolean), Cond.methodLink RL 104 yX4_tellRung, Cond.instanceMethod yX4_tellRung]
def wsL_law_r25 : List Cond := [Cond.selects RX4 yX4_tellRung yX4_tellRung, Cond.code yX4_tellRung cX4_tellRung 2 (some .int), Cond.methodLink RX4 198 yX1_becomeEmpty, Cond.instanceMethod yX1_becomeEmpty, Cond.selects RX1 yX1_becomeEmpty yX1_becomeEmpty, Cond.code yX1_becomeEmpty cX1_becomeEmpty 1 none, Cond.methodLink RX4 209 yX1_addNumber, Cond.instanceMethod yX1_addNumber, Cond.selects RX1 yX1_addNumber yX1_addNumber, Cond.code yX1_addNumber cX1_addNumber 3 none, Cond.methodLink RX1 23 yX1_addCode, Cond.instanceMethod yX1_addCode, Cond.selects RX1 yX1_addCode yX1_addCode, Cond.code yX1_addCode cX1_addCode 2 none, Cond.methodLink RX4 199 yX1_addCode, Cond.methodLink RX4 212 yX1_size, Cond.instanceMethod yX1_size, Cond.selects RX1 yX1_size yX1_size, Cond.code yX1_size cX1_size 1 (some .int), Cond.methodLink RL 107 yX4_character, Cond.instanceMethod yX4_character, Cond.selects RX4 yX4_character yX4_character, Cond.code yX4_character cX4_character 2 (some .int), Cond.methodLink RX4 215 yX1_codeAt]
def wsL_law_r26 : List Cond := [Cond.instanceMethod yX1_codeAt, Cond.selects RX1 yX1_codeAt yX1_codeAt, Cond.code yX1_codeAt cX1_codeAt 2 (some .int), Cond.methodLink RL 147 yX4_meanSacks, Cond.instanceMethod yX4_meanSacks, Cond.selects RX4 yX4_meanSacks yX4_meanSacks, Cond.code yX4_meanSacks cX4_meanSacks 2 (some .double), Cond.methodLink RL 177 yL_isBest, Cond.static yL_isBest, Cond.code yL_isBest cL_isBest 8 (some .boolean), Cond.methodLink RL 155 yX4_bestBay, Cond.instanceMethod yX4_bestBay, Cond.selects RX4 yX4_bestBay yX4_bestBay, Cond.code yX4_bestBay cX4_bestBay 6 (some .int), Cond.methodLink RX4 168 yX3_cracksUnder, Cond.instanceMethod yX3_cracksUnder, Cond.selects RX3 yX3_cracksUnder yX3_cracksUnder, Cond.code yX3_cracksUnder cX3_cracksUnder 5 (some .boolean), Cond.methodLink RL 181 yL_isSold, Cond.static yL_isSold, Cond.code yL_isSold cL_isSold 9 (some .boolean), Cond.methodLink RL 161 yX4_reason, Cond.instanceMethod yX4_reason, Cond.selects RX4 yX4_reason yX4_reason]
def wsL_law_r27 : List Cond := [Cond.code yX4_reason cX4_reason 2 (some .int), Cond.methodLink RL 165 yX4_price, Cond.instanceMethod yX4_price, Cond.selects RX4 yX4_price yX4_price, Cond.code yX4_price cX4_price 3 (some .int), Cond.methodLink RL 184 yL_isPassed, Cond.static yL_isPassed, Cond.code yL_isPassed cL_isPassed 5 (some .boolean)]
def wsL_law : List Cond := (wsL_law_r1 ++ (wsL_law_r2 ++ (wsL_law_r3 ++ (wsL_law_r4 ++ (wsL_law_r5 ++ (wsL_law_r6 ++ (wsL_law_r7 ++ (wsL_law_r8 ++ (wsL_law_r9 ++ (wsL_law_r10 ++ (wsL_law_r11 ++ (wsL_law_r12 ++ (wsL_law_r13 ++ (wsL_law_r14 ++ (wsL_law_r15 ++ (wsL_law_r16 ++ (wsL_law_r17 ++ (wsL_law_r18 ++ (wsL_law_r19 ++ (wsL_law_r20 ++ (wsL_law_r21 ++ (wsL_law_r22 ++ (wsL_law_r23 ++ (wsL_law_r24 ++ (wsL_law_r25 ++ (wsL_law_r26 ++ wsL_law_r27)))))))))))))))))))))))))) ++ wsX40 ++ wsX30 ++ wsX20 ++ wsX00 ++ wsX10 ++ ([] : List Cond)
set_option maxRecDepth 20000 in
theorem wsL_law_in : ∀ w ∈ wsL_law, w ∈ lw_tbl := fun w h => (goodIn_p wsL_law [41, 44, 49, 75, 94, 119, 162, 166, 169, 173, 176, 179, 182, 186, 190, 193, 197, 201, 205, 209, 213, 216, 220, 224, 228, 231, 235, 239, 243, 246, 252, 256, 260, 547, 553, 557, 501, 505, 467, 561, 565, 488, 302, 569, 323, 574, 578, 582, 295, 585, 588, 516, 533, 279, 537, 459, 272, 276, 283, 264, 268, 541, 463, 471, 475, 288, 292, 306, 310, 314, 318, 520, 412, 416, 363, 367, 372, 375, 380, 383, 386, 389, 393, 526, 530, 332, 336, 340, 343, 354, 358, 403, 408, 420, 425, 431, 435, 439, 443, 447, 451, 455, 497, 509, 513, 484, 492, 591, 594, 598, 602, 606, 610, 614, 618, 622, 627, 631, 635, 639, 643, 647, 651, 654, 658, 661, 665, 669, 673, 678, 685, 688, 692, 696, 700, 704, 710, 714, 718, 724, 727, 731, 735, 738, 480, 742, 745] (by decide +kernel) (by decide +kernel) w h).1
theorem inlX0 : ∀ w ∈ wsX00, w ∈ wsL_law := fun _ h => List.mem_append_left _ (List.mem_append_left _ (List.mem_append_right _ h))
theorem inX0 : ∀ w ∈ wsX00, w ∈ lw_tbl := fun w h => wsL_law_in w (inlX0 w h)
theorem inlX1 : ∀ w ∈ wsX10, w ∈ wsL_law := fun _ h => List.mem_append_left _ (List.mem_append_right _ h)
theorem inX1 : ∀ w ∈ wsX10, w ∈ lw_tbl := fun w h => wsL_law_in w (inlX1 w h)
theorem inlX2 : ∀ w ∈ wsX20, w ∈ wsL_law := fun _ h => List.mem_append_left _ (List.mem_append_left _ (List.mem_append_left _ (List.mem_append_right _ h)))
theorem inX2 : ∀ w ∈ wsX20, w ∈ lw_tbl := fun w h => wsL_law_in w (inlX2 w h)
theorem inlX3 : ∀ w ∈ wsX30, w ∈ wsL_law := fun _ h => List.mem_append_left _ (List.mem_append_left _ (List.mem_append_left _ (List.mem_append_left _ (List.mem_append_right _ h))))
theorem inX3 : ∀ w ∈ wsX30, w ∈ lw_tbl := fun w h => wsL_law_in w (inlX3 w h)
theorem inlX4 : ∀ w ∈ wsX40, w ∈ wsL_law := fun _ h => List.mem_append_left _ (List.mem_append_left _ (List.mem_append_left _ (List.mem_append_left _ (List.mem_append_left _ (List.mem_append_right _ h)))))
theorem inX4 : ∀ w ∈ wsX40, w ∈ lw_tbl := fun w h => wsL_law_in w (inlX4 w h)
theorem inX5 : ∀ w ∈ wsX50, w ∈ lw_tbl := by decide +kernel
theorem inJ6 : ∀ w ∈ wsJ60, w ∈ lw_tbl := by decide +kernel
theorem inJ9 : ∀ w ∈ wsJ90, w ∈ lw_tbl := by decide +kernel
theorem inJ0 : ∀ w ∈ wsJ00, w ∈ lw_tbl := by decide +kernel
theorem inJ1 : ∀ w ∈ wsJ10, w ∈ lw_tbl := by decide +kernel
theorem inJ2 : ∀ w ∈ wsJ20, w ∈ lw_tbl := by decide +kernel
theorem inJ3 : ∀ w ∈ wsJ30, w ∈ lw_tbl := by decide +kernel
abbrev vwCl : List vw_C := [(RX0, TX0, 6), (RX1, TX1, 2), (RX2, TX2, 3), (RX3, TX3, 6), (RX4, TX4, 10)]
/-! the law's words, list by list -/
theorem inB_1 : ∀ w ∈ wsL_law_r1, w ∈ wsL_law := fun _ h => List.mem_append_left _ (List.mem_append_left _ (List.mem_append_left _ (List.mem_append_left _ (List.mem_append_left _ (List.mem_append_left _ (List.mem_append_left _ h))))))
theorem inB_2 : ∀ w ∈ wsL_law_r2, w ∈ wsL_law := fun _ h => List.mem_append_left _ (List.mem_append_left _ (List.mem_append_left _ (List.mem_append_left _ (List.mem_append_left _ (List.mem_append_left _ (List.mem_append_right _ (List.mem_append_left _ h)))))))
theorem inB_3 : ∀ w ∈ wsL_law_r3, w ∈ wsL_law := fun _ h => List.mem_append_left _ (List.mem_append_left _ (List.mem_append_left _ (List.mem_append_left _ (List.mem_append_left _ (List.mem_append_left _ (List.mem_append_right _ (List.mem_append_right _ (List.mem_append_left _ h))))))))
theorem inB_4 : ∀ w ∈ wsL_law_r4, w ∈ wsL_law := fun _ h => List.mem_append_left _ (List.mem_append_left _ (List.mem_append_left _ (List.mem_append_left _ (List.mem_append_left _ (List.mem_append_left _ (List.mem_append_right _ (List.mem_append_right _ (List.mem_append_right _ (List.mem_append_left _ h)))))))))
theorem inB_5 : ∀ w ∈ wsL_law_r5, w ∈ wsL_law := fun _ h => List.mem_append_left _ (List.mem_append_left _ (List.mem_append_left _ (List.mem_append_left _ (List.mem_append_left _ (List.mem_append_left _ (List.mem_append_right _ (List.mem_append_right _ (List.mem_append_right _ (List.mem_append_right _ (List.mem_append_left _ h))))))))))
theorem inB_6 : ∀ w ∈ wsL_law_r6, w ∈ wsL_law := fun _ h => List.mem_append_left _ (List.mem_append_left _ (List.mem_append_left _ (List.mem_append_left _ (List.mem_append_left _ (List.mem_append_left _ (List.mem_append_right _ (List.mem_append_right _ (List.mem_append_right _ (List.mem_append_right _ (List.mem_append_right _ (List.mem_append_left _ h)))))))))))
theorem inB_7 : ∀ w ∈ wsL_law_r7, w ∈ wsL_law := fun _ h => List.mem_append_left _ (List.mem_append_left _ (List.mem_append_left _ (List.mem_append_left _ (List.mem_append_left _ (List.mem_append_left _ (List.mem_append_right _ (List.mem_append_right _ (List.mem_append_right _ (List.mem_append_right _ (List.mem_append_right _ (List.mem_append_right _ (List.mem_append_left _ h))))))))))))
theorem inB_8 : ∀ w ∈ wsL_law_r8, w ∈ wsL_law := fun _ h => List.mem_append_left _ (List.mem_append_left _ (List.mem_append_left _ (List.mem_append_left _ (List.mem_append_left _ (List.mem_append_left _ (List.mem_append_right _ (List.mem_append_right _ (List.mem_append_right _ (List.mem_append_right _ (List.mem_append_right _ (List.mem_append_right _ (List.mem_append_right _ (List.mem_append_left _ h)))))))))))))
theorem inB_9 : ∀ w ∈ wsL_law_r9, w ∈ wsL_law := fun _ h => List.mem_append_left _ (List.mem_append_left _ (List.mem_append_left _ (List.mem_append_left _ (List.mem_append_left _ (List.mem_append_left _ (List.mem_append_right _ (List.mem_append_right _ (List.mem_append_right _ (List.mem_append_right _ (List.mem_append_right _ (List.mem_append_right _ (List.mem_append_right _ (List.mem_append_right _ (List.mem_append_left _ h))))))))))))))
theorem inB_10 : ∀ w ∈ wsL_law_r10, w ∈ wsL_law := fun _ h => List.mem_append_left _ (List.mem_append_left _ (List.mem_append_left _ (List.mem_append_left _ (List.mem_append_left _ (List.mem_append_left _ (List.mem_append_right _ (List.mem_append_right _ (List.mem_append_right _ (List.mem_append_right _ (List.mem_append_right _ (List.mem_append_right _ (List.mem_append_right _ (List.mem_append_right _ (List.mem_append_right _ (List.mem_append_left _ h)))))))))))))))
theorem inB_11 : ∀ w ∈ wsL_law_r11, w ∈ wsL_law := fun _ h => List.mem_append_left _ (List.mem_append_left _ (List.mem_append_left _ (List.mem_append_left _ (List.mem_append_left _ (List.mem_append_left _ (List.mem_append_right _ (List.mem_append_right _ (List.mem_append_right _ (List.mem_append_right _ (List.mem_append_right _ (List.mem_append_right _ (List.mem_append_right _ (List.mem_append_right _ (List.mem_append_right _ (List.mem_append_right _ (List.mem_append_left _ h))))))))))))))))
theorem inB_12 : ∀ w ∈ wsL_law_r12, w ∈ wsL_law := fun _ h => List.mem_append_left _ (List.mem_append_left _ (List.mem_append_left _ (List.mem_append_left _ (List.mem_append_left _ (List.mem_append_left _ (List.mem_append_right _ (List.mem_append_right _ (List.mem_append_right _ (List.mem_append_right _ (List.mem_append_right _ (List.mem_append_right _ (List.mem_append_right _ (List.mem_append_right _ (List.mem_append_right _ (List.mem_append_right _ (List.mem_append_right _ (List.mem_append_left _ h)))))))))))))))))
theorem inB_13 : ∀ w ∈ wsL_law_r13, w ∈ wsL_law := fun _ h => List.mem_append_left _ (List.mem_append_left _ (List.mem_append_left _ (List.mem_append_left _ (List.mem_append_left _ (List.mem_append_left _ (List.mem_append_right _ (List.mem_append_right _ (List.mem_append_right _ (List.mem_append_right _ (List.mem_append_right _ (List.mem_append_right _ (List.mem_append_right _ (List.mem_append_right _ (List.mem_append_right _ (List.mem_append_right _ (List.mem_append_right _ (List.mem_append_right _ (List.mem_append_left _ h))))))))))))))))))
theorem inB_14 : ∀ w ∈ wsL_law_r14, w ∈ wsL_law := fun _ h => List.mem_append_left _ (List.mem_append_left _ (List.mem_append_left _ (List.mem_append_left _ (List.mem_append_left _ (List.mem_append_left _ (List.mem_append_right _ (List.mem_append_right _ (List.mem_append_right _ (List.mem_append_right _ (List.mem_append_right _ (List.mem_append_right _ (List.mem_append_right _ (List.mem_append_right _ (List.mem_append_right _ (List.mem_append_right _ (List.mem_append_right _ (List.mem_append_right _ (List.mem_append_right _ (List.mem_append_left _ h)))))))))))))))))))
theorem inB_15 : ∀ w ∈ wsL_law_r15, w ∈ wsL_law := fun _ h => List.mem_append_left _ (List.mem_append_left _ (List.mem_append_left _ (List.mem_append_left _ (List.mem_append_left _ (List.mem_append_left _ (List.mem_append_right _ (List.mem_append_right _ (List.mem_append_right _ (List.mem_append_right _ (List.mem_append_right _ (List.mem_append_right _ (List.mem_append_right _ (List.mem_append_right _ (List.mem_append_right _ (List.mem_append_right _ (List.mem_append_right _ (List.mem_append_right _ (List.mem_append_right _ (List.mem_append_right _ (List.mem_append_left _ h))))))))))))))))))))
theorem inB_16 : ∀ w ∈ wsL_law_r16, w ∈ wsL_law := fun _ h => List.mem_append_left _ (List.mem_append_left _ (List.mem_append_left _ (List.mem_append_left _ (List.mem_append_left _ (List.mem_append_left _ (List.mem_append_right _ (List.mem_append_right _ (List.mem_append_right _ (List.mem_append_right _ (List.mem_append_right _ (List.mem_append_right _ (List.mem_append_right _ (List.mem_append_right _ (List.mem_append_right _ (List.mem_append_right _ (List.mem_append_right _ (List.mem_append_right _ (List.mem_append_right _ (List.mem_append_right _ (List.mem_append_right _ (List.mem_append_left _ h)))))))))))))))))))))
theorem inB_17 : ∀ w ∈ wsL_law_r17, w ∈ wsL_law := fun _ h => List.mem_append_left _ (List.mem_append_left _ (List.mem_append_left _ (List.mem_append_left _ (List.mem_append_left _ (List.mem_append_left _ (List.mem_append_right _ (List.mem_append_right _ (List.mem_append_right _ (List.mem_append_right _ (List.mem_append_right _ (List.mem_append_right _ (List.mem_append_right _ (List.mem_append_right _ (List.mem_append_right _ (List.mem_append_right _ (List.mem_append_right _ (List.mem_append_right _ (List.mem_append_right _ (List.mem_append_right _ (List.mem_append_right _ (List.mem_append_right _ (List.mem_append_left _ h))))))))))))))))))))))
theorem inB_18 : ∀ w ∈ wsL_law_r18, w ∈ wsL_law := fun _ h => List.mem_append_left _ (List.mem_append_left _ (List.mem_append_left _ (List.mem_append_left _ (List.mem_append_left _ (List.mem_append_left _ (List.mem_append_right _ (List.mem_append_right _ (List.mem_append_right _ (List.mem_append_right _ (List.mem_append_right _ (List.mem_append_right _ (List.mem_append_right _ (List.mem_append_right _ (List.mem_append_right _ (List.mem_append_right _ (List.mem_append_right _ (List.mem_append_right _ (List.mem_append_right _ (List.mem_append_right _ (List.mem_append_right _ (List.mem_append_right _ (List.mem_append_right _ (List.mem_append_left _ h)))))))))))))))))))))))
theorem inB_19 : ∀ w ∈ wsL_law_r19, w ∈ wsL_law := fun _ h => List.mem_append_left _ (List.mem_append_left _ (List.mem_append_left _ (List.mem_append_left _ (List.mem_append_left _ (List.mem_append_left _ (List.mem_append_right _ (List.mem_append_right _ (List.mem_append_right _ (List.mem_append_right _ (List.mem_append_right _ (List.mem_append_right _ (List.mem_append_right _ (List.mem_append_right _ (List.mem_append_right _ (List.mem_append_right _ (List.mem_append_right _ (List.mem_append_right _ (List.mem_append_right _ (List.mem_append_right _ (List.mem_append_right _ (List.mem_append_right _ (List.mem_append_right _ (List.mem_append_right _ (List.mem_append_left _ h))))))))))))))))))))))))
theorem inB_20 : ∀ w ∈ wsL_law_r20, w ∈ wsL_law := fun _ h => List.mem_append_left _ (List.mem_append_left _ (List.mem_append_left _ (List.mem_append_left _ (List.mem_append_left _ (List.mem_append_left _ (List.mem_append_right _ (List.mem_append_right _ (List.mem_append_right _ (List.mem_append_right _ (List.mem_append_right _ (List.mem_append_right _ (List.mem_append_right _ (List.mem_append_right _ (List.mem_append_right _ (List.mem_append_right _ (List.mem_append_right _ (List.mem_append_right _ (List.mem_append_right _ (List.mem_append_right _ (List.mem_append_right _ (List.mem_append_right _ (List.mem_append_right _ (List.mem_append_right _ (List.mem_append_right _ (List.mem_append_left _ h)))))))))))))))))))))))))
theorem inB_21 : ∀ w ∈ wsL_law_r21, w ∈ wsL_law := fun _ h => List.mem_append_left _ (List.mem_append_left _ (List.mem_append_left _ (List.mem_append_left _ (List.mem_append_left _ (List.mem_append_left _ (List.mem_append_right _ (List.mem_append_right _ (List.mem_append_right _ (List.mem_append_right _ (List.mem_append_right _ (List.mem_append_right _ (List.mem_append_right _ (List.mem_append_right _ (List.mem_append_right _ (List.mem_append_right _ (List.mem_append_right _ (List.mem_append_right _ (List.mem_append_right _ (List.mem_append_right _ (List.mem_append_right _ (List.mem_append_right _ (List.mem_append_right _ (List.mem_append_right _ (List.mem_append_right _ (List.mem_append_right _ (List.mem_append_left _ h))))))))))))))))))))))))))
theorem inB_22 : ∀ w ∈ wsL_law_r22, w ∈ wsL_law := fun _ h => List.mem_append_left _ (List.mem_append_left _ (List.mem_append_left _ (List.mem_append_left _ (List.mem_append_left _ (List.mem_append_left _ (List.mem_append_right _ (List.mem_append_right _ (List.mem_append_right _ (List.mem_append_right _ (List.mem_append_right _ (List.mem_append_right _ (List.mem_append_right _ (List.mem_append_right _ (List.mem_append_right _ (List.mem_append_right _ (List.mem_append_right _ (List.mem_append_right _ (List.mem_append_right _ (List.mem_append_right _ (List.mem_append_right _ (List.mem_append_right _ (List.mem_append_right _ (List.mem_append_right _ (List.mem_append_right _ (List.mem_append_right _ (List.mem_append_right _ (List.mem_append_left _ h)))))))))))))))))))))))))))
theorem inB_23 : ∀ w ∈ wsL_law_r23, w ∈ wsL_law := fun _ h => List.mem_append_left _ (List.mem_append_left _ (List.mem_append_left _ (List.mem_append_left _ (List.mem_append_left _ (List.mem_append_left _ (List.mem_append_right _ (List.mem_append_right _ (List.mem_append_right _ (List.mem_append_right _ (List.mem_append_right _ (List.mem_append_right _ (List.mem_append_right _ (List.mem_append_right _ (List.mem_append_right _ (List.mem_append_right _ (List.mem_append_right _ (List.mem_append_right _ (List.mem_append_right _ (List.mem_append_right _ (List.mem_append_right _ (List.mem_append_right _ (List.mem_append_right _ (List.mem_append_right _ (List.mem_append_right _ (List.mem_append_right _ (List.mem_append_right _ (List.mem_append_right _ (List.mem_append_left _ h))))))))))))))))))))))))))))
theorem inB_24 : ∀ w ∈ wsL_law_r24, w ∈ wsL_law := fun _ h => List.mem_append_left _ (List.mem_append_left _ (List.mem_append_left _ (List.mem_append_left _ (List.mem_append_left _ (List.mem_append_left _ (List.mem_append_right _ (List.mem_append_right _ (List.mem_append_right _ (List.mem_append_right _ (List.mem_append_right _ (List.mem_append_right _ (List.mem_append_right _ (List.mem_append_right _ (List.mem_append_right _ (List.mem_append_right _ (List.mem_append_right _ (List.mem_append_right _ (List.mem_append_right _ (List.mem_append_right _ (List.mem_append_right _ (List.mem_append_right _ (List.mem_append_right _ (List.mem_append_right _ (List.mem_append_right _ (List.mem_append_right _ (List.mem_append_right _ (List.mem_append_right _ (List.mem_append_right _ (List.mem_append_left _ h)))))))))))))))))))))))))))))
theorem inB_25 : ∀ w ∈ wsL_law_r25, w ∈ wsL_law := fun _ h => List.mem_append_left _ (List.mem_append_left _ (List.mem_append_left _ (List.mem_append_left _ (List.mem_append_left _ (List.mem_append_left _ (List.mem_append_right _ (List.mem_append_right _ (List.mem_append_right _ (List.mem_append_right _ (List.mem_append_right _ (List.mem_append_right _ (List.mem_append_right _ (List.mem_append_right _ (List.mem_append_right _ (List.mem_append_right _ (List.mem_append_right _ (List.mem_append_right _ (List.mem_append_right _ (List.mem_append_right _ (List.mem_append_right _ (List.mem_append_right _ (List.mem_append_right _ (List.mem_append_right _ (List.mem_append_right _ (List.mem_append_right _ (List.mem_append_right _ (List.mem_append_right _ (List.mem_append_right _ (List.mem_append_right _ (List.mem_append_left _ h))))))))))))))))))))))))))))))
theorem inB_26 : ∀ w ∈ wsL_law_r26, w ∈ wsL_law := fun _ h => List.mem_append_left _ (List.mem_append_left _ (List.mem_append_left _ (List.mem_append_left _ (List.mem_append_left _ (List.mem_append_left _ (List.mem_append_right _ (List.mem_append_right _ (List.mem_append_right _ (List.mem_append_right _ (List.mem_append_right _ (List.mem_append_right _ (List.mem_append_right _ (List.mem_append_right _ (List.mem_append_right _ (List.mem_append_right _ (List.mem_append_right _ (List.mem_append_right _ (List.mem_append_right _ (List.mem_append_right _ (List.mem_append_right _ (List.mem_append_right _ (List.mem_append_right _ (List.mem_append_right _ (List.mem_append_right _ (List.mem_append_right _ (List.mem_append_right _ (List.mem_append_right _ (List.mem_append_right _ (List.mem_append_right _ (List.mem_append_right _ (List.mem_append_left _ h)))))))))))))))))))))))))))))))
theorem inB_27 : ∀ w ∈ wsL_law_r27, w ∈ wsL_law := fun _ h => List.mem_append_left _ (List.mem_append_left _ (List.mem_append_left _ (List.mem_append_left _ (List.mem_append_left _ (List.mem_append_left _ (List.mem_append_right _ (List.mem_append_right _ (List.mem_append_right _ (List.mem_append_right _ (List.mem_append_right _ (List.mem_append_right _ (List.mem_append_right _ (List.mem_append_right _ (List.mem_append_right _ (List.mem_append_right _ (List.mem_append_right _ (List.mem_append_right _ (List.mem_append_right _ (List.mem_append_right _ (List.mem_append_right _ (List.mem_append_right _ (List.mem_append_right _ (List.mem_append_right _ (List.mem_append_right _ (List.mem_append_right _ (List.mem_append_right _ (List.mem_append_right _ (List.mem_append_right _ (List.mem_append_right _ (List.mem_append_right _ (List.mem_append_right _ (h))))))))))))))))))))))))))))))))
