-- ===== PART A: goes FIRST, ahead of the names: the tables' words, and 'selects' of the private methods out of them =====
/-- a private method of a class that the tables say can be made, by its rows of tables_1 -/
def lw_okq (q : MethodName × Nat) : Prop := (q.1.cls ≠ "java/lang/invoke/MethodHandle" ∧ q.1.cls ≠ "java/lang/invoke/VarHandle") ∧ Cond.instantiable q.1.cls q.2 ∈ tables_1 ∧ Cond.privateMethod q.1 ∈ tables_1 ∧ Cond.instanceMethod q.1 ∈ tables_1
theorem lw_p0 : lw_okq (⟨"GranaryLadder", "storeSacks", "(III)I"⟩, 10) := ⟨⟨by decide +kernel, by decide +kernel⟩, List.mem_of_getElem? (i := 13) (by decide +kernel), List.mem_of_getElem? (i := 146) (by decide +kernel), List.mem_of_getElem? (i := 147) (by decide +kernel)⟩
theorem lw_p1 : lw_okq (⟨"GranaryLadder", "hasRoom", "(III)Z"⟩, 10) := ⟨⟨by decide +kernel, by decide +kernel⟩, List.mem_of_getElem? (i := 13) (by decide +kernel), List.mem_of_getElem? (i := 159) (by decide +kernel), List.mem_of_getElem? (i := 160) (by decide +kernel)⟩
theorem lw_p2 : lw_okq (⟨"GranaryLadder", "refuseRoom", "(III)I"⟩, 10) := ⟨⟨by decide +kernel, by decide +kernel⟩, List.mem_of_getElem? (i := 13) (by decide +kernel), List.mem_of_getElem? (i := 178) (by decide +kernel), List.mem_of_getElem? (i := 179) (by decide +kernel)⟩
theorem lw_p3 : lw_okq (⟨"GranaryLadder", "refuse", "(II)I"⟩, 10) := ⟨⟨by decide +kernel, by decide +kernel⟩, List.mem_of_getElem? (i := 13) (by decide +kernel), List.mem_of_getElem? (i := 182) (by decide +kernel), List.mem_of_getElem? (i := 183) (by decide +kernel)⟩
theorem lw_p4 : lw_okq (⟨"GranaryLadder$Wall", "changeSacks", "(II)V"⟩, 6) := ⟨⟨by decide +kernel, by decide +kernel⟩, List.mem_of_getElem? (i := 21) (by decide +kernel), List.mem_of_getElem? (i := 201) (by decide +kernel), List.mem_of_getElem? (i := 202) (by decide +kernel)⟩
theorem lw_p5 : lw_okq (⟨"GranaryLadder$Wall", "crackOver", "(I)I"⟩, 6) := ⟨⟨by decide +kernel, by decide +kernel⟩, List.mem_of_getElem? (i := 21) (by decide +kernel), List.mem_of_getElem? (i := 208) (by decide +kernel), List.mem_of_getElem? (i := 209) (by decide +kernel)⟩
theorem lw_p6 : lw_okq (⟨"GranaryLadder", "remember", "(I)I"⟩, 10) := ⟨⟨by decide +kernel, by decide +kernel⟩, List.mem_of_getElem? (i := 13) (by decide +kernel), List.mem_of_getElem? (i := 225) (by decide +kernel), List.mem_of_getElem? (i := 226) (by decide +kernel)⟩
theorem lw_p7 : lw_okq (⟨"GranaryLadder", "moveSacks", "(III)I"⟩, 10) := ⟨⟨by decide +kernel, by decide +kernel⟩, List.mem_of_getElem? (i := 13) (by decide +kernel), List.mem_of_getElem? (i := 241) (by decide +kernel), List.mem_of_getElem? (i := 242) (by decide +kernel)⟩
theorem lw_p8 : lw_okq (⟨"GranaryLadder", "hasSacks", "(II)Z"⟩, 10) := ⟨⟨by decide +kernel, by decide +kernel⟩, List.mem_of_getElem? (i := 13) (by decide +kernel), List.mem_of_getElem? (i := 245) (by decide +kernel), List.mem_of_getElem? (i := 246) (by decide +kernel)⟩
theorem lw_p9 : lw_okq (⟨"GranaryLadder", "refuseSacks", "(I)I"⟩, 10) := ⟨⟨by decide +kernel, by decide +kernel⟩, List.mem_of_getElem? (i := 13) (by decide +kernel), List.mem_of_getElem? (i := 249) (by decide +kernel), List.mem_of_getElem? (i := 250) (by decide +kernel)⟩
theorem lw_p10 : lw_okq (⟨"GranaryLadder", "mend", "(I)I"⟩, 10) := ⟨⟨by decide +kernel, by decide +kernel⟩, List.mem_of_getElem? (i := 13) (by decide +kernel), List.mem_of_getElem? (i := 265) (by decide +kernel), List.mem_of_getElem? (i := 266) (by decide +kernel)⟩
theorem lw_p11 : lw_okq (⟨"GranaryLadder", "letWeeksPass", "(I)I"⟩, 10) := ⟨⟨by decide +kernel, by decide +kernel⟩, List.mem_of_getElem? (i := 13) (by decide +kernel), List.mem_of_getElem? (i := 287) (by decide +kernel), List.mem_of_getElem? (i := 288) (by decide +kernel)⟩
theorem lw_p12 : lw_okq (⟨"GranaryLadder$CommandText", "readCommand", "()Z"⟩, 6) := ⟨⟨by decide +kernel, by decide +kernel⟩, List.mem_of_getElem? (i := 66) (by decide +kernel), List.mem_of_getElem? (i := 313) (by decide +kernel), List.mem_of_getElem? (i := 314) (by decide +kernel)⟩
theorem lw_p13 : lw_okq (⟨"GranaryLadder$CommandText", "nextCode", "()I"⟩, 6) := ⟨⟨by decide +kernel, by decide +kernel⟩, List.mem_of_getElem? (i := 66) (by decide +kernel), List.mem_of_getElem? (i := 331) (by decide +kernel), List.mem_of_getElem? (i := 332) (by decide +kernel)⟩
theorem lw_p14 : lw_okq (⟨"GranaryLadder$CommandText", "addCell", "(I)V"⟩, 6) := ⟨⟨by decide +kernel, by decide +kernel⟩, List.mem_of_getElem? (i := 66) (by decide +kernel), List.mem_of_getElem? (i := 376) (by decide +kernel), List.mem_of_getElem? (i := 377) (by decide +kernel)⟩
theorem lw_p15 : lw_okq (⟨"GranaryLadder$CommandText", "readAlong", "(Ljava/lang/String;)Z"⟩, 6) := ⟨⟨by decide +kernel, by decide +kernel⟩, List.mem_of_getElem? (i := 66) (by decide +kernel), List.mem_of_getElem? (i := 381) (by decide +kernel), List.mem_of_getElem? (i := 382) (by decide +kernel)⟩
def lw_privs_1 : List (MethodName × Nat) := [(⟨"GranaryLadder", "storeSacks", "(III)I"⟩, 10), (⟨"GranaryLadder", "hasRoom", "(III)Z"⟩, 10), (⟨"GranaryLadder", "refuseRoom", "(III)I"⟩, 10), (⟨"GranaryLadder", "refuse", "(II)I"⟩, 10), (⟨"GranaryLadder$Wall", "changeSacks", "(II)V"⟩, 6), (⟨"GranaryLadder$Wall", "crackOver", "(I)I"⟩, 6), (⟨"GranaryLadder", "remember", "(I)I"⟩, 10), (⟨"GranaryLadder", "moveSacks", "(III)I"⟩, 10), (⟨"GranaryLadder", "hasSacks", "(II)Z"⟩, 10), (⟨"GranaryLadder", "refuseSacks", "(I)I"⟩, 10), (⟨"GranaryLadder", "mend", "(I)I"⟩, 10), (⟨"GranaryLadder", "letWeeksPass", "(I)I"⟩, 10), (⟨"GranaryLadder$CommandText", "readCommand", "()Z"⟩, 6), (⟨"GranaryLadder$CommandText", "nextCode", "()I"⟩, 6), (⟨"GranaryLadder$CommandText", "addCell", "(I)V"⟩, 6), (⟨"GranaryLadder$CommandText", "readAlong", "(Ljava/lang/String;)Z"⟩, 6)]
theorem lw_r1 : ∀ q ∈ lw_privs_1, lw_okq q := List.forall_mem_cons.mpr ⟨lw_p0, List.forall_mem_cons.mpr ⟨lw_p1, List.forall_mem_cons.mpr ⟨lw_p2, List.forall_mem_cons.mpr ⟨lw_p3, List.forall_mem_cons.mpr ⟨lw_p4, List.forall_mem_cons.mpr ⟨lw_p5, List.forall_mem_cons.mpr ⟨lw_p6, List.forall_mem_cons.mpr ⟨lw_p7, List.forall_mem_cons.mpr ⟨lw_p8, List.forall_mem_cons.mpr ⟨lw_p9, List.forall_mem_cons.mpr ⟨lw_p10, List.forall_mem_cons.mpr ⟨lw_p11, List.forall_mem_cons.mpr ⟨lw_p12, List.forall_mem_cons.mpr ⟨lw_p13, List.forall_mem_cons.mpr ⟨lw_p14, List.forall_mem_cons.mpr ⟨lw_p15, fun _ h => absurd h List.not_mem_nil⟩⟩⟩⟩⟩⟩⟩⟩⟩⟩⟩⟩⟩⟩⟩⟩
theorem lw_p16 : lw_okq (⟨"GranaryLadder$CommandText", "readNumber", "(I)Z"⟩, 6) := ⟨⟨by decide +kernel, by decide +kernel⟩, List.mem_of_getElem? (i := 66) (by decide +kernel), List.mem_of_getElem? (i := 393) (by decide +kernel), List.mem_of_getElem? (i := 394) (by decide +kernel)⟩
theorem lw_p17 : lw_okq (⟨"GranaryLadder$CommandText", "readKind", "()Z"⟩, 6) := ⟨⟨by decide +kernel, by decide +kernel⟩, List.mem_of_getElem? (i := 66) (by decide +kernel), List.mem_of_getElem? (i := 398) (by decide +kernel), List.mem_of_getElem? (i := 399) (by decide +kernel)⟩
theorem lw_p18 : lw_okq (⟨"GranaryLadder$CommandText", "readCode", "(I)Z"⟩, 6) := ⟨⟨by decide +kernel, by decide +kernel⟩, List.mem_of_getElem? (i := 66) (by decide +kernel), List.mem_of_getElem? (i := 404) (by decide +kernel), List.mem_of_getElem? (i := 405) (by decide +kernel)⟩
theorem lw_p19 : lw_okq (⟨"GranaryLadder", "carryOut", "(I)I"⟩, 10) := ⟨⟨by decide +kernel, by decide +kernel⟩, List.mem_of_getElem? (i := 13) (by decide +kernel), List.mem_of_getElem? (i := 420) (by decide +kernel), List.mem_of_getElem? (i := 421) (by decide +kernel)⟩
theorem lw_p20 : lw_okq (⟨"GranaryLadder", "takeSacks", "(II)I"⟩, 10) := ⟨⟨by decide +kernel, by decide +kernel⟩, List.mem_of_getElem? (i := 13) (by decide +kernel), List.mem_of_getElem? (i := 432) (by decide +kernel), List.mem_of_getElem? (i := 433) (by decide +kernel)⟩
theorem lw_p21 : lw_okq (⟨"GranaryLadder", "fillOrder", "(II)I"⟩, 10) := ⟨⟨by decide +kernel, by decide +kernel⟩, List.mem_of_getElem? (i := 13) (by decide +kernel), List.mem_of_getElem? (i := 436) (by decide +kernel), List.mem_of_getElem? (i := 437) (by decide +kernel)⟩
theorem lw_p22 : lw_okq (⟨"GranaryLadder$Wall", "isAhead", "(II)Z"⟩, 6) := ⟨⟨by decide +kernel, by decide +kernel⟩, List.mem_of_getElem? (i := 21) (by decide +kernel), List.mem_of_getElem? (i := 579) (by decide +kernel), List.mem_of_getElem? (i := 580) (by decide +kernel)⟩
theorem lw_p23 : lw_okq (⟨"GranaryLadder", "stepsByKnown", "(I)I"⟩, 10) := ⟨⟨by decide +kernel, by decide +kernel⟩, List.mem_of_getElem? (i := 13) (by decide +kernel), List.mem_of_getElem? (i := 642) (by decide +kernel), List.mem_of_getElem? (i := 643) (by decide +kernel)⟩
theorem lw_p24 : lw_okq (⟨"GranaryLadder", "knownSteps", "(II)I"⟩, 10) := ⟨⟨by decide +kernel, by decide +kernel⟩, List.mem_of_getElem? (i := 13) (by decide +kernel), List.mem_of_getElem? (i := 646) (by decide +kernel), List.mem_of_getElem? (i := 647) (by decide +kernel)⟩
def lw_privs_2 : List (MethodName × Nat) := [(⟨"GranaryLadder$CommandText", "readNumber", "(I)Z"⟩, 6), (⟨"GranaryLadder$CommandText", "readKind", "()Z"⟩, 6), (⟨"GranaryLadder$CommandText", "readCode", "(I)Z"⟩, 6), (⟨"GranaryLadder", "carryOut", "(I)I"⟩, 10), (⟨"GranaryLadder", "takeSacks", "(II)I"⟩, 10), (⟨"GranaryLadder", "fillOrder", "(II)I"⟩, 10), (⟨"GranaryLadder$Wall", "isAhead", "(II)Z"⟩, 6), (⟨"GranaryLadder", "stepsByKnown", "(I)I"⟩, 10), (⟨"GranaryLadder", "knownSteps", "(II)I"⟩, 10)]
theorem lw_r2 : ∀ q ∈ lw_privs_2, lw_okq q := List.forall_mem_cons.mpr ⟨lw_p16, List.forall_mem_cons.mpr ⟨lw_p17, List.forall_mem_cons.mpr ⟨lw_p18, List.forall_mem_cons.mpr ⟨lw_p19, List.forall_mem_cons.mpr ⟨lw_p20, List.forall_mem_cons.mpr ⟨lw_p21, List.forall_mem_cons.mpr ⟨lw_p22, List.forall_mem_cons.mpr ⟨lw_p23, List.forall_mem_cons.mpr ⟨lw_p24, fun _ h => absurd h List.not_mem_nil⟩⟩⟩⟩⟩⟩⟩⟩⟩
def lw_privs : List (MethodName × Nat) := lw_privs_1 ++ (lw_privs_2)
def lw_tbl : List Cond := k2_sels lw_privs ++ tables_1
theorem lw_privs_ok : ∀ q ∈ lw_privs, lw_okq q := by
  show ∀ q ∈ lw_privs_1 ++ (lw_privs_2), lw_okq q
  exact List.forall_mem_append.mpr ⟨lw_r1, lw_r2⟩
/-- the streams that the claim lets the run draw from -/
abbrev lw_cs : List Choice := [Jvm.Choice.named "NaN.bits"]
theorem lw_bits : nanBits ∈ lw_cs := by first | decide | exact List.mem_cons_self | simp [lw_cs, nanBits]
/-! ===== BEGIN words of one list among another's, by their places ===== -/
theorem goodIn_r {big : List Cond} (ws : List Cond) (ps : List Nat) (hp : ws = ps.filterMap (fun i => big[i]?)) (h : ws.all goodWord = true) : GoodIn big ws := by
  intro w hw
  have h1 := List.all_eq_true.mp h w hw
  rw [hp] at hw
  obtain ⟨i, -, hi⟩ := List.mem_filterMap.mp hw
  have hm : w ∈ big := by first | exact List.mem_of_getElem? hi | exact List.getElem?_mem hi
  exact ⟨hm, good_of_word h1⟩
theorem goodIn_app {big a b : List Cond} (ha : GoodIn big a) (hb : GoodIn big b) : GoodIn big (a ++ b) := fun w h => (List.mem_append.mp h).elim (ha w) (hb w)
theorem goodIn_ca {big a b : List Cond} {c : Cond} (ha : GoodIn big (c :: a)) (hb : GoodIn big b) : GoodIn big (c :: (a ++ b)) := fun w h => (List.mem_cons.mp h).elim (fun e => ha w (List.mem_cons.mpr (Or.inl e))) (fun h => (List.mem_append.mp h).elim (fun h => ha w (List.mem_cons.mpr (Or.inr h))) (hb w))
theorem goodIn_sub {big ws : List Cond} (hm : ∀ w ∈ ws, w ∈ big) (h : ws.all goodWord = true) : GoodIn big ws := fun w hw => ⟨hm w hw, good_of_word (List.all_eq_true.mp h w hw)⟩
/-! ===== END ===== -/

/-! ===== BEGIN printed: names, fields, word lists, decode rows ===== -/
def RX0 : String := "GranaryLadder$CommandText"
def TX0 : u_T := fun k => match k with
  | 0 => ("GranaryLadder$CommandText", "codes", "[I", true)
  | 1 => ("GranaryLadder$CommandText", "length", "I", false)
  | 2 => ("GranaryLadder$CommandText", "cells", "[I", true)
  | 3 => ("GranaryLadder$CommandText", "commands", "I", false)
  | 4 => ("GranaryLadder$CommandText", "nextCell", "I", false)
  | _ => ("GranaryLadder$CommandText", "place", "I", false)
def tyX0 : Nat → FieldType := fun k => match k with
  | 0 => .array .int
  | 1 => .int
  | 2 => .array .int
  | 3 => .int
  | 4 => .int
  | _ => .int
abbrev wsX00 : List Cond := u_ws RX0 TX0 6
theorem nmX0 : ∀ a, a < 6 → ∀ b, b < 6 → a ≠ b → (TX0 a).2.1 ≠ (TX0 b).2.1 := by decide +kernel
theorem tyX0_ok : ∀ k, k < 6 → parseFieldDescriptor (TX0 k).2.2.1 = some (tyX0 k) := by decide +kernel
abbrev cX0_init : ByteArray := prog_2_method_1_code
def yX0_init : MethodName := ⟨RX0, "<init>", "()V"⟩
abbrev cX0_size : ByteArray := prog_2_method_2_code
def yX0_size : MethodName := ⟨RX0, "size", "()I"⟩
abbrev cX0_addCode : ByteArray := prog_2_method_3_code
def yX0_addCode : MethodName := ⟨RX0, "addCode", "(I)I"⟩
abbrev cX0_becomeEmpty : ByteArray := prog_2_method_4_code
def yX0_becomeEmpty : MethodName := ⟨RX0, "becomeEmpty", "()V"⟩
abbrev cX0_faultPosition : ByteArray := prog_2_method_5_code
def yX0_faultPosition : MethodName := ⟨RX0, "faultPosition", "()I"⟩
abbrev cX0_commandCount : ByteArray := prog_2_method_6_code
def yX0_commandCount : MethodName := ⟨RX0, "commandCount", "()I"⟩
abbrev cX0_verb : ByteArray := prog_2_method_7_code
def yX0_verb : MethodName := ⟨RX0, "verb", "(I)I"⟩
abbrev cX0_argument : ByteArray := prog_2_method_8_code
def yX0_argument : MethodName := ⟨RX0, "argument", "(II)I"⟩
abbrev cX0_readCommands : ByteArray := prog_2_method_9_code
def yX0_readCommands : MethodName := ⟨RX0, "readCommands", "()Z"⟩
abbrev cX0_readCommand : ByteArray := prog_2_method_10_code
def yX0_readCommand : MethodName := ⟨RX0, "readCommand", "()Z"⟩
abbrev cX0_patternOf : ByteArray := prog_2_method_11_code
def yX0_patternOf : MethodName := ⟨RX0, "patternOf", "(I)Ljava/lang/String;"⟩
abbrev cX0_readAlong : ByteArray := prog_2_method_12_code
def yX0_readAlong : MethodName := ⟨RX0, "readAlong", "(Ljava/lang/String;)Z"⟩
abbrev cX0_readNumber : ByteArray := prog_2_method_13_code
def yX0_readNumber : MethodName := ⟨RX0, "readNumber", "(I)Z"⟩
abbrev cX0_readKind : ByteArray := prog_2_method_14_code
def yX0_readKind : MethodName := ⟨RX0, "readKind", "()Z"⟩
abbrev cX0_readCode : ByteArray := prog_2_method_15_code
def yX0_readCode : MethodName := ⟨RX0, "readCode", "(I)Z"⟩
abbrev cX0_nextCode : ByteArray := prog_2_method_16_code
def yX0_nextCode : MethodName := ⟨RX0, "nextCode", "()I"⟩
abbrev cX0_addCell : ByteArray := prog_2_method_17_code
def yX0_addCell : MethodName := ⟨RX0, "addCell", "(I)V"⟩
def RX1 : String := "GranaryLadder$Line"
def TX1 : u_T := fun k => match k with
  | 0 => ("GranaryLadder$Line", "codes", "[I", true)
  | _ => ("GranaryLadder$Line", "length", "I", false)
def tyX1 : Nat → FieldType := fun k => match k with
  | 0 => .array .int
  | _ => .int
abbrev wsX10 : List Cond := u_ws RX1 TX1 2
theorem nmX1 : ∀ a, a < 2 → ∀ b, b < 2 → a ≠ b → (TX1 a).2.1 ≠ (TX1 b).2.1 := by decide +kernel
theorem tyX1_ok : ∀ k, k < 2 → parseFieldDescriptor (TX1 k).2.2.1 = some (tyX1 k) := by decide +kernel
abbrev cX1_init : ByteArray := prog_3_method_1_code
def yX1_init : MethodName := ⟨RX1, "<init>", "()V"⟩
abbrev cX1_size : ByteArray := prog_3_method_2_code
def yX1_size : MethodName := ⟨RX1, "size", "()I"⟩
abbrev cX1_becomeEmpty : ByteArray := prog_3_method_3_code
def yX1_becomeEmpty : MethodName := ⟨RX1, "becomeEmpty", "()V"⟩
abbrev cX1_addCode : ByteArray := prog_3_method_4_code
def yX1_addCode : MethodName := ⟨RX1, "addCode", "(I)V"⟩
abbrev cX1_addNumber : ByteArray := prog_3_method_5_code
def yX1_addNumber : MethodName := ⟨RX1, "addNumber", "(I)V"⟩
abbrev cX1_codeAt : ByteArray := prog_3_method_6_code
def yX1_codeAt : MethodName := ⟨RX1, "codeAt", "(I)I"⟩
def RX2 : String := "GranaryLadder$Past"
def TX2 : u_T := fun k => match k with
  | 0 => ("GranaryLadder$Past", "walls", "[LGranaryLadder$Wall;", true)
  | 1 => ("GranaryLadder$Past", "next", "I", false)
  | _ => ("GranaryLadder$Past", "kept", "I", false)
def tyX2 : Nat → FieldType := fun k => match k with
  | 0 => .array (.object "GranaryLadder$Wall")
  | 1 => .int
  | _ => .int
abbrev wsX20 : List Cond := u_ws RX2 TX2 3
theorem nmX2 : ∀ a, a < 3 → ∀ b, b < 3 → a ≠ b → (TX2 a).2.1 ≠ (TX2 b).2.1 := by decide +kernel
theorem tyX2_ok : ∀ k, k < 3 → parseFieldDescriptor (TX2 k).2.2.1 = some (tyX2 k) := by decide +kernel
abbrev cX2_init : ByteArray := prog_4_method_1_code
def yX2_init : MethodName := ⟨RX2, "<init>", "()V"⟩
abbrev cX2_size : ByteArray := prog_4_method_2_code
def yX2_size : MethodName := ⟨RX2, "size", "()I"⟩
abbrev cX2_keep : ByteArray := prog_4_method_3_code
def yX2_keep : MethodName := ⟨RX2, "keep", "(LGranaryLadder$Wall;)V"⟩
abbrev cX2_giveBack : ByteArray := prog_4_method_4_code
def yX2_giveBack : MethodName := ⟨RX2, "giveBack", "(LGranaryLadder$Wall;)V"⟩
abbrev cX2_forget : ByteArray := prog_4_method_5_code
def yX2_forget : MethodName := ⟨RX2, "forget", "()V"⟩
def RX3 : String := "GranaryLadder$Wall"
def TX3 : u_T := fun k => match k with
  | 0 => ("GranaryLadder$Wall", "kinds", "[I", true)
  | 1 => ("GranaryLadder$Wall", "sacks", "[I", true)
  | 2 => ("GranaryLadder$Wall", "ages", "[I", true)
  | 3 => ("GranaryLadder$Wall", "sums", "[I", true)
  | 4 => ("GranaryLadder$Wall", "cracks", "[I", true)
  | _ => ("GranaryLadder$Wall", "counters", "[I", true)
def tyX3 : Nat → FieldType := fun k => match k with
  | 0 => .array .int
  | 1 => .array .int
  | 2 => .array .int
  | 3 => .array .int
  | 4 => .array .int
  | _ => .array .int
abbrev wsX30 : List Cond := u_ws RX3 TX3 6
theorem nmX3 : ∀ a, a < 6 → ∀ b, b < 6 → a ≠ b → (TX3 a).2.1 ≠ (TX3 b).2.1 := by decide +kernel
theorem tyX3_ok : ∀ k, k < 6 → parseFieldDescriptor (TX3 k).2.2.1 = some (tyX3 k) := by decide +kernel
abbrev cX3_init : ByteArray := prog_5_method_1_code
def yX3_init : MethodName := ⟨RX3, "<init>", "()V"⟩
abbrev cX3_copyFrom : ByteArray := prog_5_method_2_code
def yX3_copyFrom : MethodName := ⟨RX3, "copyFrom", "(LGranaryLadder$Wall;)V"⟩
abbrev cX3_isEmpty : ByteArray := prog_5_method_3_code
def yX3_isEmpty : MethodName := ⟨RX3, "isEmpty", "(I)Z"⟩
abbrev cX3_kindIn : ByteArray := prog_5_method_4_code
def yX3_kindIn : MethodName := ⟨RX3, "kindIn", "(I)I"⟩
abbrev cX3_sacksIn : ByteArray := prog_5_method_5_code
def yX3_sacksIn : MethodName := ⟨RX3, "sacksIn", "(I)I"⟩
abbrev cX3_ageIn : ByteArray := prog_5_method_6_code
def yX3_ageIn : MethodName := ⟨RX3, "ageIn", "(I)I"⟩
abbrev cX3_sumOf : ByteArray := prog_5_method_7_code
def yX3_sumOf : MethodName := ⟨RX3, "sumOf", "(I)I"⟩
abbrev cX3_isCracked : ByteArray := prog_5_method_8_code
def yX3_isCracked : MethodName := ⟨RX3, "isCracked", "(I)Z"⟩
abbrev cX3_makeSound : ByteArray := prog_5_method_9_code
def yX3_makeSound : MethodName := ⟨RX3, "makeSound", "(I)V"⟩
abbrev cX3_counted : ByteArray := prog_5_method_10_code
def yX3_counted : MethodName := ⟨RX3, "counted", "(I)I"⟩
abbrev cX3_count : ByteArray := prog_5_method_11_code
def yX3_count : MethodName := ⟨RX3, "count", "(II)V"⟩
abbrev cX3_bring : ByteArray := prog_5_method_12_code
def yX3_bring : MethodName := ⟨RX3, "bring", "(IIII)I"⟩
abbrev cX3_remove : ByteArray := prog_5_method_13_code
def yX3_remove : MethodName := ⟨RX3, "remove", "(II)V"⟩
abbrev cX3_changeSacks : ByteArray := prog_5_method_14_code
def yX3_changeSacks : MethodName := ⟨RX3, "changeSacks", "(II)V"⟩
abbrev cX3_crackOver : ByteArray := prog_5_method_15_code
def yX3_crackOver : MethodName := ⟨RX3, "crackOver", "(I)I"⟩
abbrev cX3_cracksUnder : ByteArray := prog_5_method_16_code
def yX3_cracksUnder : MethodName := ⟨RX3, "cracksUnder", "(II)Z"⟩
abbrev cX3_rungsOver : ByteArray := prog_5_method_17_code
def yX3_rungsOver : MethodName := ⟨RX3, "rungsOver", "(I)I"⟩
abbrev cX3_crackedOver : ByteArray := prog_5_method_18_code
def yX3_crackedOver : MethodName := ⟨RX3, "crackedOver", "(I)I"⟩
abbrev cX3_sumByClimbing : ByteArray := prog_5_method_19_code
def yX3_sumByClimbing : MethodName := ⟨RX3, "sumByClimbing", "(I)I"⟩
abbrev cX3_sumByBays : ByteArray := prog_5_method_20_code
def yX3_sumByBays : MethodName := ⟨RX3, "sumByBays", "(II)I"⟩
abbrev cX3_allSacks : ByteArray := prog_5_method_21_code
def yX3_allSacks : MethodName := ⟨RX3, "allSacks", "()I"⟩
abbrev cX3_sacksOfKind : ByteArray := prog_5_method_22_code
def yX3_sacksOfKind : MethodName := ⟨RX3, "sacksOfKind", "(I)I"⟩
abbrev cX3_sacksAsOldAs : ByteArray := prog_5_method_23_code
def yX3_sacksAsOldAs : MethodName := ⟨RX3, "sacksAsOldAs", "(I)I"⟩
abbrev cX3_filledBays : ByteArray := prog_5_method_24_code
def yX3_filledBays : MethodName := ⟨RX3, "filledBays", "()I"⟩
abbrev cX3_crackedRungs : ByteArray := prog_5_method_25_code
def yX3_crackedRungs : MethodName := ⟨RX3, "crackedRungs", "()I"⟩
abbrev cX3_placeOf : ByteArray := prog_5_method_26_code
def yX3_placeOf : MethodName := ⟨RX3, "placeOf", "(I)I"⟩
abbrev cX3_isAhead : ByteArray := prog_5_method_27_code
def yX3_isAhead : MethodName := ⟨RX3, "isAhead", "(II)Z"⟩
abbrev cX3_oldestOfKind : ByteArray := prog_5_method_28_code
def yX3_oldestOfKind : MethodName := ⟨RX3, "oldestOfKind", "(I)I"⟩
abbrev cX3_spoilingAt : ByteArray := prog_5_method_29_code
def yX3_spoilingAt : MethodName := ⟨RX3, "spoilingAt", "(II)I"⟩
abbrev cX3_growOlder : ByteArray := prog_5_method_30_code
def yX3_growOlder : MethodName := ⟨RX3, "growOlder", "()I"⟩
def RX4 : String := "GranaryLadder"
def TX4 : u_T := fun k => match k with
  | 0 => ("GranaryLadder", "now", "LGranaryLadder$Wall;", true)
  | 1 => ("GranaryLadder", "before", "LGranaryLadder$Wall;", true)
  | 2 => ("GranaryLadder", "snapshot", "LGranaryLadder$Wall;", true)
  | 3 => ("GranaryLadder", "hasSnapshot", "Z", false)
  | 4 => ("GranaryLadder", "past", "LGranaryLadder$Past;", true)
  | 5 => ("GranaryLadder", "text", "LGranaryLadder$CommandText;", true)
  | 6 => ("GranaryLadder", "line", "LGranaryLadder$Line;", true)
  | 7 => ("GranaryLadder", "latestReason", "I", false)
  | 8 => ("GranaryLadder", "latestDetail", "I", false)
  | _ => ("GranaryLadder", "stepsOfRungs", "[I", true)
def tyX4 : Nat → FieldType := fun k => match k with
  | 0 => .object "GranaryLadder$Wall"
  | 1 => .object "GranaryLadder$Wall"
  | 2 => .object "GranaryLadder$Wall"
  | 3 => .boolean
  | 4 => .object "GranaryLadder$Past"
  | 5 => .object "GranaryLadder$CommandText"
  | 6 => .object "GranaryLadder$Line"
  | 7 => .int
  | 8 => .int
  | _ => .array .int
abbrev wsX40 : List Cond := u_ws RX4 TX4 10
theorem nmX4 : ∀ a, a < 10 → ∀ b, b < 10 → a ≠ b → (TX4 a).2.1 ≠ (TX4 b).2.1 := by decide +kernel
theorem tyX4_ok : ∀ k, k < 10 → parseFieldDescriptor (TX4 k).2.2.1 = some (tyX4 k) := by decide +kernel
abbrev cX4_init : ByteArray := prog_1_method_1_code
def yX4_init : MethodName := ⟨RX4, "<init>", "()V"⟩
abbrev cX4_store : ByteArray := prog_1_method_2_code
def yX4_store : MethodName := ⟨RX4, "store", "(III)I"⟩
abbrev cX4_take : ByteArray := prog_1_method_3_code
def yX4_take : MethodName := ⟨RX4, "take", "(II)I"⟩
abbrev cX4_move : ByteArray := prog_1_method_4_code
def yX4_move : MethodName := ⟨RX4, "move", "(III)I"⟩
abbrev cX4_order : ByteArray := prog_1_method_5_code
def yX4_order : MethodName := ⟨RX4, "order", "(II)I"⟩
abbrev cX4_fix : ByteArray := prog_1_method_6_code
def yX4_fix : MethodName := ⟨RX4, "fix", "(I)I"⟩
abbrev cX4_pass : ByteArray := prog_1_method_7_code
def yX4_pass : MethodName := ⟨RX4, "pass", "(I)I"⟩
abbrev cX4_bayOf : ByteArray := prog_1_method_8_code
def yX4_bayOf : MethodName := ⟨RX4, "bayOf", "(II)I"⟩
abbrev cX4_rungOf : ByteArray := prog_1_method_9_code
def yX4_rungOf : MethodName := ⟨RX4, "rungOf", "(II)I"⟩
abbrev cX4_sum : ByteArray := prog_1_method_10_code
def yX4_sum : MethodName := ⟨RX4, "sum", "(II)I"⟩
abbrev cX4_sumAgain : ByteArray := prog_1_method_11_code
def yX4_sumAgain : MethodName := ⟨RX4, "sumAgain", "(II)I"⟩
abbrev cX4_reach : ByteArray := prog_1_method_12_code
def yX4_reach : MethodName := ⟨RX4, "reach", "(I)I"⟩
abbrev cX4_reachAgain : ByteArray := prog_1_method_13_code
def yX4_reachAgain : MethodName := ⟨RX4, "reachAgain", "(I)I"⟩
abbrev cX4_steps : ByteArray := prog_1_method_14_code
def yX4_steps : MethodName := ⟨RX4, "steps", "(I)I"⟩
abbrev cX4_stepsAgain : ByteArray := prog_1_method_15_code
def yX4_stepsAgain : MethodName := ⟨RX4, "stepsAgain", "(I)I"⟩
abbrev cX4_oldest : ByteArray := prog_1_method_16_code
def yX4_oldest : MethodName := ⟨RX4, "oldest", "(I)I"⟩
abbrev cX4_commonAge : ByteArray := prog_1_method_17_code
def yX4_commonAge : MethodName := ⟨RX4, "commonAge", "()I"⟩
abbrev cX4_tightest : ByteArray := prog_1_method_18_code
def yX4_tightest : MethodName := ⟨RX4, "tightest", "()I"⟩
abbrev cX4_bestBay : ByteArray := prog_1_method_19_code
def yX4_bestBay : MethodName := ⟨RX4, "bestBay", "(II)I"⟩
abbrev cX4_price : ByteArray := prog_1_method_20_code
def yX4_price : MethodName := ⟨RX4, "price", "(II)I"⟩
abbrev cX4_append : ByteArray := prog_1_method_21_code
def yX4_append : MethodName := ⟨RX4, "append", "(I)I"⟩
abbrev cX4_run : ByteArray := prog_1_method_22_code
def yX4_run : MethodName := ⟨RX4, "run", "()I"⟩
abbrev cX4_tellRung : ByteArray := prog_1_method_24_code
def yX4_tellRung : MethodName := ⟨RX4, "tellRung", "(I)I"⟩
abbrev cX4_character : ByteArray := prog_1_method_25_code
def yX4_character : MethodName := ⟨RX4, "character", "(I)I"⟩
abbrev cX4_reason : ByteArray := prog_1_method_26_code
def yX4_reason : MethodName := ⟨RX4, "reason", "(Z)I"⟩
abbrev cX4_account : ByteArray := prog_1_method_27_code
def yX4_account : MethodName := ⟨RX4, "account", "(I)I"⟩
abbrev cX4_isBalanced : ByteArray := prog_1_method_28_code
def yX4_isBalanced : MethodName := ⟨RX4, "isBalanced", "()I"⟩
abbrev cX4_meanSacks : ByteArray := prog_1_method_29_code
def yX4_meanSacks : MethodName := ⟨RX4, "meanSacks", "()D"⟩
abbrev cX4_soundShare : ByteArray := prog_1_method_30_code
def yX4_soundShare : MethodName := ⟨RX4, "soundShare", "()F"⟩
abbrev cX4_undo : ByteArray := prog_1_method_31_code
def yX4_undo : MethodName := ⟨RX4, "undo", "()I"⟩
abbrev cX4_save : ByteArray := prog_1_method_32_code
def yX4_save : MethodName := ⟨RX4, "save", "()I"⟩
abbrev cX4_restore : ByteArray := prog_1_method_33_code
def yX4_restore : MethodName := ⟨RX4, "restore", "()I"⟩
abbrev cX4_storeSacks : ByteArray := prog_1_method_34_code
def yX4_storeSacks : MethodName := ⟨RX4, "storeSacks", "(III)I"⟩
abbrev cX4_takeSacks : ByteArray := prog_1_method_35_code
def yX4_takeSacks : MethodName := ⟨RX4, "takeSacks", "(II)I"⟩
abbrev cX4_moveSacks : ByteArray := prog_1_method_36_code
def yX4_moveSacks : MethodName := ⟨RX4, "moveSacks", "(III)I"⟩
abbrev cX4_fillOrder : ByteArray := prog_1_method_37_code
def yX4_fillOrder : MethodName := ⟨RX4, "fillOrder", "(II)I"⟩
abbrev cX4_mend : ByteArray := prog_1_method_38_code
def yX4_mend : MethodName := ⟨RX4, "mend", "(I)I"⟩
abbrev cX4_letWeeksPass : ByteArray := prog_1_method_39_code
def yX4_letWeeksPass : MethodName := ⟨RX4, "letWeeksPass", "(I)I"⟩
abbrev cX4_carryOut : ByteArray := prog_1_method_40_code
def yX4_carryOut : MethodName := ⟨RX4, "carryOut", "(I)I"⟩
abbrev cX4_remember : ByteArray := prog_1_method_41_code
def yX4_remember : MethodName := ⟨RX4, "remember", "(I)I"⟩
abbrev cX4_refuse : ByteArray := prog_1_method_42_code
def yX4_refuse : MethodName := ⟨RX4, "refuse", "(II)I"⟩
abbrev cX4_hasRoom : ByteArray := prog_1_method_43_code
def yX4_hasRoom : MethodName := ⟨RX4, "hasRoom", "(III)Z"⟩
abbrev cX4_refuseRoom : ByteArray := prog_1_method_44_code
def yX4_refuseRoom : MethodName := ⟨RX4, "refuseRoom", "(III)I"⟩
abbrev cX4_hasSacks : ByteArray := prog_1_method_45_code
def yX4_hasSacks : MethodName := ⟨RX4, "hasSacks", "(II)Z"⟩
abbrev cX4_refuseSacks : ByteArray := prog_1_method_46_code
def yX4_refuseSacks : MethodName := ⟨RX4, "refuseSacks", "(I)I"⟩
abbrev cX4_stepsBelow : ByteArray := prog_1_method_47_code
def yX4_stepsBelow : MethodName := ⟨RX4, "stepsBelow", "(LGranaryLadder$Wall;II)I"⟩
abbrev cX4_stepsByKnown : ByteArray := prog_1_method_48_code
def yX4_stepsByKnown : MethodName := ⟨RX4, "stepsByKnown", "(I)I"⟩
abbrev cX4_knownSteps : ByteArray := prog_1_method_49_code
def yX4_knownSteps : MethodName := ⟨RX4, "knownSteps", "(II)I"⟩
abbrev cX4_isWithin : ByteArray := prog_1_method_50_code
def yX4_isWithin : MethodName := ⟨RX4, "isWithin", "(III)Z"⟩
abbrev cX4_isBay : ByteArray := prog_1_method_51_code
def yX4_isBay : MethodName := ⟨RX4, "isBay", "(I)Z"⟩
abbrev cX4_isRung : ByteArray := prog_1_method_52_code
def yX4_isRung : MethodName := ⟨RX4, "isRung", "(I)Z"⟩
abbrev cX4_isKind : ByteArray := prog_1_method_53_code
def yX4_isKind : MethodName := ⟨RX4, "isKind", "(I)Z"⟩
abbrev cX4_sizeOf : ByteArray := prog_1_method_54_code
def yX4_sizeOf : MethodName := ⟨RX4, "sizeOf", "(I)I"⟩
abbrev cX4_loadOf : ByteArray := prog_1_method_55_code
def yX4_loadOf : MethodName := ⟨RX4, "loadOf", "(I)I"⟩
abbrev cX4_firstBayOf : ByteArray := prog_1_method_56_code
def yX4_firstBayOf : MethodName := ⟨RX4, "firstBayOf", "(I)I"⟩
abbrev cX4_rungsBelow : ByteArray := prog_1_method_57_code
def yX4_rungsBelow : MethodName := ⟨RX4, "rungsBelow", "(I)I"⟩
abbrev cX4_coinsFor : ByteArray := prog_1_method_58_code
def yX4_coinsFor : MethodName := ⟨RX4, "coinsFor", "(II)I"⟩
abbrev cX4_at : ByteArray := prog_1_method_59_code
def yX4_at : MethodName := ⟨RX4, "at", "([II)I"⟩
abbrev cX4_put : ByteArray := prog_1_method_60_code
def yX4_put : MethodName := ⟨RX4, "put", "([III)V"⟩
abbrev cX4_copyRow : ByteArray := prog_1_method_61_code
def yX4_copyRow : MethodName := ⟨RX4, "copyRow", "([I[I)V"⟩
def RX5 : String := "GranaryLadderModel"
def TX5 : u_T := fun k => match k with
  | _ => ("", "", "", false)
def tyX5 : Nat → FieldType := fun k => match k with
  | _ => .int
abbrev wsX50 : List Cond := u_ws RX5 TX5 0
theorem nmX5 : ∀ a, a < 0 → ∀ b, b < 0 → a ≠ b → (TX5 a).2.1 ≠ (TX5 b).2.1 := by decide +kernel
theorem tyX5_ok : ∀ k, k < 0 → parseFieldDescriptor (TX5 k).2.2.1 = some (tyX5 k) := by decide +kernel
def RJ6 : String := "java/lang/Integer"
def TJ6 : u_T := fun k => match k with
  | _ => ("", "", "", false)
def tyJ6 : Nat → FieldType := fun k => match k with
  | _ => .int
abbrev wsJ60 : List Cond := u_ws RJ6 TJ6 0
theorem nmJ6 : ∀ a, a < 0 → ∀ b, b < 0 → a ≠ b → (TJ6 a).2.1 ≠ (TJ6 b).2.1 := by decide +kernel
theorem tyJ6_ok : ∀ k, k < 0 → parseFieldDescriptor (TJ6 k).2.2.1 = some (tyJ6 k) := by decide +kernel
abbrev cJ6_bitCount_0f7a4 : ByteArray := prog_8_method_49_code
def yJ6_bitCount_0f7a4 : MethodName := ⟨RJ6, "bitCount", "(I)I"⟩
def RJ9 : String := "java/lang/Math"
def TJ9 : u_T := fun k => match k with
  | _ => ("", "", "", false)
def tyJ9 : Nat → FieldType := fun k => match k with
  | _ => .int
abbrev wsJ90 : List Cond := u_ws RJ9 TJ9 0
theorem nmJ9 : ∀ a, a < 0 → ∀ b, b < 0 → a ≠ b → (TJ9 a).2.1 ≠ (TJ9 b).2.1 := by decide +kernel
theorem tyJ9_ok : ∀ k, k < 0 → parseFieldDescriptor (TJ9 k).2.2.1 = some (tyJ9 k) := by decide +kernel
abbrev cJ9_max_7cf53 : ByteArray := prog_9_method_65_code
def yJ9_max_7cf53 : MethodName := ⟨RJ9, "max", "(II)I"⟩
abbrev cJ9_min_7cf53 : ByteArray := prog_9_method_69_code
def yJ9_min_7cf53 : MethodName := ⟨RJ9, "min", "(II)I"⟩
def RJ0 : String := "java/lang/String"
def TJ0 : u_T := fun k => match k with
  | _ => ("", "", "", false)
def tyJ0 : Nat → FieldType := fun k => match k with
  | _ => .int
abbrev wsJ00 : List Cond := u_ws RJ0 TJ0 0
theorem nmJ0 : ∀ a, a < 0 → ∀ b, b < 0 → a ≠ b → (TJ0 a).2.1 ≠ (TJ0 b).2.1 := by decide +kernel
theorem tyJ0_ok : ∀ k, k < 0 → parseFieldDescriptor (TJ0 k).2.2.1 = some (tyJ0 k) := by decide +kernel
abbrev cJ0_length_8abf5 : ByteArray := prog_10_method_54_code
def yJ0_length_8abf5 : MethodName := ⟨RJ0, "length", "()I"⟩
abbrev cJ0_isEmpty_aae02 : ByteArray := prog_10_method_55_code
def yJ0_isEmpty_aae02 : MethodName := ⟨RJ0, "isEmpty", "()Z"⟩
abbrev cJ0_charAt_5068e : ByteArray := prog_10_method_56_code
def yJ0_charAt_5068e : MethodName := ⟨RJ0, "charAt", "(I)C"⟩
abbrev cJ0_coder_7d493 : ByteArray := prog_10_method_152_code
def yJ0_coder_7d493 : MethodName := ⟨RJ0, "coder", "()B"⟩
abbrev cJ0_isLatin1_aae02 : ByteArray := prog_10_method_154_code
def yJ0_isLatin1_aae02 : MethodName := ⟨RJ0, "isLatin1", "()Z"⟩
abbrev cJ0_checkIndex_df160 : ByteArray := prog_10_method_155_code
def yJ0_checkIndex_df160 : MethodName := ⟨RJ0, "checkIndex", "(II)V"⟩
def RJ1 : String := "java/lang/StringLatin1"
def TJ1 : u_T := fun k => match k with
  | _ => ("", "", "", false)
def tyJ1 : Nat → FieldType := fun k => match k with
  | _ => .int
abbrev wsJ10 : List Cond := u_ws RJ1 TJ1 0
theorem nmJ1 : ∀ a, a < 0 → ∀ b, b < 0 → a ≠ b → (TJ1 a).2.1 ≠ (TJ1 b).2.1 := by decide +kernel
theorem tyJ1_ok : ∀ k, k < 0 → parseFieldDescriptor (TJ1 k).2.2.1 = some (tyJ1 k) := by decide +kernel
abbrev cJ1_charAt_3b067 : ByteArray := prog_11_method_2_code
def yJ1_charAt_3b067 : MethodName := ⟨RJ1, "charAt", "([BI)C"⟩
def RJ2 : String := "java/lang/StringUTF16"
def TJ2 : u_T := fun k => match k with
  | _ => ("", "", "", false)
def tyJ2 : Nat → FieldType := fun k => match k with
  | _ => .int
abbrev wsJ20 : List Cond := u_ws RJ2 TJ2 0
theorem nmJ2 : ∀ a, a < 0 → ∀ b, b < 0 → a ≠ b → (TJ2 a).2.1 ≠ (TJ2 b).2.1 := by decide +kernel
theorem tyJ2_ok : ∀ k, k < 0 → parseFieldDescriptor (TJ2 k).2.2.1 = some (tyJ2 k) := by decide +kernel
abbrev cJ2_getChar_3b067 : ByteArray := prog_12_method_5_code
def yJ2_getChar_3b067 : MethodName := ⟨RJ2, "getChar", "([BI)C"⟩
abbrev cJ2_length_9d52b : ByteArray := prog_12_method_6_code
def yJ2_length_9d52b : MethodName := ⟨RJ2, "length", "([B)I"⟩
abbrev cJ2_charAt_3b067 : ByteArray := prog_12_method_83_code
def yJ2_charAt_3b067 : MethodName := ⟨RJ2, "charAt", "([BI)C"⟩
abbrev cJ2_checkIndex_2214a : ByteArray := prog_12_method_91_code
def yJ2_checkIndex_2214a : MethodName := ⟨RJ2, "checkIndex", "(I[B)V"⟩
def RJ3 : String := "jdk/internal/util/Preconditions"
def TJ3 : u_T := fun k => match k with
  | _ => ("", "", "", false)
def tyJ3 : Nat → FieldType := fun k => match k with
  | _ => .int
abbrev wsJ30 : List Cond := u_ws RJ3 TJ3 0
theorem nmJ3 : ∀ a, a < 0 → ∀ b, b < 0 → a ≠ b → (TJ3 a).2.1 ≠ (TJ3 b).2.1 := by decide +kernel
theorem tyJ3_ok : ∀ k, k < 0 → parseFieldDescriptor (TJ3 k).2.2.1 = some (tyJ3 k) := by decide +kernel
abbrev cJ3_checkIndex_8e157 : ByteArray := prog_13_method_11_code
def yJ3_checkIndex_8e157 : MethodName := ⟨RJ3, "checkIndex", "(IILjava/util/function/BiFunction;)I"⟩
def RL : String := "GranaryLadderLaw"
abbrev cL_cell : ByteArray := method_2_code
def yL_cell : MethodName := ⟨RL, "cell", "([II)I"⟩
abbrev cL_write : ByteArray := method_3_code
def yL_write : MethodName := ⟨RL, "write", "(LGranaryLadder;Ljava/lang/String;)LGranaryLadder;"⟩
abbrev cL_act : ByteArray := method_4_code
def yL_act : MethodName := ⟨RL, "act", "(LGranaryLadder;I)I"⟩
abbrev cL_digest : ByteArray := method_5_code
def yL_digest : MethodName := ⟨RL, "digest", "(LGranaryLadder;)J"⟩
abbrev cL_keeps : ByteArray := method_6_code
def yL_keeps : MethodName := ⟨RL, "keeps", "(I)I"⟩
abbrev cL_isBay : ByteArray := method_7_code
def yL_isBay : MethodName := ⟨RL, "isBay", "(LGranaryLadder;I)Z"⟩
abbrev cL_isRung : ByteArray := method_8_code
def yL_isRung : MethodName := ⟨RL, "isRung", "(LGranaryLadder;I)Z"⟩
abbrev cL_areRanks : ByteArray := method_9_code
def yL_areRanks : MethodName := ⟨RL, "areRanks", "(LGranaryLadder;)Z"⟩
abbrev cL_areReached : ByteArray := method_10_code
def yL_areReached : MethodName := ⟨RL, "areReached", "(LGranaryLadder;)Z"⟩
abbrev cL_isFit : ByteArray := method_11_code
def yL_isFit : MethodName := ⟨RL, "isFit", "(LGranaryLadder;)Z"⟩
abbrev cL_isBest : ByteArray := method_12_code
def yL_isBest : MethodName := ⟨RL, "isBest", "(LGranaryLadder;II)Z"⟩
abbrev cL_isSold : ByteArray := method_13_code
def yL_isSold : MethodName := ⟨RL, "isSold", "(LGranaryLadder;II)Z"⟩
abbrev cL_isPassed : ByteArray := method_14_code
def yL_isPassed : MethodName := ⟨RL, "isPassed", "(LGranaryLadder;)Z"⟩
abbrev cL_law : ByteArray := code
def yL_law : MethodName := ⟨RL, "law", "([I)Z"⟩
def wsX0_init : List Cond := .code yX0_init cX0_init 1 none :: ([.methodLink RX0 3 objectInit, .instanceMethod objectInit, .code objectInit ⟨#[0xb1]⟩ 1 none, .arrayClass .int, .fieldLink RX0 9 "GranaryLadder$CommandText" "codes" "[I", .fieldLink RX0 15 "GranaryLadder$CommandText" "length" "I", .fieldLink RX0 19 "GranaryLadder$CommandText" "cells" "[I", .fieldLink RX0 22 "GranaryLadder$CommandText" "commands" "I", .fieldLink RX0 25 "GranaryLadder$CommandText" "nextCell" "I", .fieldLink RX0 28 "GranaryLadder$CommandText" "place" "I"] ++ wsX00)
def wsX0_size : List Cond := .code yX0_size cX0_size 1 (some .int) :: ([.fieldLink RX0 15 "GranaryLadder$CommandText" "length" "I"] ++ wsX00)
def wsX4_put : List Cond := .code yX4_put cX4_put 3 none :: ([])
def wsX0_addCode : List Cond := .code yX0_addCode cX0_addCode 2 (some .int) :: ([.fieldLink RX0 15 "GranaryLadder$CommandText" "length" "I", .fieldLink RX0 9 "GranaryLadder$CommandText" "codes" "[I", .static yX4_put, .initialized RX4, .code yX4_put cX4_put 3 none] ++ wsX00)
def wsX0_becomeEmpty : List Cond := .code yX0_becomeEmpty cX0_becomeEmpty 1 none :: ([.fieldLink RX0 15 "GranaryLadder$CommandText" "length" "I"] ++ wsX00)
def wsX0_faultPosition : List Cond := .code yX0_faultPosition cX0_faultPosition 1 (some .int) :: ([.fieldLink RX0 28 "GranaryLadder$CommandText" "place" "I"] ++ wsX00)
def wsX0_commandCount : List Cond := .code yX0_commandCount cX0_commandCount 1 (some .int) :: ([.fieldLink RX0 22 "GranaryLadder$CommandText" "commands" "I"] ++ wsX00)
def wsX4_at : List Cond := .code yX4_at cX4_at 2 (some .int) :: ([])
def wsX0_verb : List Cond := .code yX0_verb cX0_verb 2 (some .int) :: ([.fieldLink RX0 19 "GranaryLadder$CommandText" "cells" "[I", .static yX4_at, .initialized RX4, .code yX4_at cX4_at 2 (some .int)] ++ wsX00)
def wsX0_argument : List Cond := .code yX0_argument cX0_argument 3 (some .int) :: ([.fieldLink RX0 19 "GranaryLadder$CommandText" "cells" "[I", .static yX4_at, .initialized RX4, .code yX4_at cX4_at 2 (some .int)] ++ wsX00)
def wsX0_patternOf : List Cond := .code yX0_patternOf cX0_patternOf 1 (some (.object "java/lang/String")) :: ([])
def wsJ0_isEmpty_aae02 : List Cond := .code yJ0_isEmpty_aae02 cJ0_isEmpty_aae02 1 (some .boolean) :: ([.fieldLink RJ0 9 "java/lang/String" "value" "[B"])
def wsX0_nextCode : List Cond := .code yX0_nextCode cX0_nextCode 1 (some .int) :: ([.fieldLink RX0 28 "GranaryLadder$CommandText" "place" "I", .fieldLink RX0 15 "GranaryLadder$CommandText" "length" "I", .fieldLink RX0 9 "GranaryLadder$CommandText" "codes" "[I", .static yX4_at, .initialized RX4, .code yX4_at cX4_at 2 (some .int)] ++ wsX00)
def wsJ0_isLatin1_aae02 : List Cond := .code yJ0_isLatin1_aae02 cJ0_isLatin1_aae02 1 (some .boolean) :: ([.fieldLink RJ0 38 "java/lang/String" "COMPACT_STRINGS" "Z", .fieldLink RJ0 15 "java/lang/String" "coder" "B"])
def wsJ3_checkIndex_8e157 : List Cond := .code yJ3_checkIndex_8e157 cJ3_checkIndex_8e157 3 (some .int) :: ([])
def wsJ0_checkIndex_df160 : List Cond := .code yJ0_checkIndex_df160 cJ0_checkIndex_df160 2 none :: ([.fieldLink RJ0 1053 "jdk/internal/util/Preconditions" "SIOOBE_FORMATTER" "Ljava/util/function/BiFunction;", .methodLink RJ0 1059 yJ3_checkIndex_8e157, .static yJ3_checkIndex_8e157, .initialized RJ3, .code yJ3_checkIndex_8e157 cJ3_checkIndex_8e157 3 (some .int)])
def wsJ1_charAt_3b067 : List Cond := .code yJ1_charAt_3b067 cJ1_charAt_3b067 2 (some .char) :: ([.methodLink RJ1 9 yJ0_checkIndex_df160, .static yJ0_checkIndex_df160, .initialized RJ0, .code yJ0_checkIndex_df160 cJ0_checkIndex_df160 2 none, .fieldLink RJ0 1053 "jdk/internal/util/Preconditions" "SIOOBE_FORMATTER" "Ljava/util/function/BiFunction;", .methodLink RJ0 1059 yJ3_checkIndex_8e157, .static yJ3_checkIndex_8e157, .initialized RJ3, .code yJ3_checkIndex_8e157 cJ3_checkIndex_8e157 3 (some .int)])
def wsJ2_length_9d52b : List Cond := .code yJ2_length_9d52b cJ2_length_9d52b 1 (some .int) :: ([])
def wsJ2_checkIndex_2214a : List Cond := .code yJ2_checkIndex_2214a cJ2_checkIndex_2214a 2 none :: ([.methodLink RJ2 48 yJ2_length_9d52b, .static yJ2_length_9d52b, .initialized RJ2, .code yJ2_length_9d52b cJ2_length_9d52b 1 (some .int), .methodLink RJ2 414 yJ0_checkIndex_df160, .static yJ0_checkIndex_df160, .initialized RJ0, .code yJ0_checkIndex_df160 cJ0_checkIndex_df160 2 none, .fieldLink RJ0 1053 "jdk/internal/util/Preconditions" "SIOOBE_FORMATTER" "Ljava/util/function/BiFunction;", .methodLink RJ0 1059 yJ3_checkIndex_8e157, .static yJ3_checkIndex_8e157, .initialized RJ3, .code yJ3_checkIndex_8e157 cJ3_checkIndex_8e157 3 (some .int)])
def wsJ2_getChar_3b067 : List Cond := .code yJ2_getChar_3b067 cJ2_getChar_3b067 2 (some .char) :: ([.fieldLink RJ2 44 "java/lang/StringUTF16" "$assertionsDisabled" "Z", .fieldLink RJ2 59 "java/lang/StringUTF16" "HI_BYTE_SHIFT" "I", .fieldLink RJ2 63 "java/lang/StringUTF16" "LO_BYTE_SHIFT" "I", .methodLink RJ2 48 yJ2_length_9d52b, .static yJ2_length_9d52b, .initialized RJ2, .code yJ2_length_9d52b cJ2_length_9d52b 1 (some .int)])
def wsJ2_charAt_3b067 : List Cond := .code yJ2_charAt_3b067 cJ2_charAt_3b067 2 (some .char) :: ([.methodLink RJ2 67 yJ2_checkIndex_2214a, .static yJ2_checkIndex_2214a, .initialized RJ2, .code yJ2_checkIndex_2214a cJ2_checkIndex_2214a 2 none, .methodLink RJ2 48 yJ2_length_9d52b, .static yJ2_length_9d52b, .code yJ2_length_9d52b cJ2_length_9d52b 1 (some .int), .methodLink RJ2 414 yJ0_checkIndex_df160, .static yJ0_checkIndex_df160, .initialized RJ0, .code yJ0_checkIndex_df160 cJ0_checkIndex_df160 2 none, .fieldLink RJ0 1053 "jdk/internal/util/Preconditions" "SIOOBE_FORMATTER" "Ljava/util/function/BiFunction;", .methodLink RJ0 1059 yJ3_checkIndex_8e157, .static yJ3_checkIndex_8e157, .initialized RJ3, .code yJ3_checkIndex_8e157 cJ3_checkIndex_8e157 3 (some .int), .methodLink RJ2 71 yJ2_getChar_3b067, .static yJ2_getChar_3b067, .code yJ2_getChar_3b067 cJ2_getChar_3b067 2 (some .char), .fieldLink RJ2 44 "java/lang/StringUTF16" "$assertionsDisabled" "Z", .fieldLink RJ2 59 "java/lang/StringUTF16" "HI_BYTE_SHIFT" "I", .fieldLink RJ2 63 "java/lang/StringUTF16" "LO_BYTE_SHIFT" "I"])
def wsJ0_charAt_5068e_r1 : List Cond := [Cond.fieldLink RJ0 9 "java/lang/String" "value" "[B", Cond.methodLink RJ0 492 yJ0_isLatin1_aae02, Cond.instanceMethod yJ0_isLatin1_aae02, Cond.selects RJ0 yJ0_isLatin1_aae02 yJ0_isLatin1_aae02, Cond.initialized RJ0, Cond.code yJ0_isLatin1_aae02 cJ0_isLatin1_aae02 1 (some .boolean), Cond.fieldLink RJ0 38 "java/lang/String" "COMPACT_STRINGS" "Z", Cond.fieldLink RJ0 15 "java/lang/String" "coder" "B", Cond.methodLink RJ0 495 yJ1_charAt_3b067, Cond.static yJ1_charAt_3b067, Cond.initialized RJ1, Cond.code yJ1_charAt_3b067 cJ1_charAt_3b067 2 (some .char), Cond.methodLink RJ1 9 yJ0_checkIndex_df160, Cond.static yJ0_checkIndex_df160, Cond.code yJ0_checkIndex_df160 cJ0_checkIndex_df160 2 none, Cond.fieldLink RJ0 1053 "jdk/internal/util/Preconditions" "SIOOBE_FORMATTER" "Ljava/util/function/BiFunction;", Cond.methodLink RJ0 1059 yJ3_checkIndex_8e157, Cond.static yJ3_checkIndex_8e157, Cond.initialized RJ3, Cond.code yJ3_checkIndex_8e157 cJ3_checkIndex_8e157 3 (some .int), Cond.methodLink RJ0 498 yJ2_charAt_3b067, Cond.static yJ2_charAt_3b067, Cond.initialized RJ2, Cond.code yJ2_charAt_3b067 cJ2_charAt_3b067 2 (some .char)]
def wsJ0_charAt_5068e_r2 : List Cond := [Cond.methodLink RJ2 67 yJ2_checkIndex_2214a, Cond.static yJ2_checkIndex_2214a, Cond.code yJ2_checkIndex_2214a cJ2_checkIndex_2214a 2 none, Cond.methodLink RJ2 48 yJ2_length_9d52b, Cond.static yJ2_length_9d52b, Cond.code yJ2_length_9d52b cJ2_length_9d52b 1 (some .int), Cond.methodLink RJ2 414 yJ0_checkIndex_df160, Cond.methodLink RJ2 71 yJ2_getChar_3b067, Cond.static yJ2_getChar_3b067, Cond.code yJ2_getChar_3b067 cJ2_getChar_3b067 2 (some .char), Cond.fieldLink RJ2 44 "java/lang/StringUTF16" "$assertionsDisabled" "Z", Cond.fieldLink RJ2 59 "java/lang/StringUTF16" "HI_BYTE_SHIFT" "I", Cond.fieldLink RJ2 63 "java/lang/StringUTF16" "LO_BYTE_SHIFT" "I"]
def wsJ0_charAt_5068e : List Cond := .code yJ0_charAt_5068e cJ0_charAt_5068e 2 (some .char) :: ((wsJ0_charAt_5068e_r1 ++ wsJ0_charAt_5068e_r2))
def wsX0_addCell : List Cond := .code yX0_addCell cX0_addCell 2 none :: ([.fieldLink RX0 19 "GranaryLadder$CommandText" "cells" "[I", .fieldLink RX0 25 "GranaryLadder$CommandText" "nextCell" "I", .static yX4_put, .initialized RX4, .code yX4_put cX4_put 3 none] ++ wsX00)
def wsJ0_coder_7d493 : List Cond := .code yJ0_coder_7d493 cJ0_coder_7d493 1 (some .byte) :: ([.fieldLink RJ0 38 "java/lang/String" "COMPACT_STRINGS" "Z", .fieldLink RJ0 15 "java/lang/String" "coder" "B"])
def wsJ0_length_8abf5 : List Cond := .code yJ0_length_8abf5 cJ0_length_8abf5 1 (some .int) :: ([.fieldLink RJ0 9 "java/lang/String" "value" "[B", .methodLink RJ0 335 yJ0_coder_7d493, .instanceMethod yJ0_coder_7d493, .selects RJ0 yJ0_coder_7d493 yJ0_coder_7d493, .initialized RJ0, .code yJ0_coder_7d493 cJ0_coder_7d493 1 (some .byte), .fieldLink RJ0 38 "java/lang/String" "COMPACT_STRINGS" "Z", .fieldLink RJ0 15 "java/lang/String" "coder" "B"])
def wsX4_isWithin : List Cond := .code yX4_isWithin cX4_isWithin 3 (some .boolean) :: ([])
def wsX0_readNumber : List Cond := .code yX0_readNumber cX0_readNumber 4 (some .boolean) :: ([.fieldLink RX0 28 "GranaryLadder$CommandText" "place" "I", .methodLink RX0 56 yX0_nextCode, .instanceMethod yX0_nextCode, .selects RX0 yX0_nextCode yX0_nextCode, .initialized RX0, .code yX0_nextCode cX0_nextCode 1 (some .int), .fieldLink RX0 15 "GranaryLadder$CommandText" "length" "I", .fieldLink RX0 9 "GranaryLadder$CommandText" "codes" "[I", .static yX4_at, .initialized RX4, .code yX4_at cX4_at 2 (some .int), .static yX4_isWithin, .code yX4_isWithin cX4_isWithin 3 (some .boolean), .methodLink RX0 64 yX0_addCell, .instanceMethod yX0_addCell, .selects RX0 yX0_addCell yX0_addCell, .code yX0_addCell cX0_addCell 2 none, .fieldLink RX0 19 "GranaryLadder$CommandText" "cells" "[I", .fieldLink RX0 25 "GranaryLadder$CommandText" "nextCell" "I", .static yX4_put, .code yX4_put cX4_put 3 none] ++ wsX00)
def wsX0_readKind : List Cond := .code yX0_readKind cX0_readKind 2 (some .boolean) :: ([.fieldLink RX0 28 "GranaryLadder$CommandText" "place" "I", .methodLink RX0 56 yX0_nextCode, .instanceMethod yX0_nextCode, .selects RX0 yX0_nextCode yX0_nextCode, .initialized RX0, .code yX0_nextCode cX0_nextCode 1 (some .int), .fieldLink RX0 15 "GranaryLadder$CommandText" "length" "I", .fieldLink RX0 9 "GranaryLadder$CommandText" "codes" "[I", .static yX4_at, .initialized RX4, .code yX4_at cX4_at 2 (some .int), .methodLink RX0 64 yX0_addCell, .instanceMethod yX0_addCell, .selects RX0 yX0_addCell yX0_addCell, .code yX0_addCell cX0_addCell 2 none, .fieldLink RX0 19 "GranaryLadder$CommandText" "cells" "[I", .fieldLink RX0 25 "GranaryLadder$CommandText" "nextCell" "I", .static yX4_put, .code yX4_put cX4_put 3 none] ++ wsX00)
def wsX0_readCode : List Cond := .code yX0_readCode cX0_readCode 2 (some .boolean) :: ([.fieldLink RX0 28 "GranaryLadder$CommandText" "place" "I", .methodLink RX0 56 yX0_nextCode, .instanceMethod yX0_nextCode, .selects RX0 yX0_nextCode yX0_nextCode, .initialized RX0, .code yX0_nextCode cX0_nextCode 1 (some .int), .fieldLink RX0 15 "GranaryLadder$CommandText" "length" "I", .fieldLink RX0 9 "GranaryLadder$CommandText" "codes" "[I", .static yX4_at, .initialized RX4, .code yX4_at cX4_at 2 (some .int)] ++ wsX00)
def wsX0_readAlong_r1 : List Cond := [Cond.methodLink RX0 86 yJ0_length_8abf5, Cond.instanceMethod yJ0_length_8abf5, Cond.selects RJ0 yJ0_length_8abf5 yJ0_length_8abf5, Cond.initialized RJ0, Cond.code yJ0_length_8abf5 cJ0_length_8abf5 1 (some .int), Cond.fieldLink RJ0 9 "java/lang/String" "value" "[B", Cond.methodLink RJ0 335 yJ0_coder_7d493, Cond.instanceMethod yJ0_coder_7d493, Cond.selects RJ0 yJ0_coder_7d493 yJ0_coder_7d493, Cond.code yJ0_coder_7d493 cJ0_coder_7d493 1 (some .byte), Cond.fieldLink RJ0 38 "java/lang/String" "COMPACT_STRINGS" "Z", Cond.fieldLink RJ0 15 "java/lang/String" "coder" "B", Cond.methodLink RX0 60 yJ0_charAt_5068e, Cond.instanceMethod yJ0_charAt_5068e, Cond.selects RJ0 yJ0_charAt_5068e yJ0_charAt_5068e, Cond.code yJ0_charAt_5068e cJ0_charAt_5068e 2 (some .char), Cond.methodLink RJ0 492 yJ0_isLatin1_aae02, Cond.instanceMethod yJ0_isLatin1_aae02, Cond.selects RJ0 yJ0_isLatin1_aae02 yJ0_isLatin1_aae02, Cond.code yJ0_isLatin1_aae02 cJ0_isLatin1_aae02 1 (some .boolean), Cond.methodLink RJ0 495 yJ1_charAt_3b067, Cond.static yJ1_charAt_3b067, Cond.initialized RJ1, Cond.code yJ1_charAt_3b067 cJ1_charAt_3b067 2 (some .char)]
def wsX0_readAlong_r2 : List Cond := [Cond.methodLink RJ1 9 yJ0_checkIndex_df160, Cond.static yJ0_checkIndex_df160, Cond.code yJ0_checkIndex_df160 cJ0_checkIndex_df160 2 none, Cond.fieldLink RJ0 1053 "jdk/internal/util/Preconditions" "SIOOBE_FORMATTER" "Ljava/util/function/BiFunction;", Cond.methodLink RJ0 1059 yJ3_checkIndex_8e157, Cond.static yJ3_checkIndex_8e157, Cond.initialized RJ3, Cond.code yJ3_checkIndex_8e157 cJ3_checkIndex_8e157 3 (some .int), Cond.methodLink RJ0 498 yJ2_charAt_3b067, Cond.static yJ2_charAt_3b067, Cond.initialized RJ2, Cond.code yJ2_charAt_3b067 cJ2_charAt_3b067 2 (some .char), Cond.methodLink RJ2 67 yJ2_checkIndex_2214a, Cond.static yJ2_checkIndex_2214a, Cond.code yJ2_checkIndex_2214a cJ2_checkIndex_2214a 2 none, Cond.methodLink RJ2 48 yJ2_length_9d52b, Cond.static yJ2_length_9d52b, Cond.code yJ2_length_9d52b cJ2_length_9d52b 1 (some .int), Cond.methodLink RJ2 414 yJ0_checkIndex_df160, Cond.methodLink RJ2 71 yJ2_getChar_3b067, Cond.static yJ2_getChar_3b067, Cond.code yJ2_getChar_3b067 cJ2_getChar_3b067 2 (some .char), Cond.fieldLink RJ2 44 "java/lang/StringUTF16" "$assertionsDisabled" "Z", Cond.fieldLink RJ2 59 "java/lang/StringUTF16" "HI_BYTE_SHIFT" "I"]
def wsX0_readAlong_r3 : List Cond := [Cond.fieldLink RJ2 63 "java/lang/StringUTF16" "LO_BYTE_SHIFT" "I", Cond.methodLink RX0 88 yX0_readNumber, Cond.instanceMethod yX0_readNumber, Cond.selects RX0 yX0_readNumber yX0_readNumber, Cond.initialized RX0, Cond.code yX0_readNumber cX0_readNumber 4 (some .boolean), Cond.fieldLink RX0 28 "GranaryLadder$CommandText" "place" "I", Cond.methodLink RX0 56 yX0_nextCode, Cond.instanceMethod yX0_nextCode, Cond.selects RX0 yX0_nextCode yX0_nextCode, Cond.code yX0_nextCode cX0_nextCode 1 (some .int), Cond.fieldLink RX0 15 "GranaryLadder$CommandText" "length" "I", Cond.fieldLink RX0 9 "GranaryLadder$CommandText" "codes" "[I", Cond.static yX4_at, Cond.initialized RX4, Cond.code yX4_at cX4_at 2 (some .int), Cond.static yX4_isWithin, Cond.code yX4_isWithin cX4_isWithin 3 (some .boolean), Cond.methodLink RX0 64 yX0_addCell, Cond.instanceMethod yX0_addCell, Cond.selects RX0 yX0_addCell yX0_addCell, Cond.code yX0_addCell cX0_addCell 2 none, Cond.fieldLink RX0 19 "GranaryLadder$CommandText" "cells" "[I", Cond.fieldLink RX0 25 "GranaryLadder$CommandText" "nextCell" "I"]
def wsX0_readAlong_r4 : List Cond := [Cond.static yX4_put, Cond.code yX4_put cX4_put 3 none, Cond.methodLink RX0 91 yX0_readKind, Cond.instanceMethod yX0_readKind, Cond.selects RX0 yX0_readKind yX0_readKind, Cond.code yX0_readKind cX0_readKind 2 (some .boolean), Cond.methodLink RX0 43 yX0_readCode, Cond.instanceMethod yX0_readCode, Cond.selects RX0 yX0_readCode yX0_readCode, Cond.code yX0_readCode cX0_readCode 2 (some .boolean)]
def wsX0_readAlong : List Cond := .code yX0_readAlong cX0_readAlong 5 (some .boolean) :: ((wsX0_readAlong_r1 ++ (wsX0_readAlong_r2 ++ (wsX0_readAlong_r3 ++ wsX0_readAlong_r4))) ++ wsX00)
def wsX0_readCommand_r1 : List Cond := [Cond.fieldLink RX0 22 "GranaryLadder$CommandText" "commands" "I", Cond.fieldLink RX0 25 "GranaryLadder$CommandText" "nextCell" "I", Cond.methodLink RX0 47 yX0_patternOf, Cond.static yX0_patternOf, Cond.initialized RX0, Cond.code yX0_patternOf cX0_patternOf 1 (some (.object "java/lang/String")), Cond.methodLink RX0 51 yJ0_isEmpty_aae02, Cond.instanceMethod yJ0_isEmpty_aae02, Cond.selects RJ0 yJ0_isEmpty_aae02 yJ0_isEmpty_aae02, Cond.initialized RJ0, Cond.code yJ0_isEmpty_aae02 cJ0_isEmpty_aae02 1 (some .boolean), Cond.fieldLink RJ0 9 "java/lang/String" "value" "[B", Cond.methodLink RX0 56 yX0_nextCode, Cond.instanceMethod yX0_nextCode, Cond.selects RX0 yX0_nextCode yX0_nextCode, Cond.code yX0_nextCode cX0_nextCode 1 (some .int), Cond.fieldLink RX0 28 "GranaryLadder$CommandText" "place" "I", Cond.fieldLink RX0 15 "GranaryLadder$CommandText" "length" "I", Cond.fieldLink RX0 9 "GranaryLadder$CommandText" "codes" "[I", Cond.static yX4_at, Cond.initialized RX4, Cond.code yX4_at cX4_at 2 (some .int), Cond.methodLink RX0 60 yJ0_charAt_5068e, Cond.instanceMethod yJ0_charAt_5068e]
def wsX0_readCommand_r2 : List Cond := [Cond.selects RJ0 yJ0_charAt_5068e yJ0_charAt_5068e, Cond.code yJ0_charAt_5068e cJ0_charAt_5068e 2 (some .char), Cond.methodLink RJ0 492 yJ0_isLatin1_aae02, Cond.instanceMethod yJ0_isLatin1_aae02, Cond.selects RJ0 yJ0_isLatin1_aae02 yJ0_isLatin1_aae02, Cond.code yJ0_isLatin1_aae02 cJ0_isLatin1_aae02 1 (some .boolean), Cond.fieldLink RJ0 38 "java/lang/String" "COMPACT_STRINGS" "Z", Cond.fieldLink RJ0 15 "java/lang/String" "coder" "B", Cond.methodLink RJ0 495 yJ1_charAt_3b067, Cond.static yJ1_charAt_3b067, Cond.initialized RJ1, Cond.code yJ1_charAt_3b067 cJ1_charAt_3b067 2 (some .char), Cond.methodLink RJ1 9 yJ0_checkIndex_df160, Cond.static yJ0_checkIndex_df160, Cond.code yJ0_checkIndex_df160 cJ0_checkIndex_df160 2 none, Cond.fieldLink RJ0 1053 "jdk/internal/util/Preconditions" "SIOOBE_FORMATTER" "Ljava/util/function/BiFunction;", Cond.methodLink RJ0 1059 yJ3_checkIndex_8e157, Cond.static yJ3_checkIndex_8e157, Cond.initialized RJ3, Cond.code yJ3_checkIndex_8e157 cJ3_checkIndex_8e157 3 (some .int), Cond.methodLink RJ0 498 yJ2_charAt_3b067, Cond.static yJ2_charAt_3b067, Cond.initialized RJ2, Cond.code yJ2_charAt_3b067 cJ2_charAt_3b067 2 (some .char)]
def wsX0_readCommand_r3 : List Cond := [Cond.methodLink RJ2 67 yJ2_checkIndex_2214a, Cond.static yJ2_checkIndex_2214a, Cond.code yJ2_checkIndex_2214a cJ2_checkIndex_2214a 2 none, Cond.methodLink RJ2 48 yJ2_length_9d52b, Cond.static yJ2_length_9d52b, Cond.code yJ2_length_9d52b cJ2_length_9d52b 1 (some .int), Cond.methodLink RJ2 414 yJ0_checkIndex_df160, Cond.methodLink RJ2 71 yJ2_getChar_3b067, Cond.static yJ2_getChar_3b067, Cond.code yJ2_getChar_3b067 cJ2_getChar_3b067 2 (some .char), Cond.fieldLink RJ2 44 "java/lang/StringUTF16" "$assertionsDisabled" "Z", Cond.fieldLink RJ2 59 "java/lang/StringUTF16" "HI_BYTE_SHIFT" "I", Cond.fieldLink RJ2 63 "java/lang/StringUTF16" "LO_BYTE_SHIFT" "I", Cond.methodLink RX0 64 yX0_addCell, Cond.instanceMethod yX0_addCell, Cond.selects RX0 yX0_addCell yX0_addCell, Cond.code yX0_addCell cX0_addCell 2 none, Cond.fieldLink RX0 19 "GranaryLadder$CommandText" "cells" "[I", Cond.static yX4_put, Cond.code yX4_put cX4_put 3 none, Cond.methodLink RX0 68 yX0_readAlong, Cond.instanceMethod yX0_readAlong, Cond.selects RX0 yX0_readAlong yX0_readAlong, Cond.code yX0_readAlong cX0_readAlong 5 (some .boolean)]
def wsX0_readCommand_r4 : List Cond := [Cond.methodLink RX0 86 yJ0_length_8abf5, Cond.instanceMethod yJ0_length_8abf5, Cond.selects RJ0 yJ0_length_8abf5 yJ0_length_8abf5, Cond.code yJ0_length_8abf5 cJ0_length_8abf5 1 (some .int), Cond.methodLink RJ0 335 yJ0_coder_7d493, Cond.instanceMethod yJ0_coder_7d493, Cond.selects RJ0 yJ0_coder_7d493 yJ0_coder_7d493, Cond.code yJ0_coder_7d493 cJ0_coder_7d493 1 (some .byte), Cond.methodLink RX0 88 yX0_readNumber, Cond.instanceMethod yX0_readNumber, Cond.selects RX0 yX0_readNumber yX0_readNumber, Cond.code yX0_readNumber cX0_readNumber 4 (some .boolean), Cond.static yX4_isWithin, Cond.code yX4_isWithin cX4_isWithin 3 (some .boolean), Cond.methodLink RX0 91 yX0_readKind, Cond.instanceMethod yX0_readKind, Cond.selects RX0 yX0_readKind yX0_readKind, Cond.code yX0_readKind cX0_readKind 2 (some .boolean), Cond.methodLink RX0 43 yX0_readCode, Cond.instanceMethod yX0_readCode, Cond.selects RX0 yX0_readCode yX0_readCode, Cond.code yX0_readCode cX0_readCode 2 (some .boolean)]
def wsX0_readCommand : List Cond := .code yX0_readCommand cX0_readCommand 3 (some .boolean) :: ((wsX0_readCommand_r1 ++ (wsX0_readCommand_r2 ++ (wsX0_readCommand_r3 ++ wsX0_readCommand_r4))) ++ wsX00)
def wsX0_readCommands_r1 : List Cond := [Cond.fieldLink RX0 28 "GranaryLadder$CommandText" "place" "I", Cond.fieldLink RX0 22 "GranaryLadder$CommandText" "commands" "I", Cond.fieldLink RX0 15 "GranaryLadder$CommandText" "length" "I", Cond.methodLink RX0 39 yX0_readCommand, Cond.instanceMethod yX0_readCommand, Cond.selects RX0 yX0_readCommand yX0_readCommand, Cond.initialized RX0, Cond.code yX0_readCommand cX0_readCommand 3 (some .boolean), Cond.fieldLink RX0 25 "GranaryLadder$CommandText" "nextCell" "I", Cond.methodLink RX0 47 yX0_patternOf, Cond.static yX0_patternOf, Cond.code yX0_patternOf cX0_patternOf 1 (some (.object "java/lang/String")), Cond.methodLink RX0 51 yJ0_isEmpty_aae02, Cond.instanceMethod yJ0_isEmpty_aae02, Cond.selects RJ0 yJ0_isEmpty_aae02 yJ0_isEmpty_aae02, Cond.initialized RJ0, Cond.code yJ0_isEmpty_aae02 cJ0_isEmpty_aae02 1 (some .boolean), Cond.fieldLink RJ0 9 "java/lang/String" "value" "[B", Cond.methodLink RX0 56 yX0_nextCode, Cond.instanceMethod yX0_nextCode, Cond.selects RX0 yX0_nextCode yX0_nextCode, Cond.code yX0_nextCode cX0_nextCode 1 (some .int), Cond.fieldLink RX0 9 "GranaryLadder$CommandText" "codes" "[I", Cond.static yX4_at]
def wsX0_readCommands_r2 : List Cond := [Cond.initialized RX4, Cond.code yX4_at cX4_at 2 (some .int), Cond.methodLink RX0 60 yJ0_charAt_5068e, Cond.instanceMethod yJ0_charAt_5068e, Cond.selects RJ0 yJ0_charAt_5068e yJ0_charAt_5068e, Cond.code yJ0_charAt_5068e cJ0_charAt_5068e 2 (some .char), Cond.methodLink RJ0 492 yJ0_isLatin1_aae02, Cond.instanceMethod yJ0_isLatin1_aae02, Cond.selects RJ0 yJ0_isLatin1_aae02 yJ0_isLatin1_aae02, Cond.code yJ0_isLatin1_aae02 cJ0_isLatin1_aae02 1 (some .boolean), Cond.fieldLink RJ0 38 "java/lang/String" "COMPACT_STRINGS" "Z", Cond.fieldLink RJ0 15 "java/lang/String" "coder" "B", Cond.methodLink RJ0 495 yJ1_charAt_3b067, Cond.static yJ1_charAt_3b067, Cond.initialized RJ1, Cond.code yJ1_charAt_3b067 cJ1_charAt_3b067 2 (some .char), Cond.methodLink RJ1 9 yJ0_checkIndex_df160, Cond.static yJ0_checkIndex_df160, Cond.code yJ0_checkIndex_df160 cJ0_checkIndex_df160 2 none, Cond.fieldLink RJ0 1053 "jdk/internal/util/Preconditions" "SIOOBE_FORMATTER" "Ljava/util/function/BiFunction;", Cond.methodLink RJ0 1059 yJ3_checkIndex_8e157, Cond.static yJ3_checkIndex_8e157, Cond.initialized RJ3, Cond.code yJ3_checkIndex_8e157 cJ3_checkIndex_8e157 3 (some .int)]
def wsX0_readCommands_r3 : List Cond := [Cond.methodLink RJ0 498 yJ2_charAt_3b067, Cond.static yJ2_charAt_3b067, Cond.initialized RJ2, Cond.code yJ2_charAt_3b067 cJ2_charAt_3b067 2 (some .char), Cond.methodLink RJ2 67 yJ2_checkIndex_2214a, Cond.static yJ2_checkIndex_2214a, Cond.code yJ2_checkIndex_2214a cJ2_checkIndex_2214a 2 none, Cond.methodLink RJ2 48 yJ2_length_9d52b, Cond.static yJ2_length_9d52b, Cond.code yJ2_length_9d52b cJ2_length_9d52b 1 (some .int), Cond.methodLink RJ2 414 yJ0_checkIndex_df160, Cond.methodLink RJ2 71 yJ2_getChar_3b067, Cond.static yJ2_getChar_3b067, Cond.code yJ2_getChar_3b067 cJ2_getChar_3b067 2 (some .char), Cond.fieldLink RJ2 44 "java/lang/StringUTF16" "$assertionsDisabled" "Z", Cond.fieldLink RJ2 59 "java/lang/StringUTF16" "HI_BYTE_SHIFT" "I", Cond.fieldLink RJ2 63 "java/lang/StringUTF16" "LO_BYTE_SHIFT" "I", Cond.methodLink RX0 64 yX0_addCell, Cond.instanceMethod yX0_addCell, Cond.selects RX0 yX0_addCell yX0_addCell, Cond.code yX0_addCell cX0_addCell 2 none, Cond.fieldLink RX0 19 "GranaryLadder$CommandText" "cells" "[I", Cond.static yX4_put, Cond.code yX4_put cX4_put 3 none]
def wsX0_readCommands_r4 : List Cond := [Cond.methodLink RX0 68 yX0_readAlong, Cond.instanceMethod yX0_readAlong, Cond.selects RX0 yX0_readAlong yX0_readAlong, Cond.code yX0_readAlong cX0_readAlong 5 (some .boolean), Cond.methodLink RX0 86 yJ0_length_8abf5, Cond.instanceMethod yJ0_length_8abf5, Cond.selects RJ0 yJ0_length_8abf5 yJ0_length_8abf5, Cond.code yJ0_length_8abf5 cJ0_length_8abf5 1 (some .int), Cond.methodLink RJ0 335 yJ0_coder_7d493, Cond.instanceMethod yJ0_coder_7d493, Cond.selects RJ0 yJ0_coder_7d493 yJ0_coder_7d493, Cond.code yJ0_coder_7d493 cJ0_coder_7d493 1 (some .byte), Cond.methodLink RX0 88 yX0_readNumber, Cond.instanceMethod yX0_readNumber, Cond.selects RX0 yX0_readNumber yX0_readNumber, Cond.code yX0_readNumber cX0_readNumber 4 (some .boolean), Cond.static yX4_isWithin, Cond.code yX4_isWithin cX4_isWithin 3 (some .boolean), Cond.methodLink RX0 91 yX0_readKind, Cond.instanceMethod yX0_readKind, Cond.selects RX0 yX0_readKind yX0_readKind, Cond.code yX0_readKind cX0_readKind 2 (some .boolean), Cond.methodLink RX0 43 yX0_readCode, Cond.instanceMethod yX0_readCode]
def wsX0_readCommands_r5 : List Cond := [Cond.selects RX0 yX0_readCode yX0_readCode, Cond.code yX0_readCode cX0_readCode 2 (some .boolean)]
def wsX0_readCommands : List Cond := .code yX0_readCommands cX0_readCommands 2 (some .boolean) :: ((wsX0_readCommands_r1 ++ (wsX0_readCommands_r2 ++ (wsX0_readCommands_r3 ++ (wsX0_readCommands_r4 ++ wsX0_readCommands_r5)))) ++ wsX00)
def wsX1_init : List Cond := .code yX1_init cX1_init 1 none :: ([.methodLink RX1 3 objectInit, .instanceMethod objectInit, .code objectInit ⟨#[0xb1]⟩ 1 none, .arrayClass .int, .fieldLink RX1 9 "GranaryLadder$Line" "codes" "[I", .fieldLink RX1 15 "GranaryLadder$Line" "length" "I"] ++ wsX10)
def wsX1_size : List Cond := .code yX1_size cX1_size 1 (some .int) :: ([.fieldLink RX1 15 "GranaryLadder$Line" "length" "I"] ++ wsX10)
def wsX1_becomeEmpty : List Cond := .code yX1_becomeEmpty cX1_becomeEmpty 1 none :: ([.fieldLink RX1 15 "GranaryLadder$Line" "length" "I"] ++ wsX10)
def wsX1_addCode : List Cond := .code yX1_addCode cX1_addCode 2 none :: ([.fieldLink RX1 15 "GranaryLadder$Line" "length" "I", .fieldLink RX1 9 "GranaryLadder$Line" "codes" "[I", .static yX4_put, .initialized RX4, .code yX4_put cX4_put 3 none] ++ wsX10)
def wsX1_addNumber : List Cond := .code yX1_addNumber cX1_addNumber 3 none :: ([.methodLink RX1 23 yX1_addCode, .instanceMethod yX1_addCode, .selects RX1 yX1_addCode yX1_addCode, .initialized RX1, .code yX1_addCode cX1_addCode 2 none, .fieldLink RX1 15 "GranaryLadder$Line" "length" "I", .fieldLink RX1 9 "GranaryLadder$Line" "codes" "[I", .static yX4_put, .initialized RX4, .code yX4_put cX4_put 3 none] ++ wsX10)
def wsX1_codeAt : List Cond := .code yX1_codeAt cX1_codeAt 2 (some .int) :: ([.fieldLink RX1 15 "GranaryLadder$Line" "length" "I", .fieldLink RX1 9 "GranaryLadder$Line" "codes" "[I", .static yX4_isWithin, .initialized RX4, .code yX4_isWithin cX4_isWithin 3 (some .boolean), .static yX4_at, .code yX4_at cX4_at 2 (some .int)] ++ wsX10)
def wsX3_init : List Cond := .code yX3_init cX3_init 1 none :: ([.methodLink RX3 3 objectInit, .instanceMethod objectInit, .code objectInit ⟨#[0xb1]⟩ 1 none, .arrayClass .int, .fieldLink RX3 9 "GranaryLadder$Wall" "kinds" "[I", .fieldLink RX3 15 "GranaryLadder$Wall" "sacks" "[I", .fieldLink RX3 18 "GranaryLadder$Wall" "ages" "[I", .fieldLink RX3 21 "GranaryLadder$Wall" "sums" "[I", .fieldLink RX3 24 "GranaryLadder$Wall" "cracks" "[I", .fieldLink RX3 27 "GranaryLadder$Wall" "counters" "[I"] ++ wsX30)
def wsX2_init : List Cond := .code yX2_init cX2_init 2 none :: ([.methodLink RX2 3 objectInit, .instanceMethod objectInit, .code objectInit ⟨#[0xb1]⟩ 1 none, .classLink RX2 9 RX3, .fieldLink RX2 11 "GranaryLadder$Past" "walls" "[LGranaryLadder$Wall;", .fieldLink RX2 17 "GranaryLadder$Past" "next" "I", .fieldLink RX2 21 "GranaryLadder$Past" "kept" "I", .instantiable RX3 6, .initialized RX3, .methodLink RX2 24 yX3_init, .instanceMethod yX3_init, .code yX3_init cX3_init 1 none, .methodLink RX3 3 objectInit, .arrayClass .int, .fieldLink RX3 9 "GranaryLadder$Wall" "kinds" "[I", .fieldLink RX3 15 "GranaryLadder$Wall" "sacks" "[I", .fieldLink RX3 18 "GranaryLadder$Wall" "ages" "[I", .fieldLink RX3 21 "GranaryLadder$Wall" "sums" "[I", .fieldLink RX3 24 "GranaryLadder$Wall" "cracks" "[I", .fieldLink RX3 27 "GranaryLadder$Wall" "counters" "[I"] ++ wsX20 ++ wsX30)
def wsX2_size : List Cond := .code yX2_size cX2_size 1 (some .int) :: ([.fieldLink RX2 21 "GranaryLadder$Past" "kept" "I"] ++ wsX20)
def wsX4_copyRow : List Cond := .code yX4_copyRow cX4_copyRow 3 none :: ([])
def wsX3_copyFrom : List Cond := .code yX3_copyFrom cX3_copyFrom 2 none :: ([.fieldLink RX3 9 "GranaryLadder$Wall" "kinds" "[I", .fieldLink RX3 15 "GranaryLadder$Wall" "sacks" "[I", .fieldLink RX3 18 "GranaryLadder$Wall" "ages" "[I", .fieldLink RX3 21 "GranaryLadder$Wall" "sums" "[I", .fieldLink RX3 24 "GranaryLadder$Wall" "cracks" "[I", .fieldLink RX3 27 "GranaryLadder$Wall" "counters" "[I", .static yX4_copyRow, .initialized RX4, .code yX4_copyRow cX4_copyRow 3 none] ++ wsX30)
def wsX2_keep : List Cond := .code yX2_keep cX2_keep 2 none :: ([.fieldLink RX2 17 "GranaryLadder$Past" "next" "I", .fieldLink RX2 11 "GranaryLadder$Past" "walls" "[LGranaryLadder$Wall;", .fieldLink RX2 21 "GranaryLadder$Past" "kept" "I", .methodLink RX2 29 Lib.Math.min.name, .static Lib.Math.min.name, .initialized "java/lang/Math", .code Lib.Math.min.name Lib.Math.min.code 2 (some .int), .methodLink RX2 25 yX3_copyFrom, .instanceMethod yX3_copyFrom, .selects RX3 yX3_copyFrom yX3_copyFrom, .initialized RX3, .code yX3_copyFrom cX3_copyFrom 2 none, .fieldLink RX3 9 "GranaryLadder$Wall" "kinds" "[I", .fieldLink RX3 15 "GranaryLadder$Wall" "sacks" "[I", .fieldLink RX3 18 "GranaryLadder$Wall" "ages" "[I", .fieldLink RX3 21 "GranaryLadder$Wall" "sums" "[I", .fieldLink RX3 24 "GranaryLadder$Wall" "cracks" "[I", .fieldLink RX3 27 "GranaryLadder$Wall" "counters" "[I", .static yX4_copyRow, .initialized RX4, .code yX4_copyRow cX4_copyRow 3 none] ++ wsX20 ++ wsX30)
def wsX2_giveBack : List Cond := .code yX2_giveBack cX2_giveBack 2 none :: ([.fieldLink RX2 17 "GranaryLadder$Past" "next" "I", .fieldLink RX2 21 "GranaryLadder$Past" "kept" "I", .methodLink RX2 35 Lib.Math.max.name, .static Lib.Math.max.name, .initialized "java/lang/Math", .code Lib.Math.max.name Lib.Math.max.code 2 (some .int), .fieldLink RX2 11 "GranaryLadder$Past" "walls" "[LGranaryLadder$Wall;", .methodLink RX2 25 yX3_copyFrom, .instanceMethod yX3_copyFrom, .selects RX3 yX3_copyFrom yX3_copyFrom, .initialized RX3, .code yX3_copyFrom cX3_copyFrom 2 none, .fieldLink RX3 9 "GranaryLadder$Wall" "kinds" "[I", .fieldLink RX3 15 "GranaryLadder$Wall" "sacks" "[I", .fieldLink RX3 18 "GranaryLadder$Wall" "ages" "[I", .fieldLink RX3 21 "GranaryLadder$Wall" "sums" "[I", .fieldLink RX3 24 "GranaryLadder$Wall" "cracks" "[I", .fieldLink RX3 27 "GranaryLadder$Wall" "counters" "[I", .static yX4_copyRow, .initialized RX4, .code yX4_copyRow cX4_copyRow 3 none] ++ wsX20 ++ wsX30)
def wsX2_forget : List Cond := .code yX2_forget cX2_forget 1 none :: ([.fieldLink RX2 21 "GranaryLadder$Past" "kept" "I"] ++ wsX20)
def wsX3_isEmpty : List Cond := .code yX3_isEmpty cX3_isEmpty 2 (some .boolean) :: ([.fieldLink RX3 15 "GranaryLadder$Wall" "sacks" "[I", .static yX4_at, .initialized RX4, .code yX4_at cX4_at 2 (some .int)] ++ wsX30)
def wsX3_kindIn : List Cond := .code yX3_kindIn cX3_kindIn 2 (some .int) :: ([.fieldLink RX3 9 "GranaryLadder$Wall" "kinds" "[I", .static yX4_at, .initialized RX4, .code yX4_at cX4_at 2 (some .int)] ++ wsX30)
def wsX3_sacksIn : List Cond := .code yX3_sacksIn cX3_sacksIn 2 (some .int) :: ([.fieldLink RX3 15 "GranaryLadder$Wall" "sacks" "[I", .static yX4_at, .initialized RX4, .code yX4_at cX4_at 2 (some .int)] ++ wsX30)
def wsX3_ageIn : List Cond := .code yX3_ageIn cX3_ageIn 2 (some .int) :: ([.fieldLink RX3 18 "GranaryLadder$Wall" "ages" "[I", .static yX4_at, .initialized RX4, .code yX4_at cX4_at 2 (some .int)] ++ wsX30)
def wsX3_sumOf : List Cond := .code yX3_sumOf cX3_sumOf 2 (some .int) :: ([.fieldLink RX3 21 "GranaryLadder$Wall" "sums" "[I", .static yX4_at, .initialized RX4, .code yX4_at cX4_at 2 (some .int)] ++ wsX30)
def wsX3_isCracked : List Cond := .code yX3_isCracked cX3_isCracked 2 (some .boolean) :: ([.fieldLink RX3 24 "GranaryLadder$Wall" "cracks" "[I", .static yX4_at, .initialized RX4, .code yX4_at cX4_at 2 (some .int)] ++ wsX30)
def wsX3_makeSound : List Cond := .code yX3_makeSound cX3_makeSound 2 none :: ([.fieldLink RX3 24 "GranaryLadder$Wall" "cracks" "[I", .static yX4_put, .initialized RX4, .code yX4_put cX4_put 3 none] ++ wsX30)
def wsX3_counted : List Cond := .code yX3_counted cX3_counted 2 (some .int) :: ([.fieldLink RX3 27 "GranaryLadder$Wall" "counters" "[I", .static yX4_at, .initialized RX4, .code yX4_at cX4_at 2 (some .int)] ++ wsX30)
def wsX3_count : List Cond := .code yX3_count cX3_count 3 none :: ([.fieldLink RX3 27 "GranaryLadder$Wall" "counters" "[I", .static yX4_at, .initialized RX4, .code yX4_at cX4_at 2 (some .int), .static yX4_put, .code yX4_put cX4_put 3 none] ++ wsX30)
def wsX4_sizeOf : List Cond := .code yX4_sizeOf cX4_sizeOf 1 (some .int) :: ([])
def wsX3_changeSacks : List Cond := .code yX3_changeSacks cX3_changeSacks 5 none :: ([.fieldLink RX3 15 "GranaryLadder$Wall" "sacks" "[I", .fieldLink RX3 21 "GranaryLadder$Wall" "sums" "[I", .static yX4_at, .initialized RX4, .code yX4_at cX4_at 2 (some .int), .static yX4_put, .code yX4_put cX4_put 3 none, .static yX4_sizeOf, .code yX4_sizeOf cX4_sizeOf 1 (some .int)] ++ wsX30)
def wsX4_loadOf : List Cond := .code yX4_loadOf cX4_loadOf 1 (some .int) :: ([.methodLink RX4 114 yX4_sizeOf, .static yX4_sizeOf, .initialized RX4, .code yX4_sizeOf cX4_sizeOf 1 (some .int)])
def wsX3_crackOver_r1 : List Cond := [Cond.fieldLink RX3 24 "GranaryLadder$Wall" "cracks" "[I", Cond.methodLink RX3 57 yX3_isCracked, Cond.instanceMethod yX3_isCracked, Cond.selects RX3 yX3_isCracked yX3_isCracked, Cond.initialized RX3, Cond.code yX3_isCracked cX3_isCracked 2 (some .boolean), Cond.static yX4_at, Cond.initialized RX4, Cond.code yX4_at cX4_at 2 (some .int), Cond.methodLink RX3 60 yX3_sumOf, Cond.instanceMethod yX3_sumOf, Cond.selects RX3 yX3_sumOf yX3_sumOf, Cond.code yX3_sumOf cX3_sumOf 2 (some .int), Cond.fieldLink RX3 21 "GranaryLadder$Wall" "sums" "[I", Cond.static yX4_loadOf, Cond.code yX4_loadOf cX4_loadOf 1 (some .int), Cond.methodLink RX4 114 yX4_sizeOf, Cond.static yX4_sizeOf, Cond.code yX4_sizeOf cX4_sizeOf 1 (some .int), Cond.static yX4_put, Cond.code yX4_put cX4_put 3 none, Cond.methodLink RX3 66 yX3_count, Cond.instanceMethod yX3_count, Cond.selects RX3 yX3_count yX3_count]
def wsX3_crackOver_r2 : List Cond := [Cond.code yX3_count cX3_count 3 none, Cond.fieldLink RX3 27 "GranaryLadder$Wall" "counters" "[I"]
def wsX3_crackOver : List Cond := .code yX3_crackOver cX3_crackOver 5 (some .int) :: ((wsX3_crackOver_r1 ++ wsX3_crackOver_r2) ++ wsX30)
def wsX3_bring_r1 : List Cond := [Cond.fieldLink RX3 9 "GranaryLadder$Wall" "kinds" "[I", Cond.fieldLink RX3 18 "GranaryLadder$Wall" "ages" "[I", Cond.static yX4_put, Cond.initialized RX4, Cond.code yX4_put cX4_put 3 none, Cond.methodLink RX3 42 yX3_changeSacks, Cond.instanceMethod yX3_changeSacks, Cond.selects RX3 yX3_changeSacks yX3_changeSacks, Cond.initialized RX3, Cond.code yX3_changeSacks cX3_changeSacks 5 none, Cond.fieldLink RX3 15 "GranaryLadder$Wall" "sacks" "[I", Cond.fieldLink RX3 21 "GranaryLadder$Wall" "sums" "[I", Cond.static yX4_at, Cond.code yX4_at cX4_at 2 (some .int), Cond.static yX4_sizeOf, Cond.code yX4_sizeOf cX4_sizeOf 1 (some .int), Cond.methodLink RX3 46 yX3_crackOver, Cond.instanceMethod yX3_crackOver, Cond.selects RX3 yX3_crackOver yX3_crackOver, Cond.code yX3_crackOver cX3_crackOver 5 (some .int), Cond.fieldLink RX3 24 "GranaryLadder$Wall" "cracks" "[I", Cond.methodLink RX3 57 yX3_isCracked, Cond.instanceMethod yX3_isCracked, Cond.selects RX3 yX3_isCracked yX3_isCracked]
def wsX3_bring_r2 : List Cond := [Cond.code yX3_isCracked cX3_isCracked 2 (some .boolean), Cond.methodLink RX3 60 yX3_sumOf, Cond.instanceMethod yX3_sumOf, Cond.selects RX3 yX3_sumOf yX3_sumOf, Cond.code yX3_sumOf cX3_sumOf 2 (some .int), Cond.static yX4_loadOf, Cond.code yX4_loadOf cX4_loadOf 1 (some .int), Cond.methodLink RX4 114 yX4_sizeOf, Cond.methodLink RX3 66 yX3_count, Cond.instanceMethod yX3_count, Cond.selects RX3 yX3_count yX3_count, Cond.code yX3_count cX3_count 3 none, Cond.fieldLink RX3 27 "GranaryLadder$Wall" "counters" "[I"]
def wsX3_bring : List Cond := .code yX3_bring cX3_bring 5 (some .int) :: ((wsX3_bring_r1 ++ wsX3_bring_r2) ++ wsX30)
def wsX3_remove : List Cond := .code yX3_remove cX3_remove 3 none :: ([.fieldLink RX3 9 "GranaryLadder$Wall" "kinds" "[I", .fieldLink RX3 18 "GranaryLadder$Wall" "ages" "[I", .methodLink RX3 42 yX3_changeSacks, .instanceMethod yX3_changeSacks, .selects RX3 yX3_changeSacks yX3_changeSacks, .initialized RX3, .code yX3_changeSacks cX3_changeSacks 5 none, .fieldLink RX3 15 "GranaryLadder$Wall" "sacks" "[I", .fieldLink RX3 21 "GranaryLadder$Wall" "sums" "[I", .static yX4_at, .initialized RX4, .code yX4_at cX4_at 2 (some .int), .static yX4_put, .code yX4_put cX4_put 3 none, .static yX4_sizeOf, .code yX4_sizeOf cX4_sizeOf 1 (some .int), .methodLink RX3 50 yX3_isEmpty, .instanceMethod yX3_isEmpty, .selects RX3 yX3_isEmpty yX3_isEmpty, .code yX3_isEmpty cX3_isEmpty 2 (some .boolean)] ++ wsX30)
def wsX3_cracksUnder : List Cond := .code yX3_cracksUnder cX3_cracksUnder 5 (some .boolean) :: ([.methodLink RX3 57 yX3_isCracked, .instanceMethod yX3_isCracked, .selects RX3 yX3_isCracked yX3_isCracked, .initialized RX3, .code yX3_isCracked cX3_isCracked 2 (some .boolean), .fieldLink RX3 24 "GranaryLadder$Wall" "cracks" "[I", .static yX4_at, .initialized RX4, .code yX4_at cX4_at 2 (some .int), .methodLink RX3 60 yX3_sumOf, .instanceMethod yX3_sumOf, .selects RX3 yX3_sumOf yX3_sumOf, .code yX3_sumOf cX3_sumOf 2 (some .int), .fieldLink RX3 21 "GranaryLadder$Wall" "sums" "[I", .static yX4_loadOf, .code yX4_loadOf cX4_loadOf 1 (some .int), .methodLink RX4 114 yX4_sizeOf, .static yX4_sizeOf, .code yX4_sizeOf cX4_sizeOf 1 (some .int)] ++ wsX30)
def wsX3_rungsOver : List Cond := .code yX3_rungsOver cX3_rungsOver 5 (some .int) :: ([.static yX4_sizeOf, .initialized RX4, .code yX4_sizeOf cX4_sizeOf 1 (some .int)])
def wsX3_crackedOver : List Cond := .code yX3_crackedOver cX3_crackedOver 5 (some .int) :: ([.methodLink RX3 57 yX3_isCracked, .instanceMethod yX3_isCracked, .selects RX3 yX3_isCracked yX3_isCracked, .initialized RX3, .code yX3_isCracked cX3_isCracked 2 (some .boolean), .fieldLink RX3 24 "GranaryLadder$Wall" "cracks" "[I", .static yX4_at, .initialized RX4, .code yX4_at cX4_at 2 (some .int), .static yX4_sizeOf, .code yX4_sizeOf cX4_sizeOf 1 (some .int)] ++ wsX30)
def wsX3_sumByClimbing : List Cond := .code yX3_sumByClimbing cX3_sumByClimbing 5 (some .int) :: ([.methodLink RX3 60 yX3_sumOf, .instanceMethod yX3_sumOf, .selects RX3 yX3_sumOf yX3_sumOf, .initialized RX3, .code yX3_sumOf cX3_sumOf 2 (some .int), .fieldLink RX3 21 "GranaryLadder$Wall" "sums" "[I", .static yX4_at, .initialized RX4, .code yX4_at cX4_at 2 (some .int), .static yX4_sizeOf, .code yX4_sizeOf cX4_sizeOf 1 (some .int)] ++ wsX30)
def wsX3_sumByBays : List Cond := .code yX3_sumByBays cX3_sumByBays 5 (some .int) :: ([.methodLink RX3 69 yX3_sacksIn, .instanceMethod yX3_sacksIn, .selects RX3 yX3_sacksIn yX3_sacksIn, .initialized RX3, .code yX3_sacksIn cX3_sacksIn 2 (some .int), .fieldLink RX3 15 "GranaryLadder$Wall" "sacks" "[I", .static yX4_at, .initialized RX4, .code yX4_at cX4_at 2 (some .int)] ++ wsX30)
def wsX3_allSacks : List Cond := .code yX3_allSacks cX3_allSacks 1 (some .int) :: ([.methodLink RX3 72 yX3_sumByBays, .instanceMethod yX3_sumByBays, .selects RX3 yX3_sumByBays yX3_sumByBays, .initialized RX3, .code yX3_sumByBays cX3_sumByBays 5 (some .int), .methodLink RX3 69 yX3_sacksIn, .instanceMethod yX3_sacksIn, .selects RX3 yX3_sacksIn yX3_sacksIn, .code yX3_sacksIn cX3_sacksIn 2 (some .int), .fieldLink RX3 15 "GranaryLadder$Wall" "sacks" "[I", .static yX4_at, .initialized RX4, .code yX4_at cX4_at 2 (some .int)] ++ wsX30)
def wsX3_sacksOfKind : List Cond := .code yX3_sacksOfKind cX3_sacksOfKind 4 (some .int) :: ([.methodLink RX3 76 yX3_kindIn, .instanceMethod yX3_kindIn, .selects RX3 yX3_kindIn yX3_kindIn, .initialized RX3, .code yX3_kindIn cX3_kindIn 2 (some .int), .fieldLink RX3 9 "GranaryLadder$Wall" "kinds" "[I", .static yX4_at, .initialized RX4, .code yX4_at cX4_at 2 (some .int), .methodLink RX3 69 yX3_sacksIn, .instanceMethod yX3_sacksIn, .selects RX3 yX3_sacksIn yX3_sacksIn, .code yX3_sacksIn cX3_sacksIn 2 (some .int), .fieldLink RX3 15 "GranaryLadder$Wall" "sacks" "[I"] ++ wsX30)
def wsX3_sacksAsOldAs : List Cond := .code yX3_sacksAsOldAs cX3_sacksAsOldAs 4 (some .int) :: ([.methodLink RX3 79 yX3_ageIn, .instanceMethod yX3_ageIn, .selects RX3 yX3_ageIn yX3_ageIn, .initialized RX3, .code yX3_ageIn cX3_ageIn 2 (some .int), .fieldLink RX3 18 "GranaryLadder$Wall" "ages" "[I", .static yX4_at, .initialized RX4, .code yX4_at cX4_at 2 (some .int), .methodLink RX3 69 yX3_sacksIn, .instanceMethod yX3_sacksIn, .selects RX3 yX3_sacksIn yX3_sacksIn, .code yX3_sacksIn cX3_sacksIn 2 (some .int), .fieldLink RX3 15 "GranaryLadder$Wall" "sacks" "[I"] ++ wsX30)
def wsX3_filledBays : List Cond := .code yX3_filledBays cX3_filledBays 3 (some .int) :: ([.methodLink RX3 50 yX3_isEmpty, .instanceMethod yX3_isEmpty, .selects RX3 yX3_isEmpty yX3_isEmpty, .initialized RX3, .code yX3_isEmpty cX3_isEmpty 2 (some .boolean), .fieldLink RX3 15 "GranaryLadder$Wall" "sacks" "[I", .static yX4_at, .initialized RX4, .code yX4_at cX4_at 2 (some .int)] ++ wsX30)
def wsX3_crackedRungs : List Cond := .code yX3_crackedRungs cX3_crackedRungs 3 (some .int) :: ([.methodLink RX3 57 yX3_isCracked, .instanceMethod yX3_isCracked, .selects RX3 yX3_isCracked yX3_isCracked, .initialized RX3, .code yX3_isCracked cX3_isCracked 2 (some .boolean), .fieldLink RX3 24 "GranaryLadder$Wall" "cracks" "[I", .static yX4_at, .initialized RX4, .code yX4_at cX4_at 2 (some .int)] ++ wsX30)
def wsX3_isAhead : List Cond := .code yX3_isAhead cX3_isAhead 3 (some .boolean) :: ([.methodLink RX3 79 yX3_ageIn, .instanceMethod yX3_ageIn, .selects RX3 yX3_ageIn yX3_ageIn, .initialized RX3, .code yX3_ageIn cX3_ageIn 2 (some .int), .fieldLink RX3 18 "GranaryLadder$Wall" "ages" "[I", .static yX4_at, .initialized RX4, .code yX4_at cX4_at 2 (some .int), .methodLink RX3 69 yX3_sacksIn, .instanceMethod yX3_sacksIn, .selects RX3 yX3_sacksIn yX3_sacksIn, .code yX3_sacksIn cX3_sacksIn 2 (some .int), .fieldLink RX3 15 "GranaryLadder$Wall" "sacks" "[I"] ++ wsX30)
def wsX3_placeOf : List Cond := .code yX3_placeOf cX3_placeOf 4 (some .int) :: ([.methodLink RX3 50 yX3_isEmpty, .instanceMethod yX3_isEmpty, .selects RX3 yX3_isEmpty yX3_isEmpty, .initialized RX3, .code yX3_isEmpty cX3_isEmpty 2 (some .boolean), .fieldLink RX3 15 "GranaryLadder$Wall" "sacks" "[I", .static yX4_at, .initialized RX4, .code yX4_at cX4_at 2 (some .int), .methodLink RX3 82 yX3_isAhead, .instanceMethod yX3_isAhead, .selects RX3 yX3_isAhead yX3_isAhead, .code yX3_isAhead cX3_isAhead 3 (some .boolean), .methodLink RX3 79 yX3_ageIn, .instanceMethod yX3_ageIn, .selects RX3 yX3_ageIn yX3_ageIn, .code yX3_ageIn cX3_ageIn 2 (some .int), .fieldLink RX3 18 "GranaryLadder$Wall" "ages" "[I", .methodLink RX3 69 yX3_sacksIn, .instanceMethod yX3_sacksIn, .selects RX3 yX3_sacksIn yX3_sacksIn, .code yX3_sacksIn cX3_sacksIn 2 (some .int)] ++ wsX30)
def wsX3_oldestOfKind : List Cond := .code yX3_oldestOfKind cX3_oldestOfKind 4 (some .int) :: ([.methodLink RX3 50 yX3_isEmpty, .instanceMethod yX3_isEmpty, .selects RX3 yX3_isEmpty yX3_isEmpty, .initialized RX3, .code yX3_isEmpty cX3_isEmpty 2 (some .boolean), .fieldLink RX3 15 "GranaryLadder$Wall" "sacks" "[I", .static yX4_at, .initialized RX4, .code yX4_at cX4_at 2 (some .int), .methodLink RX3 76 yX3_kindIn, .instanceMethod yX3_kindIn, .selects RX3 yX3_kindIn yX3_kindIn, .code yX3_kindIn cX3_kindIn 2 (some .int), .fieldLink RX3 9 "GranaryLadder$Wall" "kinds" "[I", .methodLink RX3 79 yX3_ageIn, .instanceMethod yX3_ageIn, .selects RX3 yX3_ageIn yX3_ageIn, .code yX3_ageIn cX3_ageIn 2 (some .int), .fieldLink RX3 18 "GranaryLadder$Wall" "ages" "[I"] ++ wsX30)
def wsX3_spoilingAt : List Cond := .code yX3_spoilingAt cX3_spoilingAt 3 (some .int) :: ([.methodLink RX3 76 yX3_kindIn, .instanceMethod yX3_kindIn, .selects RX3 yX3_kindIn yX3_kindIn, .initialized RX3, .code yX3_kindIn cX3_kindIn 2 (some .int), .fieldLink RX3 9 "GranaryLadder$Wall" "kinds" "[I", .static yX4_at, .initialized RX4, .code yX4_at cX4_at 2 (some .int), .methodLink RX3 69 yX3_sacksIn, .instanceMethod yX3_sacksIn, .selects RX3 yX3_sacksIn yX3_sacksIn, .code yX3_sacksIn cX3_sacksIn 2 (some .int), .fieldLink RX3 15 "GranaryLadder$Wall" "sacks" "[I"] ++ wsX30)
def wsX3_growOlder_r1 : List Cond := [Cond.fieldLink RX3 18 "GranaryLadder$Wall" "ages" "[I", Cond.methodLink RX3 50 yX3_isEmpty, Cond.instanceMethod yX3_isEmpty, Cond.selects RX3 yX3_isEmpty yX3_isEmpty, Cond.initialized RX3, Cond.code yX3_isEmpty cX3_isEmpty 2 (some .boolean), Cond.fieldLink RX3 15 "GranaryLadder$Wall" "sacks" "[I", Cond.static yX4_at, Cond.initialized RX4, Cond.code yX4_at cX4_at 2 (some .int), Cond.methodLink RX3 79 yX3_ageIn, Cond.instanceMethod yX3_ageIn, Cond.selects RX3 yX3_ageIn yX3_ageIn, Cond.code yX3_ageIn cX3_ageIn 2 (some .int), Cond.static yX4_put, Cond.code yX4_put cX4_put 3 none, Cond.methodLink RX3 89 yX3_spoilingAt, Cond.instanceMethod yX3_spoilingAt, Cond.selects RX3 yX3_spoilingAt yX3_spoilingAt, Cond.code yX3_spoilingAt cX3_spoilingAt 3 (some .int), Cond.methodLink RX3 76 yX3_kindIn, Cond.instanceMethod yX3_kindIn, Cond.selects RX3 yX3_kindIn yX3_kindIn, Cond.code yX3_kindIn cX3_kindIn 2 (some .int)]
def wsX3_growOlder_r2 : List Cond := [Cond.fieldLink RX3 9 "GranaryLadder$Wall" "kinds" "[I", Cond.methodLink RX3 69 yX3_sacksIn, Cond.instanceMethod yX3_sacksIn, Cond.selects RX3 yX3_sacksIn yX3_sacksIn, Cond.code yX3_sacksIn cX3_sacksIn 2 (some .int), Cond.methodLink RX3 92 yX3_remove, Cond.instanceMethod yX3_remove, Cond.selects RX3 yX3_remove yX3_remove, Cond.code yX3_remove cX3_remove 3 none, Cond.methodLink RX3 42 yX3_changeSacks, Cond.instanceMethod yX3_changeSacks, Cond.selects RX3 yX3_changeSacks yX3_changeSacks, Cond.code yX3_changeSacks cX3_changeSacks 5 none, Cond.fieldLink RX3 21 "GranaryLadder$Wall" "sums" "[I", Cond.static yX4_sizeOf, Cond.code yX4_sizeOf cX4_sizeOf 1 (some .int)]
def wsX3_growOlder : List Cond := .code yX3_growOlder cX3_growOlder 4 (some .int) :: ((wsX3_growOlder_r1 ++ wsX3_growOlder_r2) ++ wsX30)
def wsX4_init_r1 : List Cond := [Cond.methodLink RX4 1 objectInit, Cond.instanceMethod objectInit, Cond.code objectInit ⟨#[0xb1]⟩ 1 none, Cond.classLink RX4 7 RX3, Cond.instantiable RX3 6, Cond.initialized RX3, Cond.fieldLink RX4 10 "GranaryLadder" "now" "LGranaryLadder$Wall;", Cond.fieldLink RX4 16 "GranaryLadder" "before" "LGranaryLadder$Wall;", Cond.fieldLink RX4 19 "GranaryLadder" "snapshot" "LGranaryLadder$Wall;", Cond.fieldLink RX4 22 "GranaryLadder" "hasSnapshot" "Z", Cond.classLink RX4 26 RX2, Cond.instantiable RX2 3, Cond.initialized RX2, Cond.fieldLink RX4 29 "GranaryLadder" "past" "LGranaryLadder$Past;", Cond.classLink RX4 33 RX0, Cond.instantiable RX0 6, Cond.initialized RX0, Cond.fieldLink RX4 36 "GranaryLadder" "text" "LGranaryLadder$CommandText;", Cond.classLink RX4 40 RX1, Cond.instantiable RX1 2, Cond.initialized RX1, Cond.fieldLink RX4 43 "GranaryLadder" "line" "LGranaryLadder$Line;", Cond.fieldLink RX4 47 "GranaryLadder" "latestReason" "I", Cond.fieldLink RX4 51 "GranaryLadder" "latestDetail" "I"]
def wsX4_init_r2 : List Cond := [Cond.arrayClass .int, Cond.fieldLink RX4 54 "GranaryLadder" "stepsOfRungs" "[I", Cond.methodLink RX4 9 yX3_init, Cond.instanceMethod yX3_init, Cond.code yX3_init cX3_init 1 none, Cond.methodLink RX3 3 objectInit, Cond.fieldLink RX3 9 "GranaryLadder$Wall" "kinds" "[I", Cond.fieldLink RX3 15 "GranaryLadder$Wall" "sacks" "[I", Cond.fieldLink RX3 18 "GranaryLadder$Wall" "ages" "[I", Cond.fieldLink RX3 21 "GranaryLadder$Wall" "sums" "[I", Cond.fieldLink RX3 24 "GranaryLadder$Wall" "cracks" "[I", Cond.fieldLink RX3 27 "GranaryLadder$Wall" "counters" "[I", Cond.methodLink RX4 28 yX2_init, Cond.instanceMethod yX2_init, Cond.code yX2_init cX2_init 2 none, Cond.methodLink RX2 3 objectInit, Cond.classLink RX2 9 RX3, Cond.fieldLink RX2 11 "GranaryLadder$Past" "walls" "[LGranaryLadder$Wall;", Cond.fieldLink RX2 17 "GranaryLadder$Past" "next" "I", Cond.fieldLink RX2 21 "GranaryLadder$Past" "kept" "I", Cond.methodLink RX2 24 yX3_init, Cond.instanceMethod yX0_init, Cond.code yX0_init cX0_init 1 none, Cond.methodLink RX0 3 objectInit]
def wsX4_init_r3 : List Cond := [Cond.fieldLink RX0 9 "GranaryLadder$CommandText" "codes" "[I", Cond.fieldLink RX0 15 "GranaryLadder$CommandText" "length" "I", Cond.fieldLink RX0 19 "GranaryLadder$CommandText" "cells" "[I", Cond.fieldLink RX0 22 "GranaryLadder$CommandText" "commands" "I", Cond.fieldLink RX0 25 "GranaryLadder$CommandText" "nextCell" "I", Cond.fieldLink RX0 28 "GranaryLadder$CommandText" "place" "I", Cond.instanceMethod yX1_init, Cond.code yX1_init cX1_init 1 none, Cond.methodLink RX1 3 objectInit, Cond.fieldLink RX1 9 "GranaryLadder$Line" "codes" "[I", Cond.fieldLink RX1 15 "GranaryLadder$Line" "length" "I"]
def wsX4_init : List Cond := .code yX4_init cX4_init 1 none :: ((wsX4_init_r1 ++ (wsX4_init_r2 ++ wsX4_init_r3)) ++ wsX30 ++ wsX40 ++ wsX20 ++ wsX00 ++ wsX10)
def wsX4_isBay : List Cond := .code yX4_isBay cX4_isBay 1 (some .boolean) :: ([.methodLink RX4 138 yX4_isWithin, .static yX4_isWithin, .initialized RX4, .code yX4_isWithin cX4_isWithin 3 (some .boolean)])
def wsX4_isKind : List Cond := .code yX4_isKind cX4_isKind 1 (some .boolean) :: ([.methodLink RX4 138 yX4_isWithin, .static yX4_isWithin, .initialized RX4, .code yX4_isWithin cX4_isWithin 3 (some .boolean)])
def wsX4_hasRoom : List Cond := .code yX4_hasRoom cX4_hasRoom 4 (some .boolean) :: ([.fieldLink RX4 10 "GranaryLadder" "now" "LGranaryLadder$Wall;", .methodLink RX4 90 yX3_isEmpty, .instanceMethod yX3_isEmpty, .selects RX3 yX3_isEmpty yX3_isEmpty, .initialized RX3, .code yX3_isEmpty cX3_isEmpty 2 (some .boolean), .fieldLink RX3 15 "GranaryLadder$Wall" "sacks" "[I", .static yX4_at, .initialized RX4, .code yX4_at cX4_at 2 (some .int), .methodLink RX4 93 yX3_kindIn, .instanceMethod yX3_kindIn, .selects RX3 yX3_kindIn yX3_kindIn, .code yX3_kindIn cX3_kindIn 2 (some .int), .fieldLink RX3 9 "GranaryLadder$Wall" "kinds" "[I", .methodLink RX4 96 yX3_sacksIn, .instanceMethod yX3_sacksIn, .selects RX3 yX3_sacksIn yX3_sacksIn, .code yX3_sacksIn cX3_sacksIn 2 (some .int)] ++ wsX40 ++ wsX30)
def wsX4_refuse : List Cond := .code yX4_refuse cX4_refuse 3 (some .int) :: ([.fieldLink RX4 47 "GranaryLadder" "latestReason" "I", .fieldLink RX4 51 "GranaryLadder" "latestDetail" "I"] ++ wsX40)
def wsX4_refuseRoom : List Cond := .code yX4_refuseRoom cX4_refuseRoom 4 (some .int) :: ([.fieldLink RX4 10 "GranaryLadder" "now" "LGranaryLadder$Wall;", .methodLink RX4 93 yX3_kindIn, .instanceMethod yX3_kindIn, .selects RX3 yX3_kindIn yX3_kindIn, .initialized RX3, .code yX3_kindIn cX3_kindIn 2 (some .int), .fieldLink RX3 9 "GranaryLadder$Wall" "kinds" "[I", .static yX4_at, .initialized RX4, .code yX4_at cX4_at 2 (some .int), .methodLink RX4 195 yX4_refuse, .instanceMethod yX4_refuse, .selects RX4 yX4_refuse yX4_refuse, .code yX4_refuse cX4_refuse 3 (some .int), .fieldLink RX4 47 "GranaryLadder" "latestReason" "I", .fieldLink RX4 51 "GranaryLadder" "latestDetail" "I", .methodLink RX4 96 yX3_sacksIn, .instanceMethod yX3_sacksIn, .selects RX3 yX3_sacksIn yX3_sacksIn, .code yX3_sacksIn cX3_sacksIn 2 (some .int), .fieldLink RX3 15 "GranaryLadder$Wall" "sacks" "[I"] ++ wsX40 ++ wsX30)
def wsX4_storeSacks_r1 : List Cond := [Cond.fieldLink RX4 10 "GranaryLadder" "now" "LGranaryLadder$Wall;", Cond.methodLink RX4 86 yX4_isBay, Cond.static yX4_isBay, Cond.initialized RX4, Cond.code yX4_isBay cX4_isBay 1 (some .boolean), Cond.methodLink RX4 138 yX4_isWithin, Cond.static yX4_isWithin, Cond.code yX4_isWithin cX4_isWithin 3 (some .boolean), Cond.methodLink RX4 162 yX4_isKind, Cond.static yX4_isKind, Cond.code yX4_isKind cX4_isKind 1 (some .boolean), Cond.methodLink RX4 165 yX4_hasRoom, Cond.instanceMethod yX4_hasRoom, Cond.selects RX4 yX4_hasRoom yX4_hasRoom, Cond.code yX4_hasRoom cX4_hasRoom 4 (some .boolean), Cond.methodLink RX4 90 yX3_isEmpty, Cond.instanceMethod yX3_isEmpty, Cond.selects RX3 yX3_isEmpty yX3_isEmpty, Cond.initialized RX3, Cond.code yX3_isEmpty cX3_isEmpty 2 (some .boolean), Cond.fieldLink RX3 15 "GranaryLadder$Wall" "sacks" "[I", Cond.static yX4_at, Cond.code yX4_at cX4_at 2 (some .int), Cond.methodLink RX4 93 yX3_kindIn]
def wsX4_storeSacks_r2 : List Cond := [Cond.instanceMethod yX3_kindIn, Cond.selects RX3 yX3_kindIn yX3_kindIn, Cond.code yX3_kindIn cX3_kindIn 2 (some .int), Cond.fieldLink RX3 9 "GranaryLadder$Wall" "kinds" "[I", Cond.methodLink RX4 96 yX3_sacksIn, Cond.instanceMethod yX3_sacksIn, Cond.selects RX3 yX3_sacksIn yX3_sacksIn, Cond.code yX3_sacksIn cX3_sacksIn 2 (some .int), Cond.methodLink RX4 242 yX4_refuseRoom, Cond.instanceMethod yX4_refuseRoom, Cond.selects RX4 yX4_refuseRoom yX4_refuseRoom, Cond.code yX4_refuseRoom cX4_refuseRoom 4 (some .int), Cond.methodLink RX4 195 yX4_refuse, Cond.instanceMethod yX4_refuse, Cond.selects RX4 yX4_refuse yX4_refuse, Cond.code yX4_refuse cX4_refuse 3 (some .int), Cond.fieldLink RX4 47 "GranaryLadder" "latestReason" "I", Cond.fieldLink RX4 51 "GranaryLadder" "latestDetail" "I", Cond.methodLink RX4 245 yX3_count, Cond.instanceMethod yX3_count, Cond.selects RX3 yX3_count yX3_count, Cond.code yX3_count cX3_count 3 none, Cond.fieldLink RX3 27 "GranaryLadder$Wall" "counters" "[I", Cond.static yX4_put]
def wsX4_storeSacks_r3 : List Cond := [Cond.code yX4_put cX4_put 3 none, Cond.methodLink RX4 99 yX3_ageIn, Cond.instanceMethod yX3_ageIn, Cond.selects RX3 yX3_ageIn yX3_ageIn, Cond.code yX3_ageIn cX3_ageIn 2 (some .int), Cond.fieldLink RX3 18 "GranaryLadder$Wall" "ages" "[I", Cond.methodLink RX4 249 yX3_bring, Cond.instanceMethod yX3_bring, Cond.selects RX3 yX3_bring yX3_bring, Cond.code yX3_bring cX3_bring 5 (some .int), Cond.methodLink RX3 42 yX3_changeSacks, Cond.instanceMethod yX3_changeSacks, Cond.selects RX3 yX3_changeSacks yX3_changeSacks, Cond.code yX3_changeSacks cX3_changeSacks 5 none, Cond.fieldLink RX3 21 "GranaryLadder$Wall" "sums" "[I", Cond.static yX4_sizeOf, Cond.code yX4_sizeOf cX4_sizeOf 1 (some .int), Cond.methodLink RX3 46 yX3_crackOver, Cond.instanceMethod yX3_crackOver, Cond.selects RX3 yX3_crackOver yX3_crackOver, Cond.code yX3_crackOver cX3_crackOver 5 (some .int), Cond.fieldLink RX3 24 "GranaryLadder$Wall" "cracks" "[I", Cond.methodLink RX3 57 yX3_isCracked, Cond.instanceMethod yX3_isCracked]
def wsX4_storeSacks_r4 : List Cond := [Cond.selects RX3 yX3_isCracked yX3_isCracked, Cond.code yX3_isCracked cX3_isCracked 2 (some .boolean), Cond.methodLink RX3 60 yX3_sumOf, Cond.instanceMethod yX3_sumOf, Cond.selects RX3 yX3_sumOf yX3_sumOf, Cond.code yX3_sumOf cX3_sumOf 2 (some .int), Cond.static yX4_loadOf, Cond.code yX4_loadOf cX4_loadOf 1 (some .int), Cond.methodLink RX4 114 yX4_sizeOf, Cond.methodLink RX3 66 yX3_count]
def wsX4_storeSacks : List Cond := .code yX4_storeSacks cX4_storeSacks 4 (some .int) :: ((wsX4_storeSacks_r1 ++ (wsX4_storeSacks_r2 ++ (wsX4_storeSacks_r3 ++ wsX4_storeSacks_r4))) ++ wsX40 ++ wsX30)
def wsX4_remember_r1 : List Cond := [Cond.fieldLink RX4 29 "GranaryLadder" "past" "LGranaryLadder$Past;", Cond.fieldLink RX4 16 "GranaryLadder" "before" "LGranaryLadder$Wall;", Cond.methodLink RX4 285 yX2_keep, Cond.instanceMethod yX2_keep, Cond.selects RX2 yX2_keep yX2_keep, Cond.initialized RX2, Cond.code yX2_keep cX2_keep 2 none, Cond.fieldLink RX2 17 "GranaryLadder$Past" "next" "I", Cond.fieldLink RX2 11 "GranaryLadder$Past" "walls" "[LGranaryLadder$Wall;", Cond.fieldLink RX2 21 "GranaryLadder$Past" "kept" "I", Cond.methodLink RX2 29 Lib.Math.min.name, Cond.static Lib.Math.min.name, Cond.initialized "java/lang/Math", Cond.code Lib.Math.min.name Lib.Math.min.code 2 (some .int), Cond.methodLink RX2 25 yX3_copyFrom, Cond.instanceMethod yX3_copyFrom, Cond.selects RX3 yX3_copyFrom yX3_copyFrom, Cond.initialized RX3, Cond.code yX3_copyFrom cX3_copyFrom 2 none, Cond.fieldLink RX3 9 "GranaryLadder$Wall" "kinds" "[I", Cond.fieldLink RX3 15 "GranaryLadder$Wall" "sacks" "[I", Cond.fieldLink RX3 18 "GranaryLadder$Wall" "ages" "[I", Cond.fieldLink RX3 21 "GranaryLadder$Wall" "sums" "[I", Cond.fieldLink RX3 24 "GranaryLadder$Wall" "cracks" "[I"]
def wsX4_remember_r2 : List Cond := [Cond.fieldLink RX3 27 "GranaryLadder$Wall" "counters" "[I", Cond.static yX4_copyRow, Cond.initialized RX4, Cond.code yX4_copyRow cX4_copyRow 3 none]
def wsX4_remember : List Cond := .code yX4_remember cX4_remember 2 (some .int) :: ((wsX4_remember_r1 ++ wsX4_remember_r2) ++ wsX40 ++ wsX20 ++ wsX30)
def wsX4_store_r1 : List Cond := [Cond.fieldLink RX4 16 "GranaryLadder" "before" "LGranaryLadder$Wall;", Cond.fieldLink RX4 10 "GranaryLadder" "now" "LGranaryLadder$Wall;", Cond.methodLink RX4 58 yX3_copyFrom, Cond.instanceMethod yX3_copyFrom, Cond.selects RX3 yX3_copyFrom yX3_copyFrom, Cond.initialized RX3, Cond.code yX3_copyFrom cX3_copyFrom 2 none, Cond.fieldLink RX3 9 "GranaryLadder$Wall" "kinds" "[I", Cond.fieldLink RX3 15 "GranaryLadder$Wall" "sacks" "[I", Cond.fieldLink RX3 18 "GranaryLadder$Wall" "ages" "[I", Cond.fieldLink RX3 21 "GranaryLadder$Wall" "sums" "[I", Cond.fieldLink RX3 24 "GranaryLadder$Wall" "cracks" "[I", Cond.fieldLink RX3 27 "GranaryLadder$Wall" "counters" "[I", Cond.static yX4_copyRow, Cond.initialized RX4, Cond.code yX4_copyRow cX4_copyRow 3 none, Cond.methodLink RX4 62 yX4_storeSacks, Cond.instanceMethod yX4_storeSacks, Cond.selects RX4 yX4_storeSacks yX4_storeSacks, Cond.code yX4_storeSacks cX4_storeSacks 4 (some .int), Cond.methodLink RX4 86 yX4_isBay, Cond.static yX4_isBay, Cond.code yX4_isBay cX4_isBay 1 (some .boolean), Cond.methodLink RX4 138 yX4_isWithin]
def wsX4_store_r2 : List Cond := [Cond.static yX4_isWithin, Cond.code yX4_isWithin cX4_isWithin 3 (some .boolean), Cond.methodLink RX4 162 yX4_isKind, Cond.static yX4_isKind, Cond.code yX4_isKind cX4_isKind 1 (some .boolean), Cond.methodLink RX4 165 yX4_hasRoom, Cond.instanceMethod yX4_hasRoom, Cond.selects RX4 yX4_hasRoom yX4_hasRoom, Cond.code yX4_hasRoom cX4_hasRoom 4 (some .boolean), Cond.methodLink RX4 90 yX3_isEmpty, Cond.instanceMethod yX3_isEmpty, Cond.selects RX3 yX3_isEmpty yX3_isEmpty, Cond.code yX3_isEmpty cX3_isEmpty 2 (some .boolean), Cond.static yX4_at, Cond.code yX4_at cX4_at 2 (some .int), Cond.methodLink RX4 93 yX3_kindIn, Cond.instanceMethod yX3_kindIn, Cond.selects RX3 yX3_kindIn yX3_kindIn, Cond.code yX3_kindIn cX3_kindIn 2 (some .int), Cond.methodLink RX4 96 yX3_sacksIn, Cond.instanceMethod yX3_sacksIn, Cond.selects RX3 yX3_sacksIn yX3_sacksIn, Cond.code yX3_sacksIn cX3_sacksIn 2 (some .int), Cond.methodLink RX4 242 yX4_refuseRoom]
def wsX4_store_r3 : List Cond := [Cond.instanceMethod yX4_refuseRoom, Cond.selects RX4 yX4_refuseRoom yX4_refuseRoom, Cond.code yX4_refuseRoom cX4_refuseRoom 4 (some .int), Cond.methodLink RX4 195 yX4_refuse, Cond.instanceMethod yX4_refuse, Cond.selects RX4 yX4_refuse yX4_refuse, Cond.code yX4_refuse cX4_refuse 3 (some .int), Cond.fieldLink RX4 47 "GranaryLadder" "latestReason" "I", Cond.fieldLink RX4 51 "GranaryLadder" "latestDetail" "I", Cond.methodLink RX4 245 yX3_count, Cond.instanceMethod yX3_count, Cond.selects RX3 yX3_count yX3_count, Cond.code yX3_count cX3_count 3 none, Cond.static yX4_put, Cond.code yX4_put cX4_put 3 none, Cond.methodLink RX4 99 yX3_ageIn, Cond.instanceMethod yX3_ageIn, Cond.selects RX3 yX3_ageIn yX3_ageIn, Cond.code yX3_ageIn cX3_ageIn 2 (some .int), Cond.methodLink RX4 249 yX3_bring, Cond.instanceMethod yX3_bring, Cond.selects RX3 yX3_bring yX3_bring, Cond.code yX3_bring cX3_bring 5 (some .int), Cond.methodLink RX3 42 yX3_changeSacks]
def wsX4_store_r4 : List Cond := [Cond.instanceMethod yX3_changeSacks, Cond.selects RX3 yX3_changeSacks yX3_changeSacks, Cond.code yX3_changeSacks cX3_changeSacks 5 none, Cond.static yX4_sizeOf, Cond.code yX4_sizeOf cX4_sizeOf 1 (some .int), Cond.methodLink RX3 46 yX3_crackOver, Cond.instanceMethod yX3_crackOver, Cond.selects RX3 yX3_crackOver yX3_crackOver, Cond.code yX3_crackOver cX3_crackOver 5 (some .int), Cond.methodLink RX3 57 yX3_isCracked, Cond.instanceMethod yX3_isCracked, Cond.selects RX3 yX3_isCracked yX3_isCracked, Cond.code yX3_isCracked cX3_isCracked 2 (some .boolean), Cond.methodLink RX3 60 yX3_sumOf, Cond.instanceMethod yX3_sumOf, Cond.selects RX3 yX3_sumOf yX3_sumOf, Cond.code yX3_sumOf cX3_sumOf 2 (some .int), Cond.static yX4_loadOf, Cond.code yX4_loadOf cX4_loadOf 1 (some .int), Cond.methodLink RX4 114 yX4_sizeOf, Cond.methodLink RX3 66 yX3_count, Cond.methodLink RX4 66 yX4_remember, Cond.instanceMethod yX4_remember, Cond.selects RX4 yX4_remember yX4_remember]
def wsX4_store_r5 : List Cond := [Cond.code yX4_remember cX4_remember 2 (some .int), Cond.fieldLink RX4 29 "GranaryLadder" "past" "LGranaryLadder$Past;", Cond.methodLink RX4 285 yX2_keep, Cond.instanceMethod yX2_keep, Cond.selects RX2 yX2_keep yX2_keep, Cond.initialized RX2, Cond.code yX2_keep cX2_keep 2 none, Cond.fieldLink RX2 17 "GranaryLadder$Past" "next" "I", Cond.fieldLink RX2 11 "GranaryLadder$Past" "walls" "[LGranaryLadder$Wall;", Cond.fieldLink RX2 21 "GranaryLadder$Past" "kept" "I", Cond.methodLink RX2 29 Lib.Math.min.name, Cond.static Lib.Math.min.name, Cond.initialized "java/lang/Math", Cond.code Lib.Math.min.name Lib.Math.min.code 2 (some .int), Cond.methodLink RX2 25 yX3_copyFrom]
def wsX4_store : List Cond := .code yX4_store cX4_store 4 (some .int) :: ((wsX4_store_r1 ++ (wsX4_store_r2 ++ (wsX4_store_r3 ++ (wsX4_store_r4 ++ wsX4_store_r5)))) ++ wsX40 ++ wsX30 ++ wsX20)
def wsX4_hasSacks : List Cond := .code yX4_hasSacks cX4_hasSacks 3 (some .boolean) :: ([.fieldLink RX4 10 "GranaryLadder" "now" "LGranaryLadder$Wall;", .methodLink RX4 96 yX3_sacksIn, .instanceMethod yX3_sacksIn, .selects RX3 yX3_sacksIn yX3_sacksIn, .initialized RX3, .code yX3_sacksIn cX3_sacksIn 2 (some .int), .fieldLink RX3 15 "GranaryLadder$Wall" "sacks" "[I", .static yX4_at, .initialized RX4, .code yX4_at cX4_at 2 (some .int)] ++ wsX40 ++ wsX30)
def wsX4_refuseSacks : List Cond := .code yX4_refuseSacks cX4_refuseSacks 2 (some .int) :: ([.fieldLink RX4 10 "GranaryLadder" "now" "LGranaryLadder$Wall;", .methodLink RX4 90 yX3_isEmpty, .instanceMethod yX3_isEmpty, .selects RX3 yX3_isEmpty yX3_isEmpty, .initialized RX3, .code yX3_isEmpty cX3_isEmpty 2 (some .boolean), .fieldLink RX3 15 "GranaryLadder$Wall" "sacks" "[I", .static yX4_at, .initialized RX4, .code yX4_at cX4_at 2 (some .int), .methodLink RX4 195 yX4_refuse, .instanceMethod yX4_refuse, .selects RX4 yX4_refuse yX4_refuse, .code yX4_refuse cX4_refuse 3 (some .int), .fieldLink RX4 47 "GranaryLadder" "latestReason" "I", .fieldLink RX4 51 "GranaryLadder" "latestDetail" "I", .methodLink RX4 96 yX3_sacksIn, .instanceMethod yX3_sacksIn, .selects RX3 yX3_sacksIn yX3_sacksIn, .code yX3_sacksIn cX3_sacksIn 2 (some .int)] ++ wsX40 ++ wsX30)
def wsX4_takeSacks_r1 : List Cond := [Cond.fieldLink RX4 10 "GranaryLadder" "now" "LGranaryLadder$Wall;", Cond.methodLink RX4 86 yX4_isBay, Cond.static yX4_isBay, Cond.initialized RX4, Cond.code yX4_isBay cX4_isBay 1 (some .boolean), Cond.methodLink RX4 138 yX4_isWithin, Cond.static yX4_isWithin, Cond.code yX4_isWithin cX4_isWithin 3 (some .boolean), Cond.methodLink RX4 253 yX4_hasSacks, Cond.instanceMethod yX4_hasSacks, Cond.selects RX4 yX4_hasSacks yX4_hasSacks, Cond.code yX4_hasSacks cX4_hasSacks 3 (some .boolean), Cond.methodLink RX4 96 yX3_sacksIn, Cond.instanceMethod yX3_sacksIn, Cond.selects RX3 yX3_sacksIn yX3_sacksIn, Cond.initialized RX3, Cond.code yX3_sacksIn cX3_sacksIn 2 (some .int), Cond.fieldLink RX3 15 "GranaryLadder$Wall" "sacks" "[I", Cond.static yX4_at, Cond.code yX4_at cX4_at 2 (some .int), Cond.methodLink RX4 256 yX4_refuseSacks, Cond.instanceMethod yX4_refuseSacks, Cond.selects RX4 yX4_refuseSacks yX4_refuseSacks, Cond.code yX4_refuseSacks cX4_refuseSacks 2 (some .int)]
def wsX4_takeSacks_r2 : List Cond := [Cond.methodLink RX4 90 yX3_isEmpty, Cond.instanceMethod yX3_isEmpty, Cond.selects RX3 yX3_isEmpty yX3_isEmpty, Cond.code yX3_isEmpty cX3_isEmpty 2 (some .boolean), Cond.methodLink RX4 195 yX4_refuse, Cond.instanceMethod yX4_refuse, Cond.selects RX4 yX4_refuse yX4_refuse, Cond.code yX4_refuse cX4_refuse 3 (some .int), Cond.fieldLink RX4 47 "GranaryLadder" "latestReason" "I", Cond.fieldLink RX4 51 "GranaryLadder" "latestDetail" "I", Cond.methodLink RX4 259 yX3_remove, Cond.instanceMethod yX3_remove, Cond.selects RX3 yX3_remove yX3_remove, Cond.code yX3_remove cX3_remove 3 none, Cond.fieldLink RX3 9 "GranaryLadder$Wall" "kinds" "[I", Cond.fieldLink RX3 18 "GranaryLadder$Wall" "ages" "[I", Cond.methodLink RX3 42 yX3_changeSacks, Cond.instanceMethod yX3_changeSacks, Cond.selects RX3 yX3_changeSacks yX3_changeSacks, Cond.code yX3_changeSacks cX3_changeSacks 5 none, Cond.fieldLink RX3 21 "GranaryLadder$Wall" "sums" "[I", Cond.static yX4_put, Cond.code yX4_put cX4_put 3 none, Cond.static yX4_sizeOf]
def wsX4_takeSacks_r3 : List Cond := [Cond.code yX4_sizeOf cX4_sizeOf 1 (some .int), Cond.methodLink RX3 50 yX3_isEmpty, Cond.methodLink RX4 245 yX3_count, Cond.instanceMethod yX3_count, Cond.selects RX3 yX3_count yX3_count, Cond.code yX3_count cX3_count 3 none, Cond.fieldLink RX3 27 "GranaryLadder$Wall" "counters" "[I"]
def wsX4_takeSacks : List Cond := .code yX4_takeSacks cX4_takeSacks 3 (some .int) :: ((wsX4_takeSacks_r1 ++ (wsX4_takeSacks_r2 ++ wsX4_takeSacks_r3)) ++ wsX40 ++ wsX30)
def wsX4_take_r1 : List Cond := [Cond.fieldLink RX4 16 "GranaryLadder" "before" "LGranaryLadder$Wall;", Cond.fieldLink RX4 10 "GranaryLadder" "now" "LGranaryLadder$Wall;", Cond.methodLink RX4 58 yX3_copyFrom, Cond.instanceMethod yX3_copyFrom, Cond.selects RX3 yX3_copyFrom yX3_copyFrom, Cond.initialized RX3, Cond.code yX3_copyFrom cX3_copyFrom 2 none, Cond.fieldLink RX3 9 "GranaryLadder$Wall" "kinds" "[I", Cond.fieldLink RX3 15 "GranaryLadder$Wall" "sacks" "[I", Cond.fieldLink RX3 18 "GranaryLadder$Wall" "ages" "[I", Cond.fieldLink RX3 21 "GranaryLadder$Wall" "sums" "[I", Cond.fieldLink RX3 24 "GranaryLadder$Wall" "cracks" "[I", Cond.fieldLink RX3 27 "GranaryLadder$Wall" "counters" "[I", Cond.static yX4_copyRow, Cond.initialized RX4, Cond.code yX4_copyRow cX4_copyRow 3 none, Cond.methodLink RX4 70 yX4_takeSacks, Cond.instanceMethod yX4_takeSacks, Cond.selects RX4 yX4_takeSacks yX4_takeSacks, Cond.code yX4_takeSacks cX4_takeSacks 3 (some .int), Cond.methodLink RX4 86 yX4_isBay, Cond.static yX4_isBay, Cond.code yX4_isBay cX4_isBay 1 (some .boolean), Cond.methodLink RX4 138 yX4_isWithin]
def wsX4_take_r2 : List Cond := [Cond.static yX4_isWithin, Cond.code yX4_isWithin cX4_isWithin 3 (some .boolean), Cond.methodLink RX4 253 yX4_hasSacks, Cond.instanceMethod yX4_hasSacks, Cond.selects RX4 yX4_hasSacks yX4_hasSacks, Cond.code yX4_hasSacks cX4_hasSacks 3 (some .boolean), Cond.methodLink RX4 96 yX3_sacksIn, Cond.instanceMethod yX3_sacksIn, Cond.selects RX3 yX3_sacksIn yX3_sacksIn, Cond.code yX3_sacksIn cX3_sacksIn 2 (some .int), Cond.static yX4_at, Cond.code yX4_at cX4_at 2 (some .int), Cond.methodLink RX4 256 yX4_refuseSacks, Cond.instanceMethod yX4_refuseSacks, Cond.selects RX4 yX4_refuseSacks yX4_refuseSacks, Cond.code yX4_refuseSacks cX4_refuseSacks 2 (some .int), Cond.methodLink RX4 90 yX3_isEmpty, Cond.instanceMethod yX3_isEmpty, Cond.selects RX3 yX3_isEmpty yX3_isEmpty, Cond.code yX3_isEmpty cX3_isEmpty 2 (some .boolean), Cond.methodLink RX4 195 yX4_refuse, Cond.instanceMethod yX4_refuse, Cond.selects RX4 yX4_refuse yX4_refuse, Cond.code yX4_refuse cX4_refuse 3 (some .int)]
def wsX4_take_r3 : List Cond := [Cond.fieldLink RX4 47 "GranaryLadder" "latestReason" "I", Cond.fieldLink RX4 51 "GranaryLadder" "latestDetail" "I", Cond.methodLink RX4 259 yX3_remove, Cond.instanceMethod yX3_remove, Cond.selects RX3 yX3_remove yX3_remove, Cond.code yX3_remove cX3_remove 3 none, Cond.methodLink RX3 42 yX3_changeSacks, Cond.instanceMethod yX3_changeSacks, Cond.selects RX3 yX3_changeSacks yX3_changeSacks, Cond.code yX3_changeSacks cX3_changeSacks 5 none, Cond.static yX4_put, Cond.code yX4_put cX4_put 3 none, Cond.static yX4_sizeOf, Cond.code yX4_sizeOf cX4_sizeOf 1 (some .int), Cond.methodLink RX3 50 yX3_isEmpty, Cond.methodLink RX4 245 yX3_count, Cond.instanceMethod yX3_count, Cond.selects RX3 yX3_count yX3_count, Cond.code yX3_count cX3_count 3 none, Cond.methodLink RX4 66 yX4_remember, Cond.instanceMethod yX4_remember, Cond.selects RX4 yX4_remember yX4_remember, Cond.code yX4_remember cX4_remember 2 (some .int), Cond.fieldLink RX4 29 "GranaryLadder" "past" "LGranaryLadder$Past;"]
def wsX4_take_r4 : List Cond := [Cond.methodLink RX4 285 yX2_keep, Cond.instanceMethod yX2_keep, Cond.selects RX2 yX2_keep yX2_keep, Cond.initialized RX2, Cond.code yX2_keep cX2_keep 2 none, Cond.fieldLink RX2 17 "GranaryLadder$Past" "next" "I", Cond.fieldLink RX2 11 "GranaryLadder$Past" "walls" "[LGranaryLadder$Wall;", Cond.fieldLink RX2 21 "GranaryLadder$Past" "kept" "I", Cond.methodLink RX2 29 Lib.Math.min.name, Cond.static Lib.Math.min.name, Cond.initialized "java/lang/Math", Cond.code Lib.Math.min.name Lib.Math.min.code 2 (some .int), Cond.methodLink RX2 25 yX3_copyFrom]
def wsX4_take : List Cond := .code yX4_take cX4_take 3 (some .int) :: ((wsX4_take_r1 ++ (wsX4_take_r2 ++ (wsX4_take_r3 ++ wsX4_take_r4))) ++ wsX40 ++ wsX30 ++ wsX20)
def wsX4_moveSacks_r1 : List Cond := [Cond.fieldLink RX4 10 "GranaryLadder" "now" "LGranaryLadder$Wall;", Cond.methodLink RX4 262 Lib.Math.max.name, Cond.static Lib.Math.max.name, Cond.initialized "java/lang/Math", Cond.code Lib.Math.max.name Lib.Math.max.code 2 (some .int), Cond.methodLink RX4 86 yX4_isBay, Cond.static yX4_isBay, Cond.initialized RX4, Cond.code yX4_isBay cX4_isBay 1 (some .boolean), Cond.methodLink RX4 138 yX4_isWithin, Cond.static yX4_isWithin, Cond.code yX4_isWithin cX4_isWithin 3 (some .boolean), Cond.methodLink RX4 195 yX4_refuse, Cond.instanceMethod yX4_refuse, Cond.selects RX4 yX4_refuse yX4_refuse, Cond.code yX4_refuse cX4_refuse 3 (some .int), Cond.fieldLink RX4 47 "GranaryLadder" "latestReason" "I", Cond.fieldLink RX4 51 "GranaryLadder" "latestDetail" "I", Cond.methodLink RX4 253 yX4_hasSacks, Cond.instanceMethod yX4_hasSacks, Cond.selects RX4 yX4_hasSacks yX4_hasSacks, Cond.code yX4_hasSacks cX4_hasSacks 3 (some .boolean), Cond.methodLink RX4 96 yX3_sacksIn, Cond.instanceMethod yX3_sacksIn]
def wsX4_moveSacks_r2 : List Cond := [Cond.selects RX3 yX3_sacksIn yX3_sacksIn, Cond.initialized RX3, Cond.code yX3_sacksIn cX3_sacksIn 2 (some .int), Cond.fieldLink RX3 15 "GranaryLadder$Wall" "sacks" "[I", Cond.static yX4_at, Cond.code yX4_at cX4_at 2 (some .int), Cond.methodLink RX4 256 yX4_refuseSacks, Cond.instanceMethod yX4_refuseSacks, Cond.selects RX4 yX4_refuseSacks yX4_refuseSacks, Cond.code yX4_refuseSacks cX4_refuseSacks 2 (some .int), Cond.methodLink RX4 90 yX3_isEmpty, Cond.instanceMethod yX3_isEmpty, Cond.selects RX3 yX3_isEmpty yX3_isEmpty, Cond.code yX3_isEmpty cX3_isEmpty 2 (some .boolean), Cond.methodLink RX4 93 yX3_kindIn, Cond.instanceMethod yX3_kindIn, Cond.selects RX3 yX3_kindIn yX3_kindIn, Cond.code yX3_kindIn cX3_kindIn 2 (some .int), Cond.fieldLink RX3 9 "GranaryLadder$Wall" "kinds" "[I", Cond.methodLink RX4 165 yX4_hasRoom, Cond.instanceMethod yX4_hasRoom, Cond.selects RX4 yX4_hasRoom yX4_hasRoom, Cond.code yX4_hasRoom cX4_hasRoom 4 (some .boolean), Cond.methodLink RX4 242 yX4_refuseRoom]
def wsX4_moveSacks_r3 : List Cond := [Cond.instanceMethod yX4_refuseRoom, Cond.selects RX4 yX4_refuseRoom yX4_refuseRoom, Cond.code yX4_refuseRoom cX4_refuseRoom 4 (some .int), Cond.methodLink RX4 99 yX3_ageIn, Cond.instanceMethod yX3_ageIn, Cond.selects RX3 yX3_ageIn yX3_ageIn, Cond.code yX3_ageIn cX3_ageIn 2 (some .int), Cond.fieldLink RX3 18 "GranaryLadder$Wall" "ages" "[I", Cond.methodLink RX4 259 yX3_remove, Cond.instanceMethod yX3_remove, Cond.selects RX3 yX3_remove yX3_remove, Cond.code yX3_remove cX3_remove 3 none, Cond.methodLink RX3 42 yX3_changeSacks, Cond.instanceMethod yX3_changeSacks, Cond.selects RX3 yX3_changeSacks yX3_changeSacks, Cond.code yX3_changeSacks cX3_changeSacks 5 none, Cond.fieldLink RX3 21 "GranaryLadder$Wall" "sums" "[I", Cond.static yX4_put, Cond.code yX4_put cX4_put 3 none, Cond.static yX4_sizeOf, Cond.code yX4_sizeOf cX4_sizeOf 1 (some .int), Cond.methodLink RX3 50 yX3_isEmpty, Cond.methodLink RX4 245 yX3_count, Cond.instanceMethod yX3_count]
def wsX4_moveSacks_r4 : List Cond := [Cond.selects RX3 yX3_count yX3_count, Cond.code yX3_count cX3_count 3 none, Cond.fieldLink RX3 27 "GranaryLadder$Wall" "counters" "[I", Cond.methodLink RX4 249 yX3_bring, Cond.instanceMethod yX3_bring, Cond.selects RX3 yX3_bring yX3_bring, Cond.code yX3_bring cX3_bring 5 (some .int), Cond.methodLink RX3 46 yX3_crackOver, Cond.instanceMethod yX3_crackOver, Cond.selects RX3 yX3_crackOver yX3_crackOver, Cond.code yX3_crackOver cX3_crackOver 5 (some .int), Cond.fieldLink RX3 24 "GranaryLadder$Wall" "cracks" "[I", Cond.methodLink RX3 57 yX3_isCracked, Cond.instanceMethod yX3_isCracked, Cond.selects RX3 yX3_isCracked yX3_isCracked, Cond.code yX3_isCracked cX3_isCracked 2 (some .boolean), Cond.methodLink RX3 60 yX3_sumOf, Cond.instanceMethod yX3_sumOf, Cond.selects RX3 yX3_sumOf yX3_sumOf, Cond.code yX3_sumOf cX3_sumOf 2 (some .int), Cond.static yX4_loadOf, Cond.code yX4_loadOf cX4_loadOf 1 (some .int), Cond.methodLink RX4 114 yX4_sizeOf, Cond.methodLink RX3 66 yX3_count]
def wsX4_moveSacks : List Cond := .code yX4_moveSacks cX4_moveSacks 6 (some .int) :: ((wsX4_moveSacks_r1 ++ (wsX4_moveSacks_r2 ++ (wsX4_moveSacks_r3 ++ wsX4_moveSacks_r4))) ++ wsX40 ++ wsX30)
def wsX4_move_r1 : List Cond := [Cond.fieldLink RX4 16 "GranaryLadder" "before" "LGranaryLadder$Wall;", Cond.fieldLink RX4 10 "GranaryLadder" "now" "LGranaryLadder$Wall;", Cond.methodLink RX4 58 yX3_copyFrom, Cond.instanceMethod yX3_copyFrom, Cond.selects RX3 yX3_copyFrom yX3_copyFrom, Cond.initialized RX3, Cond.code yX3_copyFrom cX3_copyFrom 2 none, Cond.fieldLink RX3 9 "GranaryLadder$Wall" "kinds" "[I", Cond.fieldLink RX3 15 "GranaryLadder$Wall" "sacks" "[I", Cond.fieldLink RX3 18 "GranaryLadder$Wall" "ages" "[I", Cond.fieldLink RX3 21 "GranaryLadder$Wall" "sums" "[I", Cond.fieldLink RX3 24 "GranaryLadder$Wall" "cracks" "[I", Cond.fieldLink RX3 27 "GranaryLadder$Wall" "counters" "[I", Cond.static yX4_copyRow, Cond.initialized RX4, Cond.code yX4_copyRow cX4_copyRow 3 none, Cond.methodLink RX4 74 yX4_moveSacks, Cond.instanceMethod yX4_moveSacks, Cond.selects RX4 yX4_moveSacks yX4_moveSacks, Cond.code yX4_moveSacks cX4_moveSacks 6 (some .int), Cond.methodLink RX4 262 Lib.Math.max.name, Cond.static Lib.Math.max.name, Cond.initialized "java/lang/Math", Cond.code Lib.Math.max.name Lib.Math.max.code 2 (some .int)]
def wsX4_move_r2 : List Cond := [Cond.methodLink RX4 86 yX4_isBay, Cond.static yX4_isBay, Cond.code yX4_isBay cX4_isBay 1 (some .boolean), Cond.methodLink RX4 138 yX4_isWithin, Cond.static yX4_isWithin, Cond.code yX4_isWithin cX4_isWithin 3 (some .boolean), Cond.methodLink RX4 195 yX4_refuse, Cond.instanceMethod yX4_refuse, Cond.selects RX4 yX4_refuse yX4_refuse, Cond.code yX4_refuse cX4_refuse 3 (some .int), Cond.fieldLink RX4 47 "GranaryLadder" "latestReason" "I", Cond.fieldLink RX4 51 "GranaryLadder" "latestDetail" "I", Cond.methodLink RX4 253 yX4_hasSacks, Cond.instanceMethod yX4_hasSacks, Cond.selects RX4 yX4_hasSacks yX4_hasSacks, Cond.code yX4_hasSacks cX4_hasSacks 3 (some .boolean), Cond.methodLink RX4 96 yX3_sacksIn, Cond.instanceMethod yX3_sacksIn, Cond.selects RX3 yX3_sacksIn yX3_sacksIn, Cond.code yX3_sacksIn cX3_sacksIn 2 (some .int), Cond.static yX4_at, Cond.code yX4_at cX4_at 2 (some .int), Cond.methodLink RX4 256 yX4_refuseSacks, Cond.instanceMethod yX4_refuseSacks]
def wsX4_move_r3 : List Cond := [Cond.selects RX4 yX4_refuseSacks yX4_refuseSacks, Cond.code yX4_refuseSacks cX4_refuseSacks 2 (some .int), Cond.methodLink RX4 90 yX3_isEmpty, Cond.instanceMethod yX3_isEmpty, Cond.selects RX3 yX3_isEmpty yX3_isEmpty, Cond.code yX3_isEmpty cX3_isEmpty 2 (some .boolean), Cond.methodLink RX4 93 yX3_kindIn, Cond.instanceMethod yX3_kindIn, Cond.selects RX3 yX3_kindIn yX3_kindIn, Cond.code yX3_kindIn cX3_kindIn 2 (some .int), Cond.methodLink RX4 165 yX4_hasRoom, Cond.instanceMethod yX4_hasRoom, Cond.selects RX4 yX4_hasRoom yX4_hasRoom, Cond.code yX4_hasRoom cX4_hasRoom 4 (some .boolean), Cond.methodLink RX4 242 yX4_refuseRoom, Cond.instanceMethod yX4_refuseRoom, Cond.selects RX4 yX4_refuseRoom yX4_refuseRoom, Cond.code yX4_refuseRoom cX4_refuseRoom 4 (some .int), Cond.methodLink RX4 99 yX3_ageIn, Cond.instanceMethod yX3_ageIn, Cond.selects RX3 yX3_ageIn yX3_ageIn, Cond.code yX3_ageIn cX3_ageIn 2 (some .int), Cond.methodLink RX4 259 yX3_remove, Cond.instanceMethod yX3_remove]
def wsX4_move_r4 : List Cond := [Cond.selects RX3 yX3_remove yX3_remove, Cond.code yX3_remove cX3_remove 3 none, Cond.methodLink RX3 42 yX3_changeSacks, Cond.instanceMethod yX3_changeSacks, Cond.selects RX3 yX3_changeSacks yX3_changeSacks, Cond.code yX3_changeSacks cX3_changeSacks 5 none, Cond.static yX4_put, Cond.code yX4_put cX4_put 3 none, Cond.static yX4_sizeOf, Cond.code yX4_sizeOf cX4_sizeOf 1 (some .int), Cond.methodLink RX3 50 yX3_isEmpty, Cond.methodLink RX4 245 yX3_count, Cond.instanceMethod yX3_count, Cond.selects RX3 yX3_count yX3_count, Cond.code yX3_count cX3_count 3 none, Cond.methodLink RX4 249 yX3_bring, Cond.instanceMethod yX3_bring, Cond.selects RX3 yX3_bring yX3_bring, Cond.code yX3_bring cX3_bring 5 (some .int), Cond.methodLink RX3 46 yX3_crackOver, Cond.instanceMethod yX3_crackOver, Cond.selects RX3 yX3_crackOver yX3_crackOver, Cond.code yX3_crackOver cX3_crackOver 5 (some .int), Cond.methodLink RX3 57 yX3_isCracked]
def wsX4_move_r5 : List Cond := [Cond.instanceMethod yX3_isCracked, Cond.selects RX3 yX3_isCracked yX3_isCracked, Cond.code yX3_isCracked cX3_isCracked 2 (some .boolean), Cond.methodLink RX3 60 yX3_sumOf, Cond.instanceMethod yX3_sumOf, Cond.selects RX3 yX3_sumOf yX3_sumOf, Cond.code yX3_sumOf cX3_sumOf 2 (some .int), Cond.static yX4_loadOf, Cond.code yX4_loadOf cX4_loadOf 1 (some .int), Cond.methodLink RX4 114 yX4_sizeOf, Cond.methodLink RX3 66 yX3_count, Cond.methodLink RX4 66 yX4_remember, Cond.instanceMethod yX4_remember, Cond.selects RX4 yX4_remember yX4_remember, Cond.code yX4_remember cX4_remember 2 (some .int), Cond.fieldLink RX4 29 "GranaryLadder" "past" "LGranaryLadder$Past;", Cond.methodLink RX4 285 yX2_keep, Cond.instanceMethod yX2_keep, Cond.selects RX2 yX2_keep yX2_keep, Cond.initialized RX2, Cond.code yX2_keep cX2_keep 2 none, Cond.fieldLink RX2 17 "GranaryLadder$Past" "next" "I", Cond.fieldLink RX2 11 "GranaryLadder$Past" "walls" "[LGranaryLadder$Wall;", Cond.fieldLink RX2 21 "GranaryLadder$Past" "kept" "I"]
def wsX4_move_r6 : List Cond := [Cond.methodLink RX2 29 Lib.Math.min.name, Cond.static Lib.Math.min.name, Cond.code Lib.Math.min.name Lib.Math.min.code 2 (some .int), Cond.methodLink RX2 25 yX3_copyFrom]
def wsX4_move : List Cond := .code yX4_move cX4_move 4 (some .int) :: ((wsX4_move_r1 ++ (wsX4_move_r2 ++ (wsX4_move_r3 ++ (wsX4_move_r4 ++ (wsX4_move_r5 ++ wsX4_move_r6))))) ++ wsX40 ++ wsX30 ++ wsX20)
def wsX4_coinsFor : List Cond := .code yX4_coinsFor cX4_coinsFor 2 (some .int) :: ([])
def wsX4_fillOrder_r1 : List Cond := [Cond.fieldLink RX4 10 "GranaryLadder" "now" "LGranaryLadder$Wall;", Cond.methodLink RX4 270 Lib.Math.min.name, Cond.static Lib.Math.min.name, Cond.initialized "java/lang/Math", Cond.code Lib.Math.min.name Lib.Math.min.code 2 (some .int), Cond.methodLink RX4 162 yX4_isKind, Cond.static yX4_isKind, Cond.initialized RX4, Cond.code yX4_isKind cX4_isKind 1 (some .boolean), Cond.methodLink RX4 138 yX4_isWithin, Cond.static yX4_isWithin, Cond.code yX4_isWithin cX4_isWithin 3 (some .boolean), Cond.methodLink RX4 224 yX3_sacksOfKind, Cond.instanceMethod yX3_sacksOfKind, Cond.selects RX3 yX3_sacksOfKind yX3_sacksOfKind, Cond.initialized RX3, Cond.code yX3_sacksOfKind cX3_sacksOfKind 4 (some .int), Cond.methodLink RX3 76 yX3_kindIn, Cond.instanceMethod yX3_kindIn, Cond.selects RX3 yX3_kindIn yX3_kindIn, Cond.code yX3_kindIn cX3_kindIn 2 (some .int), Cond.fieldLink RX3 9 "GranaryLadder$Wall" "kinds" "[I", Cond.static yX4_at, Cond.code yX4_at cX4_at 2 (some .int)]
def wsX4_fillOrder_r2 : List Cond := [Cond.methodLink RX3 69 yX3_sacksIn, Cond.instanceMethod yX3_sacksIn, Cond.selects RX3 yX3_sacksIn yX3_sacksIn, Cond.code yX3_sacksIn cX3_sacksIn 2 (some .int), Cond.fieldLink RX3 15 "GranaryLadder$Wall" "sacks" "[I", Cond.methodLink RX4 195 yX4_refuse, Cond.instanceMethod yX4_refuse, Cond.selects RX4 yX4_refuse yX4_refuse, Cond.code yX4_refuse cX4_refuse 3 (some .int), Cond.fieldLink RX4 47 "GranaryLadder" "latestReason" "I", Cond.fieldLink RX4 51 "GranaryLadder" "latestDetail" "I", Cond.methodLink RX4 267 yX3_oldestOfKind, Cond.instanceMethod yX3_oldestOfKind, Cond.selects RX3 yX3_oldestOfKind yX3_oldestOfKind, Cond.code yX3_oldestOfKind cX3_oldestOfKind 4 (some .int), Cond.methodLink RX3 50 yX3_isEmpty, Cond.instanceMethod yX3_isEmpty, Cond.selects RX3 yX3_isEmpty yX3_isEmpty, Cond.code yX3_isEmpty cX3_isEmpty 2 (some .boolean), Cond.methodLink RX3 79 yX3_ageIn, Cond.instanceMethod yX3_ageIn, Cond.selects RX3 yX3_ageIn yX3_ageIn, Cond.code yX3_ageIn cX3_ageIn 2 (some .int), Cond.fieldLink RX3 18 "GranaryLadder$Wall" "ages" "[I"]
def wsX4_fillOrder_r3 : List Cond := [Cond.methodLink RX4 96 yX3_sacksIn, Cond.methodLink RX4 259 yX3_remove, Cond.instanceMethod yX3_remove, Cond.selects RX3 yX3_remove yX3_remove, Cond.code yX3_remove cX3_remove 3 none, Cond.methodLink RX3 42 yX3_changeSacks, Cond.instanceMethod yX3_changeSacks, Cond.selects RX3 yX3_changeSacks yX3_changeSacks, Cond.code yX3_changeSacks cX3_changeSacks 5 none, Cond.fieldLink RX3 21 "GranaryLadder$Wall" "sums" "[I", Cond.static yX4_put, Cond.code yX4_put cX4_put 3 none, Cond.static yX4_sizeOf, Cond.code yX4_sizeOf cX4_sizeOf 1 (some .int), Cond.methodLink RX4 245 yX3_count, Cond.instanceMethod yX3_count, Cond.selects RX3 yX3_count yX3_count, Cond.code yX3_count cX3_count 3 none, Cond.fieldLink RX3 27 "GranaryLadder$Wall" "counters" "[I", Cond.methodLink RX4 172 yX4_coinsFor, Cond.static yX4_coinsFor, Cond.code yX4_coinsFor cX4_coinsFor 2 (some .int)]
def wsX4_fillOrder : List Cond := .code yX4_fillOrder cX4_fillOrder 8 (some .int) :: ((wsX4_fillOrder_r1 ++ (wsX4_fillOrder_r2 ++ wsX4_fillOrder_r3)) ++ wsX40 ++ wsX30)
def wsX4_order_r1 : List Cond := [Cond.fieldLink RX4 16 "GranaryLadder" "before" "LGranaryLadder$Wall;", Cond.fieldLink RX4 10 "GranaryLadder" "now" "LGranaryLadder$Wall;", Cond.methodLink RX4 58 yX3_copyFrom, Cond.instanceMethod yX3_copyFrom, Cond.selects RX3 yX3_copyFrom yX3_copyFrom, Cond.initialized RX3, Cond.code yX3_copyFrom cX3_copyFrom 2 none, Cond.fieldLink RX3 9 "GranaryLadder$Wall" "kinds" "[I", Cond.fieldLink RX3 15 "GranaryLadder$Wall" "sacks" "[I", Cond.fieldLink RX3 18 "GranaryLadder$Wall" "ages" "[I", Cond.fieldLink RX3 21 "GranaryLadder$Wall" "sums" "[I", Cond.fieldLink RX3 24 "GranaryLadder$Wall" "cracks" "[I", Cond.fieldLink RX3 27 "GranaryLadder$Wall" "counters" "[I", Cond.static yX4_copyRow, Cond.initialized RX4, Cond.code yX4_copyRow cX4_copyRow 3 none, Cond.methodLink RX4 77 yX4_fillOrder, Cond.instanceMethod yX4_fillOrder, Cond.selects RX4 yX4_fillOrder yX4_fillOrder, Cond.code yX4_fillOrder cX4_fillOrder 8 (some .int), Cond.methodLink RX4 270 Lib.Math.min.name, Cond.static Lib.Math.min.name, Cond.initialized "java/lang/Math", Cond.code Lib.Math.min.name Lib.Math.min.code 2 (some .int)]
def wsX4_order_r2 : List Cond := [Cond.methodLink RX4 162 yX4_isKind, Cond.static yX4_isKind, Cond.code yX4_isKind cX4_isKind 1 (some .boolean), Cond.methodLink RX4 138 yX4_isWithin, Cond.static yX4_isWithin, Cond.code yX4_isWithin cX4_isWithin 3 (some .boolean), Cond.methodLink RX4 224 yX3_sacksOfKind, Cond.instanceMethod yX3_sacksOfKind, Cond.selects RX3 yX3_sacksOfKind yX3_sacksOfKind, Cond.code yX3_sacksOfKind cX3_sacksOfKind 4 (some .int), Cond.methodLink RX3 76 yX3_kindIn, Cond.instanceMethod yX3_kindIn, Cond.selects RX3 yX3_kindIn yX3_kindIn, Cond.code yX3_kindIn cX3_kindIn 2 (some .int), Cond.static yX4_at, Cond.code yX4_at cX4_at 2 (some .int), Cond.methodLink RX3 69 yX3_sacksIn, Cond.instanceMethod yX3_sacksIn, Cond.selects RX3 yX3_sacksIn yX3_sacksIn, Cond.code yX3_sacksIn cX3_sacksIn 2 (some .int), Cond.methodLink RX4 195 yX4_refuse, Cond.instanceMethod yX4_refuse, Cond.selects RX4 yX4_refuse yX4_refuse, Cond.code yX4_refuse cX4_refuse 3 (some .int)]
def wsX4_order_r3 : List Cond := [Cond.fieldLink RX4 47 "GranaryLadder" "latestReason" "I", Cond.fieldLink RX4 51 "GranaryLadder" "latestDetail" "I", Cond.methodLink RX4 267 yX3_oldestOfKind, Cond.instanceMethod yX3_oldestOfKind, Cond.selects RX3 yX3_oldestOfKind yX3_oldestOfKind, Cond.code yX3_oldestOfKind cX3_oldestOfKind 4 (some .int), Cond.methodLink RX3 50 yX3_isEmpty, Cond.instanceMethod yX3_isEmpty, Cond.selects RX3 yX3_isEmpty yX3_isEmpty, Cond.code yX3_isEmpty cX3_isEmpty 2 (some .boolean), Cond.methodLink RX3 79 yX3_ageIn, Cond.instanceMethod yX3_ageIn, Cond.selects RX3 yX3_ageIn yX3_ageIn, Cond.code yX3_ageIn cX3_ageIn 2 (some .int), Cond.methodLink RX4 96 yX3_sacksIn, Cond.methodLink RX4 259 yX3_remove, Cond.instanceMethod yX3_remove, Cond.selects RX3 yX3_remove yX3_remove, Cond.code yX3_remove cX3_remove 3 none, Cond.methodLink RX3 42 yX3_changeSacks, Cond.instanceMethod yX3_changeSacks, Cond.selects RX3 yX3_changeSacks yX3_changeSacks, Cond.code yX3_changeSacks cX3_changeSacks 5 none, Cond.static yX4_put]
def wsX4_order_r4 : List Cond := [Cond.code yX4_put cX4_put 3 none, Cond.static yX4_sizeOf, Cond.code yX4_sizeOf cX4_sizeOf 1 (some .int), Cond.methodLink RX4 245 yX3_count, Cond.instanceMethod yX3_count, Cond.selects RX3 yX3_count yX3_count, Cond.code yX3_count cX3_count 3 none, Cond.methodLink RX4 172 yX4_coinsFor, Cond.static yX4_coinsFor, Cond.code yX4_coinsFor cX4_coinsFor 2 (some .int), Cond.methodLink RX4 66 yX4_remember, Cond.instanceMethod yX4_remember, Cond.selects RX4 yX4_remember yX4_remember, Cond.code yX4_remember cX4_remember 2 (some .int), Cond.fieldLink RX4 29 "GranaryLadder" "past" "LGranaryLadder$Past;", Cond.methodLink RX4 285 yX2_keep, Cond.instanceMethod yX2_keep, Cond.selects RX2 yX2_keep yX2_keep, Cond.initialized RX2, Cond.code yX2_keep cX2_keep 2 none, Cond.fieldLink RX2 17 "GranaryLadder$Past" "next" "I", Cond.fieldLink RX2 11 "GranaryLadder$Past" "walls" "[LGranaryLadder$Wall;", Cond.fieldLink RX2 21 "GranaryLadder$Past" "kept" "I", Cond.methodLink RX2 29 Lib.Math.min.name]
def wsX4_order_r5 : List Cond := [Cond.methodLink RX2 25 yX3_copyFrom]
def wsX4_order : List Cond := .code yX4_order cX4_order 3 (some .int) :: ((wsX4_order_r1 ++ (wsX4_order_r2 ++ (wsX4_order_r3 ++ (wsX4_order_r4 ++ wsX4_order_r5)))) ++ wsX40 ++ wsX30 ++ wsX20)
def wsX4_isRung : List Cond := .code yX4_isRung cX4_isRung 1 (some .boolean) :: ([.methodLink RX4 138 yX4_isWithin, .static yX4_isWithin, .initialized RX4, .code yX4_isWithin cX4_isWithin 3 (some .boolean)])
def wsX4_mend_r1 : List Cond := [Cond.fieldLink RX4 10 "GranaryLadder" "now" "LGranaryLadder$Wall;", Cond.methodLink RX4 111 yX4_isRung, Cond.static yX4_isRung, Cond.initialized RX4, Cond.code yX4_isRung cX4_isRung 1 (some .boolean), Cond.methodLink RX4 138 yX4_isWithin, Cond.static yX4_isWithin, Cond.code yX4_isWithin cX4_isWithin 3 (some .boolean), Cond.methodLink RX4 123 yX3_isCracked, Cond.instanceMethod yX3_isCracked, Cond.selects RX3 yX3_isCracked yX3_isCracked, Cond.initialized RX3, Cond.code yX3_isCracked cX3_isCracked 2 (some .boolean), Cond.fieldLink RX3 24 "GranaryLadder$Wall" "cracks" "[I", Cond.static yX4_at, Cond.code yX4_at cX4_at 2 (some .int), Cond.methodLink RX4 195 yX4_refuse, Cond.instanceMethod yX4_refuse, Cond.selects RX4 yX4_refuse yX4_refuse, Cond.code yX4_refuse cX4_refuse 3 (some .int), Cond.fieldLink RX4 47 "GranaryLadder" "latestReason" "I", Cond.fieldLink RX4 51 "GranaryLadder" "latestDetail" "I", Cond.methodLink RX4 117 yX3_sumOf, Cond.instanceMethod yX3_sumOf]
def wsX4_mend_r2 : List Cond := [Cond.selects RX3 yX3_sumOf yX3_sumOf, Cond.code yX3_sumOf cX3_sumOf 2 (some .int), Cond.fieldLink RX3 21 "GranaryLadder$Wall" "sums" "[I", Cond.methodLink RX4 120 yX4_loadOf, Cond.static yX4_loadOf, Cond.code yX4_loadOf cX4_loadOf 1 (some .int), Cond.methodLink RX4 114 yX4_sizeOf, Cond.static yX4_sizeOf, Cond.code yX4_sizeOf cX4_sizeOf 1 (some .int), Cond.methodLink RX4 232 yX3_counted, Cond.instanceMethod yX3_counted, Cond.selects RX3 yX3_counted yX3_counted, Cond.code yX3_counted cX3_counted 2 (some .int), Cond.fieldLink RX3 27 "GranaryLadder$Wall" "counters" "[I", Cond.methodLink RX4 273 yX3_makeSound, Cond.instanceMethod yX3_makeSound, Cond.selects RX3 yX3_makeSound yX3_makeSound, Cond.code yX3_makeSound cX3_makeSound 2 none, Cond.static yX4_put, Cond.code yX4_put cX4_put 3 none, Cond.methodLink RX4 245 yX3_count, Cond.instanceMethod yX3_count, Cond.selects RX3 yX3_count yX3_count, Cond.code yX3_count cX3_count 3 none]
def wsX4_mend : List Cond := .code yX4_mend cX4_mend 3 (some .int) :: ((wsX4_mend_r1 ++ wsX4_mend_r2) ++ wsX40 ++ wsX30)
def wsX4_fix_r1 : List Cond := [Cond.fieldLink RX4 16 "GranaryLadder" "before" "LGranaryLadder$Wall;", Cond.fieldLink RX4 10 "GranaryLadder" "now" "LGranaryLadder$Wall;", Cond.methodLink RX4 58 yX3_copyFrom, Cond.instanceMethod yX3_copyFrom, Cond.selects RX3 yX3_copyFrom yX3_copyFrom, Cond.initialized RX3, Cond.code yX3_copyFrom cX3_copyFrom 2 none, Cond.fieldLink RX3 9 "GranaryLadder$Wall" "kinds" "[I", Cond.fieldLink RX3 15 "GranaryLadder$Wall" "sacks" "[I", Cond.fieldLink RX3 18 "GranaryLadder$Wall" "ages" "[I", Cond.fieldLink RX3 21 "GranaryLadder$Wall" "sums" "[I", Cond.fieldLink RX3 24 "GranaryLadder$Wall" "cracks" "[I", Cond.fieldLink RX3 27 "GranaryLadder$Wall" "counters" "[I", Cond.static yX4_copyRow, Cond.initialized RX4, Cond.code yX4_copyRow cX4_copyRow 3 none, Cond.methodLink RX4 80 yX4_mend, Cond.instanceMethod yX4_mend, Cond.selects RX4 yX4_mend yX4_mend, Cond.code yX4_mend cX4_mend 3 (some .int), Cond.methodLink RX4 111 yX4_isRung, Cond.static yX4_isRung, Cond.code yX4_isRung cX4_isRung 1 (some .boolean), Cond.methodLink RX4 138 yX4_isWithin]
def wsX4_fix_r2 : List Cond := [Cond.static yX4_isWithin, Cond.code yX4_isWithin cX4_isWithin 3 (some .boolean), Cond.methodLink RX4 123 yX3_isCracked, Cond.instanceMethod yX3_isCracked, Cond.selects RX3 yX3_isCracked yX3_isCracked, Cond.code yX3_isCracked cX3_isCracked 2 (some .boolean), Cond.static yX4_at, Cond.code yX4_at cX4_at 2 (some .int), Cond.methodLink RX4 195 yX4_refuse, Cond.instanceMethod yX4_refuse, Cond.selects RX4 yX4_refuse yX4_refuse, Cond.code yX4_refuse cX4_refuse 3 (some .int), Cond.fieldLink RX4 47 "GranaryLadder" "latestReason" "I", Cond.fieldLink RX4 51 "GranaryLadder" "latestDetail" "I", Cond.methodLink RX4 117 yX3_sumOf, Cond.instanceMethod yX3_sumOf, Cond.selects RX3 yX3_sumOf yX3_sumOf, Cond.code yX3_sumOf cX3_sumOf 2 (some .int), Cond.methodLink RX4 120 yX4_loadOf, Cond.static yX4_loadOf, Cond.code yX4_loadOf cX4_loadOf 1 (some .int), Cond.methodLink RX4 114 yX4_sizeOf, Cond.static yX4_sizeOf, Cond.code yX4_sizeOf cX4_sizeOf 1 (some .int)]
def wsX4_fix_r3 : List Cond := [Cond.methodLink RX4 232 yX3_counted, Cond.instanceMethod yX3_counted, Cond.selects RX3 yX3_counted yX3_counted, Cond.code yX3_counted cX3_counted 2 (some .int), Cond.methodLink RX4 273 yX3_makeSound, Cond.instanceMethod yX3_makeSound, Cond.selects RX3 yX3_makeSound yX3_makeSound, Cond.code yX3_makeSound cX3_makeSound 2 none, Cond.static yX4_put, Cond.code yX4_put cX4_put 3 none, Cond.methodLink RX4 245 yX3_count, Cond.instanceMethod yX3_count, Cond.selects RX3 yX3_count yX3_count, Cond.code yX3_count cX3_count 3 none, Cond.methodLink RX4 66 yX4_remember, Cond.instanceMethod yX4_remember, Cond.selects RX4 yX4_remember yX4_remember, Cond.code yX4_remember cX4_remember 2 (some .int), Cond.fieldLink RX4 29 "GranaryLadder" "past" "LGranaryLadder$Past;", Cond.methodLink RX4 285 yX2_keep, Cond.instanceMethod yX2_keep, Cond.selects RX2 yX2_keep yX2_keep, Cond.initialized RX2, Cond.code yX2_keep cX2_keep 2 none]
def wsX4_fix_r4 : List Cond := [Cond.fieldLink RX2 17 "GranaryLadder$Past" "next" "I", Cond.fieldLink RX2 11 "GranaryLadder$Past" "walls" "[LGranaryLadder$Wall;", Cond.fieldLink RX2 21 "GranaryLadder$Past" "kept" "I", Cond.methodLink RX2 29 Lib.Math.min.name, Cond.static Lib.Math.min.name, Cond.initialized "java/lang/Math", Cond.code Lib.Math.min.name Lib.Math.min.code 2 (some .int), Cond.methodLink RX2 25 yX3_copyFrom]
def wsX4_fix : List Cond := .code yX4_fix cX4_fix 2 (some .int) :: ((wsX4_fix_r1 ++ (wsX4_fix_r2 ++ (wsX4_fix_r3 ++ wsX4_fix_r4))) ++ wsX40 ++ wsX30 ++ wsX20)
def wsX4_letWeeksPass_r1 : List Cond := [Cond.fieldLink RX4 10 "GranaryLadder" "now" "LGranaryLadder$Wall;", Cond.methodLink RX4 138 yX4_isWithin, Cond.static yX4_isWithin, Cond.initialized RX4, Cond.code yX4_isWithin cX4_isWithin 3 (some .boolean), Cond.methodLink RX4 276 yX3_growOlder, Cond.instanceMethod yX3_growOlder, Cond.selects RX3 yX3_growOlder yX3_growOlder, Cond.initialized RX3, Cond.code yX3_growOlder cX3_growOlder 4 (some .int), Cond.fieldLink RX3 18 "GranaryLadder$Wall" "ages" "[I", Cond.methodLink RX3 50 yX3_isEmpty, Cond.instanceMethod yX3_isEmpty, Cond.selects RX3 yX3_isEmpty yX3_isEmpty, Cond.code yX3_isEmpty cX3_isEmpty 2 (some .boolean), Cond.fieldLink RX3 15 "GranaryLadder$Wall" "sacks" "[I", Cond.static yX4_at, Cond.code yX4_at cX4_at 2 (some .int), Cond.methodLink RX3 79 yX3_ageIn, Cond.instanceMethod yX3_ageIn, Cond.selects RX3 yX3_ageIn yX3_ageIn, Cond.code yX3_ageIn cX3_ageIn 2 (some .int), Cond.static yX4_put, Cond.code yX4_put cX4_put 3 none]
def wsX4_letWeeksPass_r2 : List Cond := [Cond.methodLink RX3 89 yX3_spoilingAt, Cond.instanceMethod yX3_spoilingAt, Cond.selects RX3 yX3_spoilingAt yX3_spoilingAt, Cond.code yX3_spoilingAt cX3_spoilingAt 3 (some .int), Cond.methodLink RX3 76 yX3_kindIn, Cond.instanceMethod yX3_kindIn, Cond.selects RX3 yX3_kindIn yX3_kindIn, Cond.code yX3_kindIn cX3_kindIn 2 (some .int), Cond.fieldLink RX3 9 "GranaryLadder$Wall" "kinds" "[I", Cond.methodLink RX3 69 yX3_sacksIn, Cond.instanceMethod yX3_sacksIn, Cond.selects RX3 yX3_sacksIn yX3_sacksIn, Cond.code yX3_sacksIn cX3_sacksIn 2 (some .int), Cond.methodLink RX3 92 yX3_remove, Cond.instanceMethod yX3_remove, Cond.selects RX3 yX3_remove yX3_remove, Cond.code yX3_remove cX3_remove 3 none, Cond.methodLink RX3 42 yX3_changeSacks, Cond.instanceMethod yX3_changeSacks, Cond.selects RX3 yX3_changeSacks yX3_changeSacks, Cond.code yX3_changeSacks cX3_changeSacks 5 none, Cond.fieldLink RX3 21 "GranaryLadder$Wall" "sums" "[I", Cond.static yX4_sizeOf, Cond.code yX4_sizeOf cX4_sizeOf 1 (some .int)]
def wsX4_letWeeksPass_r3 : List Cond := [Cond.methodLink RX4 245 yX3_count, Cond.instanceMethod yX3_count, Cond.selects RX3 yX3_count yX3_count, Cond.code yX3_count cX3_count 3 none, Cond.fieldLink RX3 27 "GranaryLadder$Wall" "counters" "[I"]
def wsX4_letWeeksPass : List Cond := .code yX4_letWeeksPass cX4_letWeeksPass 4 (some .int) :: ((wsX4_letWeeksPass_r1 ++ (wsX4_letWeeksPass_r2 ++ wsX4_letWeeksPass_r3)) ++ wsX40 ++ wsX30)
def wsX4_pass_r1 : List Cond := [Cond.fieldLink RX4 16 "GranaryLadder" "before" "LGranaryLadder$Wall;", Cond.fieldLink RX4 10 "GranaryLadder" "now" "LGranaryLadder$Wall;", Cond.methodLink RX4 58 yX3_copyFrom, Cond.instanceMethod yX3_copyFrom, Cond.selects RX3 yX3_copyFrom yX3_copyFrom, Cond.initialized RX3, Cond.code yX3_copyFrom cX3_copyFrom 2 none, Cond.fieldLink RX3 9 "GranaryLadder$Wall" "kinds" "[I", Cond.fieldLink RX3 15 "GranaryLadder$Wall" "sacks" "[I", Cond.fieldLink RX3 18 "GranaryLadder$Wall" "ages" "[I", Cond.fieldLink RX3 21 "GranaryLadder$Wall" "sums" "[I", Cond.fieldLink RX3 24 "GranaryLadder$Wall" "cracks" "[I", Cond.fieldLink RX3 27 "GranaryLadder$Wall" "counters" "[I", Cond.static yX4_copyRow, Cond.initialized RX4, Cond.code yX4_copyRow cX4_copyRow 3 none, Cond.methodLink RX4 83 yX4_letWeeksPass, Cond.instanceMethod yX4_letWeeksPass, Cond.selects RX4 yX4_letWeeksPass yX4_letWeeksPass, Cond.code yX4_letWeeksPass cX4_letWeeksPass 4 (some .int), Cond.methodLink RX4 138 yX4_isWithin, Cond.static yX4_isWithin, Cond.code yX4_isWithin cX4_isWithin 3 (some .boolean), Cond.methodLink RX4 276 yX3_growOlder]
def wsX4_pass_r2 : List Cond := [Cond.instanceMethod yX3_growOlder, Cond.selects RX3 yX3_growOlder yX3_growOlder, Cond.code yX3_growOlder cX3_growOlder 4 (some .int), Cond.methodLink RX3 50 yX3_isEmpty, Cond.instanceMethod yX3_isEmpty, Cond.selects RX3 yX3_isEmpty yX3_isEmpty, Cond.code yX3_isEmpty cX3_isEmpty 2 (some .boolean), Cond.static yX4_at, Cond.code yX4_at cX4_at 2 (some .int), Cond.methodLink RX3 79 yX3_ageIn, Cond.instanceMethod yX3_ageIn, Cond.selects RX3 yX3_ageIn yX3_ageIn, Cond.code yX3_ageIn cX3_ageIn 2 (some .int), Cond.static yX4_put, Cond.code yX4_put cX4_put 3 none, Cond.methodLink RX3 89 yX3_spoilingAt, Cond.instanceMethod yX3_spoilingAt, Cond.selects RX3 yX3_spoilingAt yX3_spoilingAt, Cond.code yX3_spoilingAt cX3_spoilingAt 3 (some .int), Cond.methodLink RX3 76 yX3_kindIn, Cond.instanceMethod yX3_kindIn, Cond.selects RX3 yX3_kindIn yX3_kindIn, Cond.code yX3_kindIn cX3_kindIn 2 (some .int), Cond.methodLink RX3 69 yX3_sacksIn]
def wsX4_pass_r3 : List Cond := [Cond.instanceMethod yX3_sacksIn, Cond.selects RX3 yX3_sacksIn yX3_sacksIn, Cond.code yX3_sacksIn cX3_sacksIn 2 (some .int), Cond.methodLink RX3 92 yX3_remove, Cond.instanceMethod yX3_remove, Cond.selects RX3 yX3_remove yX3_remove, Cond.code yX3_remove cX3_remove 3 none, Cond.methodLink RX3 42 yX3_changeSacks, Cond.instanceMethod yX3_changeSacks, Cond.selects RX3 yX3_changeSacks yX3_changeSacks, Cond.code yX3_changeSacks cX3_changeSacks 5 none, Cond.static yX4_sizeOf, Cond.code yX4_sizeOf cX4_sizeOf 1 (some .int), Cond.methodLink RX4 245 yX3_count, Cond.instanceMethod yX3_count, Cond.selects RX3 yX3_count yX3_count, Cond.code yX3_count cX3_count 3 none, Cond.methodLink RX4 66 yX4_remember, Cond.instanceMethod yX4_remember, Cond.selects RX4 yX4_remember yX4_remember, Cond.code yX4_remember cX4_remember 2 (some .int), Cond.fieldLink RX4 29 "GranaryLadder" "past" "LGranaryLadder$Past;", Cond.methodLink RX4 285 yX2_keep, Cond.instanceMethod yX2_keep]
def wsX4_pass_r4 : List Cond := [Cond.selects RX2 yX2_keep yX2_keep, Cond.initialized RX2, Cond.code yX2_keep cX2_keep 2 none, Cond.fieldLink RX2 17 "GranaryLadder$Past" "next" "I", Cond.fieldLink RX2 11 "GranaryLadder$Past" "walls" "[LGranaryLadder$Wall;", Cond.fieldLink RX2 21 "GranaryLadder$Past" "kept" "I", Cond.methodLink RX2 29 Lib.Math.min.name, Cond.static Lib.Math.min.name, Cond.initialized "java/lang/Math", Cond.code Lib.Math.min.name Lib.Math.min.code 2 (some .int), Cond.methodLink RX2 25 yX3_copyFrom]
def wsX4_pass : List Cond := .code yX4_pass cX4_pass 2 (some .int) :: ((wsX4_pass_r1 ++ (wsX4_pass_r2 ++ (wsX4_pass_r3 ++ wsX4_pass_r4))) ++ wsX40 ++ wsX30 ++ wsX20)
def wsX4_bayOf_r1 : List Cond := [Cond.fieldLink RX4 10 "GranaryLadder" "now" "LGranaryLadder$Wall;", Cond.methodLink RX4 86 yX4_isBay, Cond.static yX4_isBay, Cond.initialized RX4, Cond.code yX4_isBay cX4_isBay 1 (some .boolean), Cond.methodLink RX4 138 yX4_isWithin, Cond.static yX4_isWithin, Cond.code yX4_isWithin cX4_isWithin 3 (some .boolean), Cond.methodLink RX4 90 yX3_isEmpty, Cond.instanceMethod yX3_isEmpty, Cond.selects RX3 yX3_isEmpty yX3_isEmpty, Cond.initialized RX3, Cond.code yX3_isEmpty cX3_isEmpty 2 (some .boolean), Cond.fieldLink RX3 15 "GranaryLadder$Wall" "sacks" "[I", Cond.static yX4_at, Cond.code yX4_at cX4_at 2 (some .int), Cond.methodLink RX4 93 yX3_kindIn, Cond.instanceMethod yX3_kindIn, Cond.selects RX3 yX3_kindIn yX3_kindIn, Cond.code yX3_kindIn cX3_kindIn 2 (some .int), Cond.fieldLink RX3 9 "GranaryLadder$Wall" "kinds" "[I", Cond.methodLink RX4 96 yX3_sacksIn, Cond.instanceMethod yX3_sacksIn, Cond.selects RX3 yX3_sacksIn yX3_sacksIn]
def wsX4_bayOf_r2 : List Cond := [Cond.code yX3_sacksIn cX3_sacksIn 2 (some .int), Cond.methodLink RX4 99 yX3_ageIn, Cond.instanceMethod yX3_ageIn, Cond.selects RX3 yX3_ageIn yX3_ageIn, Cond.code yX3_ageIn cX3_ageIn 2 (some .int), Cond.fieldLink RX3 18 "GranaryLadder$Wall" "ages" "[I", Cond.methodLink RX4 102 yX3_spoilingAt, Cond.instanceMethod yX3_spoilingAt, Cond.selects RX3 yX3_spoilingAt yX3_spoilingAt, Cond.code yX3_spoilingAt cX3_spoilingAt 3 (some .int), Cond.methodLink RX3 76 yX3_kindIn, Cond.methodLink RX3 69 yX3_sacksIn, Cond.methodLink RX4 105 yX3_rungsOver, Cond.instanceMethod yX3_rungsOver, Cond.selects RX3 yX3_rungsOver yX3_rungsOver, Cond.code yX3_rungsOver cX3_rungsOver 5 (some .int), Cond.static yX4_sizeOf, Cond.code yX4_sizeOf cX4_sizeOf 1 (some .int), Cond.methodLink RX4 108 yX3_crackedOver, Cond.instanceMethod yX3_crackedOver, Cond.selects RX3 yX3_crackedOver yX3_crackedOver, Cond.code yX3_crackedOver cX3_crackedOver 5 (some .int), Cond.methodLink RX3 57 yX3_isCracked, Cond.instanceMethod yX3_isCracked]
def wsX4_bayOf_r3 : List Cond := [Cond.selects RX3 yX3_isCracked yX3_isCracked, Cond.code yX3_isCracked cX3_isCracked 2 (some .boolean), Cond.fieldLink RX3 24 "GranaryLadder$Wall" "cracks" "[I"]
def wsX4_bayOf : List Cond := .code yX4_bayOf cX4_bayOf 3 (some .int) :: ((wsX4_bayOf_r1 ++ (wsX4_bayOf_r2 ++ wsX4_bayOf_r3)) ++ wsX40 ++ wsX30)
def wsX4_firstBayOf : List Cond := .code yX4_firstBayOf cX4_firstBayOf 1 (some .int) :: ([.methodLink RX4 114 yX4_sizeOf, .static yX4_sizeOf, .initialized RX4, .code yX4_sizeOf cX4_sizeOf 1 (some .int)])
def wsX4_rungsBelow : List Cond := .code yX4_rungsBelow cX4_rungsBelow 4 (some .int) :: ([.methodLink RX4 126 yX4_firstBayOf, .static yX4_firstBayOf, .initialized RX4, .code yX4_firstBayOf cX4_firstBayOf 1 (some .int), .methodLink RX4 114 yX4_sizeOf, .static yX4_sizeOf, .code yX4_sizeOf cX4_sizeOf 1 (some .int)])
def wsX4_rungOf_r1 : List Cond := [Cond.fieldLink RX4 10 "GranaryLadder" "now" "LGranaryLadder$Wall;", Cond.methodLink RX4 111 yX4_isRung, Cond.static yX4_isRung, Cond.initialized RX4, Cond.code yX4_isRung cX4_isRung 1 (some .boolean), Cond.methodLink RX4 138 yX4_isWithin, Cond.static yX4_isWithin, Cond.code yX4_isWithin cX4_isWithin 3 (some .boolean), Cond.methodLink RX4 114 yX4_sizeOf, Cond.static yX4_sizeOf, Cond.code yX4_sizeOf cX4_sizeOf 1 (some .int), Cond.methodLink RX4 117 yX3_sumOf, Cond.instanceMethod yX3_sumOf, Cond.selects RX3 yX3_sumOf yX3_sumOf, Cond.initialized RX3, Cond.code yX3_sumOf cX3_sumOf 2 (some .int), Cond.fieldLink RX3 21 "GranaryLadder$Wall" "sums" "[I", Cond.static yX4_at, Cond.code yX4_at cX4_at 2 (some .int), Cond.methodLink RX4 120 yX4_loadOf, Cond.static yX4_loadOf, Cond.code yX4_loadOf cX4_loadOf 1 (some .int), Cond.methodLink RX4 123 yX3_isCracked, Cond.instanceMethod yX3_isCracked]
def wsX4_rungOf_r2 : List Cond := [Cond.selects RX3 yX3_isCracked yX3_isCracked, Cond.code yX3_isCracked cX3_isCracked 2 (some .boolean), Cond.fieldLink RX3 24 "GranaryLadder$Wall" "cracks" "[I", Cond.methodLink RX4 126 yX4_firstBayOf, Cond.static yX4_firstBayOf, Cond.code yX4_firstBayOf cX4_firstBayOf 1 (some .int), Cond.methodLink RX4 129 yX4_rungsBelow, Cond.static yX4_rungsBelow, Cond.code yX4_rungsBelow cX4_rungsBelow 4 (some .int)]
def wsX4_rungOf : List Cond := .code yX4_rungOf cX4_rungOf 3 (some .int) :: ((wsX4_rungOf_r1 ++ wsX4_rungOf_r2) ++ wsX40 ++ wsX30)
def wsX4_sum : List Cond := .code yX4_sum cX4_sum 3 (some .int) :: ([.fieldLink RX4 10 "GranaryLadder" "now" "LGranaryLadder$Wall;", .methodLink RX4 86 yX4_isBay, .static yX4_isBay, .initialized RX4, .code yX4_isBay cX4_isBay 1 (some .boolean), .methodLink RX4 138 yX4_isWithin, .static yX4_isWithin, .code yX4_isWithin cX4_isWithin 3 (some .boolean), .methodLink RX4 132 yX3_sumByClimbing, .instanceMethod yX3_sumByClimbing, .selects RX3 yX3_sumByClimbing yX3_sumByClimbing, .initialized RX3, .code yX3_sumByClimbing cX3_sumByClimbing 5 (some .int), .methodLink RX3 60 yX3_sumOf, .instanceMethod yX3_sumOf, .selects RX3 yX3_sumOf yX3_sumOf, .code yX3_sumOf cX3_sumOf 2 (some .int), .fieldLink RX3 21 "GranaryLadder$Wall" "sums" "[I", .static yX4_at, .code yX4_at cX4_at 2 (some .int), .static yX4_sizeOf, .code yX4_sizeOf cX4_sizeOf 1 (some .int)] ++ wsX40 ++ wsX30)
def wsX4_sumAgain : List Cond := .code yX4_sumAgain cX4_sumAgain 3 (some .int) :: ([.fieldLink RX4 10 "GranaryLadder" "now" "LGranaryLadder$Wall;", .methodLink RX4 86 yX4_isBay, .static yX4_isBay, .initialized RX4, .code yX4_isBay cX4_isBay 1 (some .boolean), .methodLink RX4 138 yX4_isWithin, .static yX4_isWithin, .code yX4_isWithin cX4_isWithin 3 (some .boolean), .methodLink RX4 135 yX3_sumByBays, .instanceMethod yX3_sumByBays, .selects RX3 yX3_sumByBays yX3_sumByBays, .initialized RX3, .code yX3_sumByBays cX3_sumByBays 5 (some .int), .methodLink RX3 69 yX3_sacksIn, .instanceMethod yX3_sacksIn, .selects RX3 yX3_sacksIn yX3_sacksIn, .code yX3_sacksIn cX3_sacksIn 2 (some .int), .fieldLink RX3 15 "GranaryLadder$Wall" "sacks" "[I", .static yX4_at, .code yX4_at cX4_at 2 (some .int)] ++ wsX40 ++ wsX30)
def wsX4_reach : List Cond := .code yX4_reach cX4_reach 6 (some .int) :: ([.fieldLink RX4 10 "GranaryLadder" "now" "LGranaryLadder$Wall;", .methodLink RX4 138 yX4_isWithin, .static yX4_isWithin, .initialized RX4, .code yX4_isWithin cX4_isWithin 3 (some .boolean), .methodLink RX4 117 yX3_sumOf, .instanceMethod yX3_sumOf, .selects RX3 yX3_sumOf yX3_sumOf, .initialized RX3, .code yX3_sumOf cX3_sumOf 2 (some .int), .fieldLink RX3 21 "GranaryLadder$Wall" "sums" "[I", .static yX4_at, .code yX4_at cX4_at 2 (some .int)] ++ wsX40 ++ wsX30)
def wsX4_reachAgain : List Cond := .code yX4_reachAgain cX4_reachAgain 4 (some .int) :: ([.fieldLink RX4 10 "GranaryLadder" "now" "LGranaryLadder$Wall;", .methodLink RX4 138 yX4_isWithin, .static yX4_isWithin, .initialized RX4, .code yX4_isWithin cX4_isWithin 3 (some .boolean), .methodLink RX4 96 yX3_sacksIn, .instanceMethod yX3_sacksIn, .selects RX3 yX3_sacksIn yX3_sacksIn, .initialized RX3, .code yX3_sacksIn cX3_sacksIn 2 (some .int), .fieldLink RX3 15 "GranaryLadder$Wall" "sacks" "[I", .static yX4_at, .code yX4_at cX4_at 2 (some .int)] ++ wsX40 ++ wsX30)
def wsX4_stepsBelow : List Cond := .code yX4_stepsBelow cX4_stepsBelow 6 (some .int) :: ([.methodLink RX4 123 yX3_isCracked, .instanceMethod yX3_isCracked, .selects RX3 yX3_isCracked yX3_isCracked, .initialized RX3, .code yX3_isCracked cX3_isCracked 2 (some .boolean), .fieldLink RX3 24 "GranaryLadder$Wall" "cracks" "[I", .static yX4_at, .initialized RX4, .code yX4_at cX4_at 2 (some .int), .methodLink RX4 126 yX4_firstBayOf, .static yX4_firstBayOf, .code yX4_firstBayOf cX4_firstBayOf 1 (some .int), .methodLink RX4 114 yX4_sizeOf, .static yX4_sizeOf, .code yX4_sizeOf cX4_sizeOf 1 (some .int), .methodLink RX4 142 yX4_stepsBelow, .static yX4_stepsBelow] ++ wsX30)
def wsX4_steps_r1 : List Cond := [Cond.fieldLink RX4 10 "GranaryLadder" "now" "LGranaryLadder$Wall;", Cond.methodLink RX4 86 yX4_isBay, Cond.static yX4_isBay, Cond.initialized RX4, Cond.code yX4_isBay cX4_isBay 1 (some .boolean), Cond.methodLink RX4 138 yX4_isWithin, Cond.static yX4_isWithin, Cond.code yX4_isWithin cX4_isWithin 3 (some .boolean), Cond.methodLink RX4 142 yX4_stepsBelow, Cond.static yX4_stepsBelow, Cond.code yX4_stepsBelow cX4_stepsBelow 6 (some .int), Cond.methodLink RX4 123 yX3_isCracked, Cond.instanceMethod yX3_isCracked, Cond.selects RX3 yX3_isCracked yX3_isCracked, Cond.initialized RX3, Cond.code yX3_isCracked cX3_isCracked 2 (some .boolean), Cond.fieldLink RX3 24 "GranaryLadder$Wall" "cracks" "[I", Cond.static yX4_at, Cond.code yX4_at cX4_at 2 (some .int), Cond.methodLink RX4 126 yX4_firstBayOf, Cond.static yX4_firstBayOf, Cond.code yX4_firstBayOf cX4_firstBayOf 1 (some .int), Cond.methodLink RX4 114 yX4_sizeOf, Cond.static yX4_sizeOf]
def wsX4_steps_r2 : List Cond := [Cond.code yX4_sizeOf cX4_sizeOf 1 (some .int)]
def wsX4_steps : List Cond := .code yX4_steps cX4_steps 5 (some .int) :: ((wsX4_steps_r1 ++ wsX4_steps_r2) ++ wsX40 ++ wsX30)
def wsX4_knownSteps : List Cond := .code yX4_knownSteps cX4_knownSteps 6 (some .int) :: ([.fieldLink RX4 54 "GranaryLadder" "stepsOfRungs" "[I", .methodLink RX4 205 yX4_at, .static yX4_at, .initialized RX4, .code yX4_at cX4_at 2 (some .int), .methodLink RX4 114 yX4_sizeOf, .static yX4_sizeOf, .code yX4_sizeOf cX4_sizeOf 1 (some .int)] ++ wsX40)
def wsX4_stepsByKnown : List Cond := .code yX4_stepsByKnown cX4_stepsByKnown 2 (some .int) :: ([.fieldLink RX4 10 "GranaryLadder" "now" "LGranaryLadder$Wall;", .methodLink RX4 123 yX3_isCracked, .instanceMethod yX3_isCracked, .selects RX3 yX3_isCracked yX3_isCracked, .initialized RX3, .code yX3_isCracked cX3_isCracked 2 (some .boolean), .fieldLink RX3 24 "GranaryLadder$Wall" "cracks" "[I", .static yX4_at, .initialized RX4, .code yX4_at cX4_at 2 (some .int), .methodLink RX4 126 yX4_firstBayOf, .static yX4_firstBayOf, .code yX4_firstBayOf cX4_firstBayOf 1 (some .int), .methodLink RX4 114 yX4_sizeOf, .static yX4_sizeOf, .code yX4_sizeOf cX4_sizeOf 1 (some .int), .methodLink RX4 153 yX4_knownSteps, .instanceMethod yX4_knownSteps, .selects RX4 yX4_knownSteps yX4_knownSteps, .code yX4_knownSteps cX4_knownSteps 6 (some .int), .fieldLink RX4 54 "GranaryLadder" "stepsOfRungs" "[I", .methodLink RX4 205 yX4_at] ++ wsX40 ++ wsX30)
def wsX4_stepsAgain_r1 : List Cond := [Cond.fieldLink RX4 54 "GranaryLadder" "stepsOfRungs" "[I", Cond.methodLink RX4 86 yX4_isBay, Cond.static yX4_isBay, Cond.initialized RX4, Cond.code yX4_isBay cX4_isBay 1 (some .boolean), Cond.methodLink RX4 138 yX4_isWithin, Cond.static yX4_isWithin, Cond.code yX4_isWithin cX4_isWithin 3 (some .boolean), Cond.methodLink RX4 146 yX4_stepsByKnown, Cond.instanceMethod yX4_stepsByKnown, Cond.selects RX4 yX4_stepsByKnown yX4_stepsByKnown, Cond.code yX4_stepsByKnown cX4_stepsByKnown 2 (some .int), Cond.fieldLink RX4 10 "GranaryLadder" "now" "LGranaryLadder$Wall;", Cond.methodLink RX4 123 yX3_isCracked, Cond.instanceMethod yX3_isCracked, Cond.selects RX3 yX3_isCracked yX3_isCracked, Cond.initialized RX3, Cond.code yX3_isCracked cX3_isCracked 2 (some .boolean), Cond.fieldLink RX3 24 "GranaryLadder$Wall" "cracks" "[I", Cond.static yX4_at, Cond.code yX4_at cX4_at 2 (some .int), Cond.methodLink RX4 126 yX4_firstBayOf, Cond.static yX4_firstBayOf, Cond.code yX4_firstBayOf cX4_firstBayOf 1 (some .int)]
def wsX4_stepsAgain_r2 : List Cond := [Cond.methodLink RX4 114 yX4_sizeOf, Cond.static yX4_sizeOf, Cond.code yX4_sizeOf cX4_sizeOf 1 (some .int), Cond.methodLink RX4 153 yX4_knownSteps, Cond.instanceMethod yX4_knownSteps, Cond.selects RX4 yX4_knownSteps yX4_knownSteps, Cond.code yX4_knownSteps cX4_knownSteps 6 (some .int), Cond.methodLink RX4 205 yX4_at, Cond.methodLink RX4 149 yX4_put, Cond.static yX4_put, Cond.code yX4_put cX4_put 3 none]
def wsX4_stepsAgain : List Cond := .code yX4_stepsAgain cX4_stepsAgain 3 (some .int) :: ((wsX4_stepsAgain_r1 ++ wsX4_stepsAgain_r2) ++ wsX40 ++ wsX30)
def wsX4_oldest_r1 : List Cond := [Cond.fieldLink RX4 10 "GranaryLadder" "now" "LGranaryLadder$Wall;", Cond.methodLink RX4 90 yX3_isEmpty, Cond.instanceMethod yX3_isEmpty, Cond.selects RX3 yX3_isEmpty yX3_isEmpty, Cond.initialized RX3, Cond.code yX3_isEmpty cX3_isEmpty 2 (some .boolean), Cond.fieldLink RX3 15 "GranaryLadder$Wall" "sacks" "[I", Cond.static yX4_at, Cond.initialized RX4, Cond.code yX4_at cX4_at 2 (some .int), Cond.methodLink RX4 156 yX3_placeOf, Cond.instanceMethod yX3_placeOf, Cond.selects RX3 yX3_placeOf yX3_placeOf, Cond.code yX3_placeOf cX3_placeOf 4 (some .int), Cond.methodLink RX3 50 yX3_isEmpty, Cond.methodLink RX3 82 yX3_isAhead, Cond.instanceMethod yX3_isAhead, Cond.selects RX3 yX3_isAhead yX3_isAhead, Cond.code yX3_isAhead cX3_isAhead 3 (some .boolean), Cond.methodLink RX3 79 yX3_ageIn, Cond.instanceMethod yX3_ageIn, Cond.selects RX3 yX3_ageIn yX3_ageIn, Cond.code yX3_ageIn cX3_ageIn 2 (some .int), Cond.fieldLink RX3 18 "GranaryLadder$Wall" "ages" "[I"]
def wsX4_oldest_r2 : List Cond := [Cond.methodLink RX3 69 yX3_sacksIn, Cond.instanceMethod yX3_sacksIn, Cond.selects RX3 yX3_sacksIn yX3_sacksIn, Cond.code yX3_sacksIn cX3_sacksIn 2 (some .int)]
def wsX4_oldest : List Cond := .code yX4_oldest cX4_oldest 3 (some .int) :: ((wsX4_oldest_r1 ++ wsX4_oldest_r2) ++ wsX40 ++ wsX30)
def wsX4_commonAge : List Cond := .code yX4_commonAge cX4_commonAge 6 (some .int) :: ([.fieldLink RX4 10 "GranaryLadder" "now" "LGranaryLadder$Wall;", .methodLink RX4 99 yX3_ageIn, .instanceMethod yX3_ageIn, .selects RX3 yX3_ageIn yX3_ageIn, .initialized RX3, .code yX3_ageIn cX3_ageIn 2 (some .int), .fieldLink RX3 18 "GranaryLadder$Wall" "ages" "[I", .static yX4_at, .initialized RX4, .code yX4_at cX4_at 2 (some .int), .methodLink RX4 159 yX3_sacksAsOldAs, .instanceMethod yX3_sacksAsOldAs, .selects RX3 yX3_sacksAsOldAs yX3_sacksAsOldAs, .code yX3_sacksAsOldAs cX3_sacksAsOldAs 4 (some .int), .methodLink RX3 79 yX3_ageIn, .methodLink RX3 69 yX3_sacksIn, .instanceMethod yX3_sacksIn, .selects RX3 yX3_sacksIn yX3_sacksIn, .code yX3_sacksIn cX3_sacksIn 2 (some .int), .fieldLink RX3 15 "GranaryLadder$Wall" "sacks" "[I", .methodLink RX4 90 yX3_isEmpty, .instanceMethod yX3_isEmpty, .selects RX3 yX3_isEmpty yX3_isEmpty, .code yX3_isEmpty cX3_isEmpty 2 (some .boolean)] ++ wsX40 ++ wsX30)
def wsX4_tightest : List Cond := .code yX4_tightest cX4_tightest 5 (some .int) :: ([.fieldLink RX4 10 "GranaryLadder" "now" "LGranaryLadder$Wall;", .methodLink RX4 120 yX4_loadOf, .static yX4_loadOf, .initialized RX4, .code yX4_loadOf cX4_loadOf 1 (some .int), .methodLink RX4 114 yX4_sizeOf, .static yX4_sizeOf, .code yX4_sizeOf cX4_sizeOf 1 (some .int), .methodLink RX4 117 yX3_sumOf, .instanceMethod yX3_sumOf, .selects RX3 yX3_sumOf yX3_sumOf, .initialized RX3, .code yX3_sumOf cX3_sumOf 2 (some .int), .fieldLink RX3 21 "GranaryLadder$Wall" "sums" "[I", .static yX4_at, .code yX4_at cX4_at 2 (some .int), .methodLink RX4 123 yX3_isCracked, .instanceMethod yX3_isCracked, .selects RX3 yX3_isCracked yX3_isCracked, .code yX3_isCracked cX3_isCracked 2 (some .boolean), .fieldLink RX3 24 "GranaryLadder$Wall" "cracks" "[I"] ++ wsX40 ++ wsX30)
def wsX4_bestBay_r1 : List Cond := [Cond.fieldLink RX4 10 "GranaryLadder" "now" "LGranaryLadder$Wall;", Cond.methodLink RX4 162 yX4_isKind, Cond.static yX4_isKind, Cond.initialized RX4, Cond.code yX4_isKind cX4_isKind 1 (some .boolean), Cond.methodLink RX4 138 yX4_isWithin, Cond.static yX4_isWithin, Cond.code yX4_isWithin cX4_isWithin 3 (some .boolean), Cond.methodLink RX4 165 yX4_hasRoom, Cond.instanceMethod yX4_hasRoom, Cond.selects RX4 yX4_hasRoom yX4_hasRoom, Cond.code yX4_hasRoom cX4_hasRoom 4 (some .boolean), Cond.methodLink RX4 90 yX3_isEmpty, Cond.instanceMethod yX3_isEmpty, Cond.selects RX3 yX3_isEmpty yX3_isEmpty, Cond.initialized RX3, Cond.code yX3_isEmpty cX3_isEmpty 2 (some .boolean), Cond.fieldLink RX3 15 "GranaryLadder$Wall" "sacks" "[I", Cond.static yX4_at, Cond.code yX4_at cX4_at 2 (some .int), Cond.methodLink RX4 93 yX3_kindIn, Cond.instanceMethod yX3_kindIn, Cond.selects RX3 yX3_kindIn yX3_kindIn, Cond.code yX3_kindIn cX3_kindIn 2 (some .int)]
def wsX4_bestBay_r2 : List Cond := [Cond.fieldLink RX3 9 "GranaryLadder$Wall" "kinds" "[I", Cond.methodLink RX4 96 yX3_sacksIn, Cond.instanceMethod yX3_sacksIn, Cond.selects RX3 yX3_sacksIn yX3_sacksIn, Cond.code yX3_sacksIn cX3_sacksIn 2 (some .int), Cond.methodLink RX4 168 yX3_cracksUnder, Cond.instanceMethod yX3_cracksUnder, Cond.selects RX3 yX3_cracksUnder yX3_cracksUnder, Cond.code yX3_cracksUnder cX3_cracksUnder 5 (some .boolean), Cond.methodLink RX3 57 yX3_isCracked, Cond.instanceMethod yX3_isCracked, Cond.selects RX3 yX3_isCracked yX3_isCracked, Cond.code yX3_isCracked cX3_isCracked 2 (some .boolean), Cond.fieldLink RX3 24 "GranaryLadder$Wall" "cracks" "[I", Cond.methodLink RX3 60 yX3_sumOf, Cond.instanceMethod yX3_sumOf, Cond.selects RX3 yX3_sumOf yX3_sumOf, Cond.code yX3_sumOf cX3_sumOf 2 (some .int), Cond.fieldLink RX3 21 "GranaryLadder$Wall" "sums" "[I", Cond.static yX4_loadOf, Cond.code yX4_loadOf cX4_loadOf 1 (some .int), Cond.methodLink RX4 114 yX4_sizeOf, Cond.static yX4_sizeOf, Cond.code yX4_sizeOf cX4_sizeOf 1 (some .int)]
def wsX4_bestBay : List Cond := .code yX4_bestBay cX4_bestBay 6 (some .int) :: ((wsX4_bestBay_r1 ++ wsX4_bestBay_r2) ++ wsX40 ++ wsX30)
def wsX4_price : List Cond := .code yX4_price cX4_price 3 (some .int) :: ([.methodLink RX4 162 yX4_isKind, .static yX4_isKind, .initialized RX4, .code yX4_isKind cX4_isKind 1 (some .boolean), .methodLink RX4 138 yX4_isWithin, .static yX4_isWithin, .code yX4_isWithin cX4_isWithin 3 (some .boolean), .methodLink RX4 172 yX4_coinsFor, .static yX4_coinsFor, .code yX4_coinsFor cX4_coinsFor 2 (some .int)])
def wsX4_append : List Cond := .code yX4_append cX4_append 2 (some .int) :: ([.fieldLink RX4 36 "GranaryLadder" "text" "LGranaryLadder$CommandText;", .methodLink RX4 138 yX4_isWithin, .static yX4_isWithin, .initialized RX4, .code yX4_isWithin cX4_isWithin 3 (some .boolean), .methodLink RX4 175 yX0_addCode, .instanceMethod yX0_addCode, .selects RX0 yX0_addCode yX0_addCode, .initialized RX0, .code yX0_addCode cX0_addCode 2 (some .int), .fieldLink RX0 15 "GranaryLadder$CommandText" "length" "I", .fieldLink RX0 9 "GranaryLadder$CommandText" "codes" "[I", .static yX4_put, .code yX4_put cX4_put 3 none] ++ wsX40 ++ wsX00)
def wsX4_carryOut_r1 : List Cond := [Cond.fieldLink RX4 36 "GranaryLadder" "text" "LGranaryLadder$CommandText;", Cond.methodLink RX4 279 yX0_argument, Cond.instanceMethod yX0_argument, Cond.selects RX0 yX0_argument yX0_argument, Cond.initialized RX0, Cond.code yX0_argument cX0_argument 3 (some .int), Cond.fieldLink RX0 19 "GranaryLadder$CommandText" "cells" "[I", Cond.static yX4_at, Cond.initialized RX4, Cond.code yX4_at cX4_at 2 (some .int), Cond.methodLink RX4 282 yX0_verb, Cond.instanceMethod yX0_verb, Cond.selects RX0 yX0_verb yX0_verb, Cond.code yX0_verb cX0_verb 2 (some .int), Cond.methodLink RX4 62 yX4_storeSacks, Cond.instanceMethod yX4_storeSacks, Cond.selects RX4 yX4_storeSacks yX4_storeSacks, Cond.code yX4_storeSacks cX4_storeSacks 4 (some .int), Cond.fieldLink RX4 10 "GranaryLadder" "now" "LGranaryLadder$Wall;", Cond.methodLink RX4 86 yX4_isBay, Cond.static yX4_isBay, Cond.code yX4_isBay cX4_isBay 1 (some .boolean), Cond.methodLink RX4 138 yX4_isWithin, Cond.static yX4_isWithin]
def wsX4_carryOut_r2 : List Cond := [Cond.code yX4_isWithin cX4_isWithin 3 (some .boolean), Cond.methodLink RX4 162 yX4_isKind, Cond.static yX4_isKind, Cond.code yX4_isKind cX4_isKind 1 (some .boolean), Cond.methodLink RX4 165 yX4_hasRoom, Cond.instanceMethod yX4_hasRoom, Cond.selects RX4 yX4_hasRoom yX4_hasRoom, Cond.code yX4_hasRoom cX4_hasRoom 4 (some .boolean), Cond.methodLink RX4 90 yX3_isEmpty, Cond.instanceMethod yX3_isEmpty, Cond.selects RX3 yX3_isEmpty yX3_isEmpty, Cond.initialized RX3, Cond.code yX3_isEmpty cX3_isEmpty 2 (some .boolean), Cond.fieldLink RX3 15 "GranaryLadder$Wall" "sacks" "[I", Cond.methodLink RX4 93 yX3_kindIn, Cond.instanceMethod yX3_kindIn, Cond.selects RX3 yX3_kindIn yX3_kindIn, Cond.code yX3_kindIn cX3_kindIn 2 (some .int), Cond.fieldLink RX3 9 "GranaryLadder$Wall" "kinds" "[I", Cond.methodLink RX4 96 yX3_sacksIn, Cond.instanceMethod yX3_sacksIn, Cond.selects RX3 yX3_sacksIn yX3_sacksIn, Cond.code yX3_sacksIn cX3_sacksIn 2 (some .int), Cond.methodLink RX4 242 yX4_refuseRoom]
def wsX4_carryOut_r3 : List Cond := [Cond.instanceMethod yX4_refuseRoom, Cond.selects RX4 yX4_refuseRoom yX4_refuseRoom, Cond.code yX4_refuseRoom cX4_refuseRoom 4 (some .int), Cond.methodLink RX4 195 yX4_refuse, Cond.instanceMethod yX4_refuse, Cond.selects RX4 yX4_refuse yX4_refuse, Cond.code yX4_refuse cX4_refuse 3 (some .int), Cond.fieldLink RX4 47 "GranaryLadder" "latestReason" "I", Cond.fieldLink RX4 51 "GranaryLadder" "latestDetail" "I", Cond.methodLink RX4 245 yX3_count, Cond.instanceMethod yX3_count, Cond.selects RX3 yX3_count yX3_count, Cond.code yX3_count cX3_count 3 none, Cond.fieldLink RX3 27 "GranaryLadder$Wall" "counters" "[I", Cond.static yX4_put, Cond.code yX4_put cX4_put 3 none, Cond.methodLink RX4 99 yX3_ageIn, Cond.instanceMethod yX3_ageIn, Cond.selects RX3 yX3_ageIn yX3_ageIn, Cond.code yX3_ageIn cX3_ageIn 2 (some .int), Cond.fieldLink RX3 18 "GranaryLadder$Wall" "ages" "[I", Cond.methodLink RX4 249 yX3_bring, Cond.instanceMethod yX3_bring, Cond.selects RX3 yX3_bring yX3_bring]
def wsX4_carryOut_r4 : List Cond := [Cond.code yX3_bring cX3_bring 5 (some .int), Cond.methodLink RX3 42 yX3_changeSacks, Cond.instanceMethod yX3_changeSacks, Cond.selects RX3 yX3_changeSacks yX3_changeSacks, Cond.code yX3_changeSacks cX3_changeSacks 5 none, Cond.fieldLink RX3 21 "GranaryLadder$Wall" "sums" "[I", Cond.static yX4_sizeOf, Cond.code yX4_sizeOf cX4_sizeOf 1 (some .int), Cond.methodLink RX3 46 yX3_crackOver, Cond.instanceMethod yX3_crackOver, Cond.selects RX3 yX3_crackOver yX3_crackOver, Cond.code yX3_crackOver cX3_crackOver 5 (some .int), Cond.fieldLink RX3 24 "GranaryLadder$Wall" "cracks" "[I", Cond.methodLink RX3 57 yX3_isCracked, Cond.instanceMethod yX3_isCracked, Cond.selects RX3 yX3_isCracked yX3_isCracked, Cond.code yX3_isCracked cX3_isCracked 2 (some .boolean), Cond.methodLink RX3 60 yX3_sumOf, Cond.instanceMethod yX3_sumOf, Cond.selects RX3 yX3_sumOf yX3_sumOf, Cond.code yX3_sumOf cX3_sumOf 2 (some .int), Cond.static yX4_loadOf, Cond.code yX4_loadOf cX4_loadOf 1 (some .int), Cond.methodLink RX4 114 yX4_sizeOf]
def wsX4_carryOut_r5 : List Cond := [Cond.methodLink RX3 66 yX3_count, Cond.methodLink RX4 70 yX4_takeSacks, Cond.instanceMethod yX4_takeSacks, Cond.selects RX4 yX4_takeSacks yX4_takeSacks, Cond.code yX4_takeSacks cX4_takeSacks 3 (some .int), Cond.methodLink RX4 253 yX4_hasSacks, Cond.instanceMethod yX4_hasSacks, Cond.selects RX4 yX4_hasSacks yX4_hasSacks, Cond.code yX4_hasSacks cX4_hasSacks 3 (some .boolean), Cond.methodLink RX4 256 yX4_refuseSacks, Cond.instanceMethod yX4_refuseSacks, Cond.selects RX4 yX4_refuseSacks yX4_refuseSacks, Cond.code yX4_refuseSacks cX4_refuseSacks 2 (some .int), Cond.methodLink RX4 259 yX3_remove, Cond.instanceMethod yX3_remove, Cond.selects RX3 yX3_remove yX3_remove, Cond.code yX3_remove cX3_remove 3 none, Cond.methodLink RX3 50 yX3_isEmpty, Cond.methodLink RX4 74 yX4_moveSacks, Cond.instanceMethod yX4_moveSacks, Cond.selects RX4 yX4_moveSacks yX4_moveSacks, Cond.code yX4_moveSacks cX4_moveSacks 6 (some .int), Cond.methodLink RX4 262 Lib.Math.max.name, Cond.static Lib.Math.max.name]
def wsX4_carryOut_r6 : List Cond := [Cond.initialized "java/lang/Math", Cond.code Lib.Math.max.name Lib.Math.max.code 2 (some .int), Cond.methodLink RX4 77 yX4_fillOrder, Cond.instanceMethod yX4_fillOrder, Cond.selects RX4 yX4_fillOrder yX4_fillOrder, Cond.code yX4_fillOrder cX4_fillOrder 8 (some .int), Cond.methodLink RX4 270 Lib.Math.min.name, Cond.static Lib.Math.min.name, Cond.code Lib.Math.min.name Lib.Math.min.code 2 (some .int), Cond.methodLink RX4 224 yX3_sacksOfKind, Cond.instanceMethod yX3_sacksOfKind, Cond.selects RX3 yX3_sacksOfKind yX3_sacksOfKind, Cond.code yX3_sacksOfKind cX3_sacksOfKind 4 (some .int), Cond.methodLink RX3 76 yX3_kindIn, Cond.methodLink RX3 69 yX3_sacksIn, Cond.methodLink RX4 267 yX3_oldestOfKind, Cond.instanceMethod yX3_oldestOfKind, Cond.selects RX3 yX3_oldestOfKind yX3_oldestOfKind, Cond.code yX3_oldestOfKind cX3_oldestOfKind 4 (some .int), Cond.methodLink RX3 79 yX3_ageIn, Cond.methodLink RX4 172 yX4_coinsFor, Cond.static yX4_coinsFor, Cond.code yX4_coinsFor cX4_coinsFor 2 (some .int), Cond.methodLink RX4 80 yX4_mend]
def wsX4_carryOut_r7 : List Cond := [Cond.instanceMethod yX4_mend, Cond.selects RX4 yX4_mend yX4_mend, Cond.code yX4_mend cX4_mend 3 (some .int), Cond.methodLink RX4 111 yX4_isRung, Cond.static yX4_isRung, Cond.code yX4_isRung cX4_isRung 1 (some .boolean), Cond.methodLink RX4 123 yX3_isCracked, Cond.methodLink RX4 117 yX3_sumOf, Cond.methodLink RX4 120 yX4_loadOf, Cond.methodLink RX4 232 yX3_counted, Cond.instanceMethod yX3_counted, Cond.selects RX3 yX3_counted yX3_counted, Cond.code yX3_counted cX3_counted 2 (some .int), Cond.methodLink RX4 273 yX3_makeSound, Cond.instanceMethod yX3_makeSound, Cond.selects RX3 yX3_makeSound yX3_makeSound, Cond.code yX3_makeSound cX3_makeSound 2 none, Cond.methodLink RX4 83 yX4_letWeeksPass, Cond.instanceMethod yX4_letWeeksPass, Cond.selects RX4 yX4_letWeeksPass yX4_letWeeksPass, Cond.code yX4_letWeeksPass cX4_letWeeksPass 4 (some .int), Cond.methodLink RX4 276 yX3_growOlder, Cond.instanceMethod yX3_growOlder, Cond.selects RX3 yX3_growOlder yX3_growOlder]
def wsX4_carryOut_r8 : List Cond := [Cond.code yX3_growOlder cX3_growOlder 4 (some .int), Cond.methodLink RX3 89 yX3_spoilingAt, Cond.instanceMethod yX3_spoilingAt, Cond.selects RX3 yX3_spoilingAt yX3_spoilingAt, Cond.code yX3_spoilingAt cX3_spoilingAt 3 (some .int), Cond.methodLink RX3 92 yX3_remove]
def wsX4_carryOut : List Cond := .code yX4_carryOut cX4_carryOut 5 (some .int) :: ((wsX4_carryOut_r1 ++ (wsX4_carryOut_r2 ++ (wsX4_carryOut_r3 ++ (wsX4_carryOut_r4 ++ (wsX4_carryOut_r5 ++ (wsX4_carryOut_r6 ++ (wsX4_carryOut_r7 ++ wsX4_carryOut_r8))))))) ++ wsX40 ++ wsX00 ++ wsX30)
def wsX4_run_r1 : List Cond := [Cond.fieldLink RX4 36 "GranaryLadder" "text" "LGranaryLadder$CommandText;", Cond.fieldLink RX4 16 "GranaryLadder" "before" "LGranaryLadder$Wall;", Cond.fieldLink RX4 10 "GranaryLadder" "now" "LGranaryLadder$Wall;", Cond.methodLink RX4 178 yX0_readCommands, Cond.instanceMethod yX0_readCommands, Cond.selects RX0 yX0_readCommands yX0_readCommands, Cond.initialized RX0, Cond.code yX0_readCommands cX0_readCommands 2 (some .boolean), Cond.fieldLink RX0 28 "GranaryLadder$CommandText" "place" "I", Cond.fieldLink RX0 22 "GranaryLadder$CommandText" "commands" "I", Cond.fieldLink RX0 15 "GranaryLadder$CommandText" "length" "I", Cond.methodLink RX0 39 yX0_readCommand, Cond.instanceMethod yX0_readCommand, Cond.selects RX0 yX0_readCommand yX0_readCommand, Cond.code yX0_readCommand cX0_readCommand 3 (some .boolean), Cond.fieldLink RX0 25 "GranaryLadder$CommandText" "nextCell" "I", Cond.methodLink RX0 47 yX0_patternOf, Cond.static yX0_patternOf, Cond.code yX0_patternOf cX0_patternOf 1 (some (.object "java/lang/String")), Cond.methodLink RX0 51 yJ0_isEmpty_aae02, Cond.instanceMethod yJ0_isEmpty_aae02, Cond.selects RJ0 yJ0_isEmpty_aae02 yJ0_isEmpty_aae02, Cond.initialized RJ0, Cond.code yJ0_isEmpty_aae02 cJ0_isEmpty_aae02 1 (some .boolean)]
def wsX4_run_r2 : List Cond := [Cond.fieldLink RJ0 9 "java/lang/String" "value" "[B", Cond.methodLink RX0 56 yX0_nextCode, Cond.instanceMethod yX0_nextCode, Cond.selects RX0 yX0_nextCode yX0_nextCode, Cond.code yX0_nextCode cX0_nextCode 1 (some .int), Cond.fieldLink RX0 9 "GranaryLadder$CommandText" "codes" "[I", Cond.static yX4_at, Cond.initialized RX4, Cond.code yX4_at cX4_at 2 (some .int), Cond.methodLink RX0 60 yJ0_charAt_5068e, Cond.instanceMethod yJ0_charAt_5068e, Cond.selects RJ0 yJ0_charAt_5068e yJ0_charAt_5068e, Cond.code yJ0_charAt_5068e cJ0_charAt_5068e 2 (some .char), Cond.methodLink RJ0 492 yJ0_isLatin1_aae02, Cond.instanceMethod yJ0_isLatin1_aae02, Cond.selects RJ0 yJ0_isLatin1_aae02 yJ0_isLatin1_aae02, Cond.code yJ0_isLatin1_aae02 cJ0_isLatin1_aae02 1 (some .boolean), Cond.fieldLink RJ0 38 "java/lang/String" "COMPACT_STRINGS" "Z", Cond.fieldLink RJ0 15 "java/lang/String" "coder" "B", Cond.methodLink RJ0 495 yJ1_charAt_3b067, Cond.static yJ1_charAt_3b067, Cond.initialized RJ1, Cond.code yJ1_charAt_3b067 cJ1_charAt_3b067 2 (some .char), Cond.methodLink RJ1 9 yJ0_checkIndex_df160]
def wsX4_run_r3 : List Cond := [Cond.static yJ0_checkIndex_df160, Cond.code yJ0_checkIndex_df160 cJ0_checkIndex_df160 2 none, Cond.fieldLink RJ0 1053 "jdk/internal/util/Preconditions" "SIOOBE_FORMATTER" "Ljava/util/function/BiFunction;", Cond.methodLink RJ0 1059 yJ3_checkIndex_8e157, Cond.static yJ3_checkIndex_8e157, Cond.initialized RJ3, Cond.code yJ3_checkIndex_8e157 cJ3_checkIndex_8e157 3 (some .int), Cond.methodLink RJ0 498 yJ2_charAt_3b067, Cond.static yJ2_charAt_3b067, Cond.initialized RJ2, Cond.code yJ2_charAt_3b067 cJ2_charAt_3b067 2 (some .char), Cond.methodLink RJ2 67 yJ2_checkIndex_2214a, Cond.static yJ2_checkIndex_2214a, Cond.code yJ2_checkIndex_2214a cJ2_checkIndex_2214a 2 none, Cond.methodLink RJ2 48 yJ2_length_9d52b, Cond.static yJ2_length_9d52b, Cond.code yJ2_length_9d52b cJ2_length_9d52b 1 (some .int), Cond.methodLink RJ2 414 yJ0_checkIndex_df160, Cond.methodLink RJ2 71 yJ2_getChar_3b067, Cond.static yJ2_getChar_3b067, Cond.code yJ2_getChar_3b067 cJ2_getChar_3b067 2 (some .char), Cond.fieldLink RJ2 44 "java/lang/StringUTF16" "$assertionsDisabled" "Z", Cond.fieldLink RJ2 59 "java/lang/StringUTF16" "HI_BYTE_SHIFT" "I", Cond.fieldLink RJ2 63 "java/lang/StringUTF16" "LO_BYTE_SHIFT" "I"]
def wsX4_run_r4 : List Cond := [Cond.methodLink RX0 64 yX0_addCell, Cond.instanceMethod yX0_addCell, Cond.selects RX0 yX0_addCell yX0_addCell, Cond.code yX0_addCell cX0_addCell 2 none, Cond.fieldLink RX0 19 "GranaryLadder$CommandText" "cells" "[I", Cond.static yX4_put, Cond.code yX4_put cX4_put 3 none, Cond.methodLink RX0 68 yX0_readAlong, Cond.instanceMethod yX0_readAlong, Cond.selects RX0 yX0_readAlong yX0_readAlong, Cond.code yX0_readAlong cX0_readAlong 5 (some .boolean), Cond.methodLink RX0 86 yJ0_length_8abf5, Cond.instanceMethod yJ0_length_8abf5, Cond.selects RJ0 yJ0_length_8abf5 yJ0_length_8abf5, Cond.code yJ0_length_8abf5 cJ0_length_8abf5 1 (some .int), Cond.methodLink RJ0 335 yJ0_coder_7d493, Cond.instanceMethod yJ0_coder_7d493, Cond.selects RJ0 yJ0_coder_7d493 yJ0_coder_7d493, Cond.code yJ0_coder_7d493 cJ0_coder_7d493 1 (some .byte), Cond.methodLink RX0 88 yX0_readNumber, Cond.instanceMethod yX0_readNumber, Cond.selects RX0 yX0_readNumber yX0_readNumber, Cond.code yX0_readNumber cX0_readNumber 4 (some .boolean), Cond.static yX4_isWithin]
def wsX4_run_r5 : List Cond := [Cond.code yX4_isWithin cX4_isWithin 3 (some .boolean), Cond.methodLink RX0 91 yX0_readKind, Cond.instanceMethod yX0_readKind, Cond.selects RX0 yX0_readKind yX0_readKind, Cond.code yX0_readKind cX0_readKind 2 (some .boolean), Cond.methodLink RX0 43 yX0_readCode, Cond.instanceMethod yX0_readCode, Cond.selects RX0 yX0_readCode yX0_readCode, Cond.code yX0_readCode cX0_readCode 2 (some .boolean), Cond.methodLink RX4 182 yX0_becomeEmpty, Cond.instanceMethod yX0_becomeEmpty, Cond.selects RX0 yX0_becomeEmpty yX0_becomeEmpty, Cond.code yX0_becomeEmpty cX0_becomeEmpty 1 none, Cond.methodLink RX4 185 yX0_faultPosition, Cond.instanceMethod yX0_faultPosition, Cond.selects RX0 yX0_faultPosition yX0_faultPosition, Cond.code yX0_faultPosition cX0_faultPosition 1 (some .int), Cond.methodLink RX4 58 yX3_copyFrom, Cond.instanceMethod yX3_copyFrom, Cond.selects RX3 yX3_copyFrom yX3_copyFrom, Cond.initialized RX3, Cond.code yX3_copyFrom cX3_copyFrom 2 none, Cond.fieldLink RX3 9 "GranaryLadder$Wall" "kinds" "[I", Cond.fieldLink RX3 15 "GranaryLadder$Wall" "sacks" "[I"]
def wsX4_run_r6 : List Cond := [Cond.fieldLink RX3 18 "GranaryLadder$Wall" "ages" "[I", Cond.fieldLink RX3 21 "GranaryLadder$Wall" "sums" "[I", Cond.fieldLink RX3 24 "GranaryLadder$Wall" "cracks" "[I", Cond.fieldLink RX3 27 "GranaryLadder$Wall" "counters" "[I", Cond.static yX4_copyRow, Cond.code yX4_copyRow cX4_copyRow 3 none, Cond.methodLink RX4 189 yX0_commandCount, Cond.instanceMethod yX0_commandCount, Cond.selects RX0 yX0_commandCount yX0_commandCount, Cond.code yX0_commandCount cX0_commandCount 1 (some .int), Cond.methodLink RX4 192 yX4_carryOut, Cond.instanceMethod yX4_carryOut, Cond.selects RX4 yX4_carryOut yX4_carryOut, Cond.code yX4_carryOut cX4_carryOut 5 (some .int), Cond.methodLink RX4 279 yX0_argument, Cond.instanceMethod yX0_argument, Cond.selects RX0 yX0_argument yX0_argument, Cond.code yX0_argument cX0_argument 3 (some .int), Cond.methodLink RX4 282 yX0_verb, Cond.instanceMethod yX0_verb, Cond.selects RX0 yX0_verb yX0_verb, Cond.code yX0_verb cX0_verb 2 (some .int), Cond.methodLink RX4 62 yX4_storeSacks, Cond.instanceMethod yX4_storeSacks]
def wsX4_run_r7 : List Cond := [Cond.selects RX4 yX4_storeSacks yX4_storeSacks, Cond.code yX4_storeSacks cX4_storeSacks 4 (some .int), Cond.methodLink RX4 86 yX4_isBay, Cond.static yX4_isBay, Cond.code yX4_isBay cX4_isBay 1 (some .boolean), Cond.methodLink RX4 138 yX4_isWithin, Cond.methodLink RX4 162 yX4_isKind, Cond.static yX4_isKind, Cond.code yX4_isKind cX4_isKind 1 (some .boolean), Cond.methodLink RX4 165 yX4_hasRoom, Cond.instanceMethod yX4_hasRoom, Cond.selects RX4 yX4_hasRoom yX4_hasRoom, Cond.code yX4_hasRoom cX4_hasRoom 4 (some .boolean), Cond.methodLink RX4 90 yX3_isEmpty, Cond.instanceMethod yX3_isEmpty, Cond.selects RX3 yX3_isEmpty yX3_isEmpty, Cond.code yX3_isEmpty cX3_isEmpty 2 (some .boolean), Cond.methodLink RX4 93 yX3_kindIn, Cond.instanceMethod yX3_kindIn, Cond.selects RX3 yX3_kindIn yX3_kindIn, Cond.code yX3_kindIn cX3_kindIn 2 (some .int), Cond.methodLink RX4 96 yX3_sacksIn, Cond.instanceMethod yX3_sacksIn, Cond.selects RX3 yX3_sacksIn yX3_sacksIn]
def wsX4_run_r8 : List Cond := [Cond.code yX3_sacksIn cX3_sacksIn 2 (some .int), Cond.methodLink RX4 242 yX4_refuseRoom, Cond.instanceMethod yX4_refuseRoom, Cond.selects RX4 yX4_refuseRoom yX4_refuseRoom, Cond.code yX4_refuseRoom cX4_refuseRoom 4 (some .int), Cond.methodLink RX4 195 yX4_refuse, Cond.instanceMethod yX4_refuse, Cond.selects RX4 yX4_refuse yX4_refuse, Cond.code yX4_refuse cX4_refuse 3 (some .int), Cond.fieldLink RX4 47 "GranaryLadder" "latestReason" "I", Cond.fieldLink RX4 51 "GranaryLadder" "latestDetail" "I", Cond.methodLink RX4 245 yX3_count, Cond.instanceMethod yX3_count, Cond.selects RX3 yX3_count yX3_count, Cond.code yX3_count cX3_count 3 none, Cond.methodLink RX4 99 yX3_ageIn, Cond.instanceMethod yX3_ageIn, Cond.selects RX3 yX3_ageIn yX3_ageIn, Cond.code yX3_ageIn cX3_ageIn 2 (some .int), Cond.methodLink RX4 249 yX3_bring, Cond.instanceMethod yX3_bring, Cond.selects RX3 yX3_bring yX3_bring, Cond.code yX3_bring cX3_bring 5 (some .int), Cond.methodLink RX3 42 yX3_changeSacks]
def wsX4_run_r9 : List Cond := [Cond.instanceMethod yX3_changeSacks, Cond.selects RX3 yX3_changeSacks yX3_changeSacks, Cond.code yX3_changeSacks cX3_changeSacks 5 none, Cond.static yX4_sizeOf, Cond.code yX4_sizeOf cX4_sizeOf 1 (some .int), Cond.methodLink RX3 46 yX3_crackOver, Cond.instanceMethod yX3_crackOver, Cond.selects RX3 yX3_crackOver yX3_crackOver, Cond.code yX3_crackOver cX3_crackOver 5 (some .int), Cond.methodLink RX3 57 yX3_isCracked, Cond.instanceMethod yX3_isCracked, Cond.selects RX3 yX3_isCracked yX3_isCracked, Cond.code yX3_isCracked cX3_isCracked 2 (some .boolean), Cond.methodLink RX3 60 yX3_sumOf, Cond.instanceMethod yX3_sumOf, Cond.selects RX3 yX3_sumOf yX3_sumOf, Cond.code yX3_sumOf cX3_sumOf 2 (some .int), Cond.static yX4_loadOf, Cond.code yX4_loadOf cX4_loadOf 1 (some .int), Cond.methodLink RX4 114 yX4_sizeOf, Cond.methodLink RX3 66 yX3_count, Cond.methodLink RX4 70 yX4_takeSacks, Cond.instanceMethod yX4_takeSacks, Cond.selects RX4 yX4_takeSacks yX4_takeSacks]
def wsX4_run_r10 : List Cond := [Cond.code yX4_takeSacks cX4_takeSacks 3 (some .int), Cond.methodLink RX4 253 yX4_hasSacks, Cond.instanceMethod yX4_hasSacks, Cond.selects RX4 yX4_hasSacks yX4_hasSacks, Cond.code yX4_hasSacks cX4_hasSacks 3 (some .boolean), Cond.methodLink RX4 256 yX4_refuseSacks, Cond.instanceMethod yX4_refuseSacks, Cond.selects RX4 yX4_refuseSacks yX4_refuseSacks, Cond.code yX4_refuseSacks cX4_refuseSacks 2 (some .int), Cond.methodLink RX4 259 yX3_remove, Cond.instanceMethod yX3_remove, Cond.selects RX3 yX3_remove yX3_remove, Cond.code yX3_remove cX3_remove 3 none, Cond.methodLink RX3 50 yX3_isEmpty, Cond.methodLink RX4 74 yX4_moveSacks, Cond.instanceMethod yX4_moveSacks, Cond.selects RX4 yX4_moveSacks yX4_moveSacks, Cond.code yX4_moveSacks cX4_moveSacks 6 (some .int), Cond.methodLink RX4 262 Lib.Math.max.name, Cond.static Lib.Math.max.name, Cond.initialized "java/lang/Math", Cond.code Lib.Math.max.name Lib.Math.max.code 2 (some .int), Cond.methodLink RX4 77 yX4_fillOrder, Cond.instanceMethod yX4_fillOrder]
def wsX4_run_r11 : List Cond := [Cond.selects RX4 yX4_fillOrder yX4_fillOrder, Cond.code yX4_fillOrder cX4_fillOrder 8 (some .int), Cond.methodLink RX4 270 Lib.Math.min.name, Cond.static Lib.Math.min.name, Cond.code Lib.Math.min.name Lib.Math.min.code 2 (some .int), Cond.methodLink RX4 224 yX3_sacksOfKind, Cond.instanceMethod yX3_sacksOfKind, Cond.selects RX3 yX3_sacksOfKind yX3_sacksOfKind, Cond.code yX3_sacksOfKind cX3_sacksOfKind 4 (some .int), Cond.methodLink RX3 76 yX3_kindIn, Cond.methodLink RX3 69 yX3_sacksIn, Cond.methodLink RX4 267 yX3_oldestOfKind, Cond.instanceMethod yX3_oldestOfKind, Cond.selects RX3 yX3_oldestOfKind yX3_oldestOfKind, Cond.code yX3_oldestOfKind cX3_oldestOfKind 4 (some .int), Cond.methodLink RX3 79 yX3_ageIn, Cond.methodLink RX4 172 yX4_coinsFor, Cond.static yX4_coinsFor, Cond.code yX4_coinsFor cX4_coinsFor 2 (some .int), Cond.methodLink RX4 80 yX4_mend, Cond.instanceMethod yX4_mend, Cond.selects RX4 yX4_mend yX4_mend, Cond.code yX4_mend cX4_mend 3 (some .int), Cond.methodLink RX4 111 yX4_isRung]
def wsX4_run_r12 : List Cond := [Cond.static yX4_isRung, Cond.code yX4_isRung cX4_isRung 1 (some .boolean), Cond.methodLink RX4 123 yX3_isCracked, Cond.methodLink RX4 117 yX3_sumOf, Cond.methodLink RX4 120 yX4_loadOf, Cond.methodLink RX4 232 yX3_counted, Cond.instanceMethod yX3_counted, Cond.selects RX3 yX3_counted yX3_counted, Cond.code yX3_counted cX3_counted 2 (some .int), Cond.methodLink RX4 273 yX3_makeSound, Cond.instanceMethod yX3_makeSound, Cond.selects RX3 yX3_makeSound yX3_makeSound, Cond.code yX3_makeSound cX3_makeSound 2 none, Cond.methodLink RX4 83 yX4_letWeeksPass, Cond.instanceMethod yX4_letWeeksPass, Cond.selects RX4 yX4_letWeeksPass yX4_letWeeksPass, Cond.code yX4_letWeeksPass cX4_letWeeksPass 4 (some .int), Cond.methodLink RX4 276 yX3_growOlder, Cond.instanceMethod yX3_growOlder, Cond.selects RX3 yX3_growOlder yX3_growOlder, Cond.code yX3_growOlder cX3_growOlder 4 (some .int), Cond.methodLink RX3 89 yX3_spoilingAt, Cond.instanceMethod yX3_spoilingAt, Cond.selects RX3 yX3_spoilingAt yX3_spoilingAt]
def wsX4_run_r13 : List Cond := [Cond.code yX3_spoilingAt cX3_spoilingAt 3 (some .int), Cond.methodLink RX3 92 yX3_remove, Cond.methodLink RX4 66 yX4_remember, Cond.instanceMethod yX4_remember, Cond.selects RX4 yX4_remember yX4_remember, Cond.code yX4_remember cX4_remember 2 (some .int), Cond.fieldLink RX4 29 "GranaryLadder" "past" "LGranaryLadder$Past;", Cond.methodLink RX4 285 yX2_keep, Cond.instanceMethod yX2_keep, Cond.selects RX2 yX2_keep yX2_keep, Cond.initialized RX2, Cond.code yX2_keep cX2_keep 2 none, Cond.fieldLink RX2 17 "GranaryLadder$Past" "next" "I", Cond.fieldLink RX2 11 "GranaryLadder$Past" "walls" "[LGranaryLadder$Wall;", Cond.fieldLink RX2 21 "GranaryLadder$Past" "kept" "I", Cond.methodLink RX2 29 Lib.Math.min.name, Cond.methodLink RX2 25 yX3_copyFrom]
def wsX4_run : List Cond := .code yX4_run cX4_run 4 (some .int) :: ((wsX4_run_r1 ++ (wsX4_run_r2 ++ (wsX4_run_r3 ++ (wsX4_run_r4 ++ (wsX4_run_r5 ++ (wsX4_run_r6 ++ (wsX4_run_r7 ++ (wsX4_run_r8 ++ (wsX4_run_r9 ++ (wsX4_run_r10 ++ (wsX4_run_r11 ++ (wsX4_run_r12 ++ wsX4_run_r13)))))))))))) ++ wsX40 ++ wsX00 ++ wsX30 ++ wsX20)
def wsX4_tellRung_r1 : List Cond := [Cond.fieldLink RX4 43 "GranaryLadder" "line" "LGranaryLadder$Line;", Cond.fieldLink RX4 10 "GranaryLadder" "now" "LGranaryLadder$Wall;", Cond.methodLink RX4 111 yX4_isRung, Cond.static yX4_isRung, Cond.initialized RX4, Cond.code yX4_isRung cX4_isRung 1 (some .boolean), Cond.methodLink RX4 138 yX4_isWithin, Cond.static yX4_isWithin, Cond.code yX4_isWithin cX4_isWithin 3 (some .boolean), Cond.methodLink RX4 198 yX1_becomeEmpty, Cond.instanceMethod yX1_becomeEmpty, Cond.selects RX1 yX1_becomeEmpty yX1_becomeEmpty, Cond.initialized RX1, Cond.code yX1_becomeEmpty cX1_becomeEmpty 1 none, Cond.fieldLink RX1 15 "GranaryLadder$Line" "length" "I", Cond.methodLink RX4 209 yX1_addNumber, Cond.instanceMethod yX1_addNumber, Cond.selects RX1 yX1_addNumber yX1_addNumber, Cond.code yX1_addNumber cX1_addNumber 3 none, Cond.methodLink RX1 23 yX1_addCode, Cond.instanceMethod yX1_addCode, Cond.selects RX1 yX1_addCode yX1_addCode, Cond.code yX1_addCode cX1_addCode 2 none, Cond.fieldLink RX1 9 "GranaryLadder$Line" "codes" "[I"]
def wsX4_tellRung_r2 : List Cond := [Cond.static yX4_put, Cond.code yX4_put cX4_put 3 none, Cond.methodLink RX4 199 yX1_addCode, Cond.methodLink RX4 126 yX4_firstBayOf, Cond.static yX4_firstBayOf, Cond.code yX4_firstBayOf cX4_firstBayOf 1 (some .int), Cond.methodLink RX4 114 yX4_sizeOf, Cond.static yX4_sizeOf, Cond.code yX4_sizeOf cX4_sizeOf 1 (some .int), Cond.methodLink RX4 117 yX3_sumOf, Cond.instanceMethod yX3_sumOf, Cond.selects RX3 yX3_sumOf yX3_sumOf, Cond.initialized RX3, Cond.code yX3_sumOf cX3_sumOf 2 (some .int), Cond.fieldLink RX3 21 "GranaryLadder$Wall" "sums" "[I", Cond.static yX4_at, Cond.code yX4_at cX4_at 2 (some .int), Cond.methodLink RX4 123 yX3_isCracked, Cond.instanceMethod yX3_isCracked, Cond.selects RX3 yX3_isCracked yX3_isCracked, Cond.code yX3_isCracked cX3_isCracked 2 (some .boolean), Cond.fieldLink RX3 24 "GranaryLadder$Wall" "cracks" "[I", Cond.methodLink RX4 212 yX1_size, Cond.instanceMethod yX1_size]
def wsX4_tellRung_r3 : List Cond := [Cond.selects RX1 yX1_size yX1_size, Cond.code yX1_size cX1_size 1 (some .int)]
def wsX4_tellRung : List Cond := .code yX4_tellRung cX4_tellRung 2 (some .int) :: ((wsX4_tellRung_r1 ++ (wsX4_tellRung_r2 ++ wsX4_tellRung_r3)) ++ wsX40 ++ wsX10 ++ wsX30)
def wsX4_character : List Cond := .code yX4_character cX4_character 2 (some .int) :: ([.fieldLink RX4 43 "GranaryLadder" "line" "LGranaryLadder$Line;", .methodLink RX4 215 yX1_codeAt, .instanceMethod yX1_codeAt, .selects RX1 yX1_codeAt yX1_codeAt, .initialized RX1, .code yX1_codeAt cX1_codeAt 2 (some .int), .fieldLink RX1 15 "GranaryLadder$Line" "length" "I", .fieldLink RX1 9 "GranaryLadder$Line" "codes" "[I", .static yX4_isWithin, .initialized RX4, .code yX4_isWithin cX4_isWithin 3 (some .boolean), .static yX4_at, .code yX4_at cX4_at 2 (some .int)] ++ wsX40 ++ wsX10)
def wsX4_reason : List Cond := .code yX4_reason cX4_reason 2 (some .int) :: ([.fieldLink RX4 47 "GranaryLadder" "latestReason" "I", .fieldLink RX4 51 "GranaryLadder" "latestDetail" "I"] ++ wsX40)
def wsX4_account_r1 : List Cond := [Cond.fieldLink RX4 10 "GranaryLadder" "now" "LGranaryLadder$Wall;", Cond.fieldLink RX4 36 "GranaryLadder" "text" "LGranaryLadder$CommandText;", Cond.fieldLink RX4 29 "GranaryLadder" "past" "LGranaryLadder$Past;", Cond.methodLink RX4 218 yX3_filledBays, Cond.instanceMethod yX3_filledBays, Cond.selects RX3 yX3_filledBays yX3_filledBays, Cond.initialized RX3, Cond.code yX3_filledBays cX3_filledBays 3 (some .int), Cond.methodLink RX3 50 yX3_isEmpty, Cond.instanceMethod yX3_isEmpty, Cond.selects RX3 yX3_isEmpty yX3_isEmpty, Cond.code yX3_isEmpty cX3_isEmpty 2 (some .boolean), Cond.fieldLink RX3 15 "GranaryLadder$Wall" "sacks" "[I", Cond.static yX4_at, Cond.initialized RX4, Cond.code yX4_at cX4_at 2 (some .int), Cond.methodLink RX4 221 yX3_allSacks, Cond.instanceMethod yX3_allSacks, Cond.selects RX3 yX3_allSacks yX3_allSacks, Cond.code yX3_allSacks cX3_allSacks 1 (some .int), Cond.methodLink RX3 72 yX3_sumByBays, Cond.instanceMethod yX3_sumByBays, Cond.selects RX3 yX3_sumByBays yX3_sumByBays, Cond.code yX3_sumByBays cX3_sumByBays 5 (some .int)]
def wsX4_account_r2 : List Cond := [Cond.methodLink RX3 69 yX3_sacksIn, Cond.instanceMethod yX3_sacksIn, Cond.selects RX3 yX3_sacksIn yX3_sacksIn, Cond.code yX3_sacksIn cX3_sacksIn 2 (some .int), Cond.methodLink RX4 224 yX3_sacksOfKind, Cond.instanceMethod yX3_sacksOfKind, Cond.selects RX3 yX3_sacksOfKind yX3_sacksOfKind, Cond.code yX3_sacksOfKind cX3_sacksOfKind 4 (some .int), Cond.methodLink RX3 76 yX3_kindIn, Cond.instanceMethod yX3_kindIn, Cond.selects RX3 yX3_kindIn yX3_kindIn, Cond.code yX3_kindIn cX3_kindIn 2 (some .int), Cond.fieldLink RX3 9 "GranaryLadder$Wall" "kinds" "[I", Cond.methodLink RX4 227 yX3_crackedRungs, Cond.instanceMethod yX3_crackedRungs, Cond.selects RX3 yX3_crackedRungs yX3_crackedRungs, Cond.code yX3_crackedRungs cX3_crackedRungs 3 (some .int), Cond.methodLink RX3 57 yX3_isCracked, Cond.instanceMethod yX3_isCracked, Cond.selects RX3 yX3_isCracked yX3_isCracked, Cond.code yX3_isCracked cX3_isCracked 2 (some .boolean), Cond.fieldLink RX3 24 "GranaryLadder$Wall" "cracks" "[I", Cond.methodLink RX4 230 yX0_size, Cond.instanceMethod yX0_size]
def wsX4_account_r3 : List Cond := [Cond.selects RX0 yX0_size yX0_size, Cond.initialized RX0, Cond.code yX0_size cX0_size 1 (some .int), Cond.fieldLink RX0 15 "GranaryLadder$CommandText" "length" "I", Cond.methodLink RX4 231 yX2_size, Cond.instanceMethod yX2_size, Cond.selects RX2 yX2_size yX2_size, Cond.initialized RX2, Cond.code yX2_size cX2_size 1 (some .int), Cond.fieldLink RX2 21 "GranaryLadder$Past" "kept" "I", Cond.methodLink RX4 138 yX4_isWithin, Cond.static yX4_isWithin, Cond.code yX4_isWithin cX4_isWithin 3 (some .boolean), Cond.methodLink RX4 232 yX3_counted, Cond.instanceMethod yX3_counted, Cond.selects RX3 yX3_counted yX3_counted, Cond.code yX3_counted cX3_counted 2 (some .int), Cond.fieldLink RX3 27 "GranaryLadder$Wall" "counters" "[I"]
def wsX4_account : List Cond := .code yX4_account cX4_account 2 (some .int) :: ((wsX4_account_r1 ++ (wsX4_account_r2 ++ wsX4_account_r3)) ++ wsX40 ++ wsX30 ++ wsX00 ++ wsX20)
def wsX4_isBalanced_r1 : List Cond := [Cond.fieldLink RX4 10 "GranaryLadder" "now" "LGranaryLadder$Wall;", Cond.methodLink RX4 117 yX3_sumOf, Cond.instanceMethod yX3_sumOf, Cond.selects RX3 yX3_sumOf yX3_sumOf, Cond.initialized RX3, Cond.code yX3_sumOf cX3_sumOf 2 (some .int), Cond.fieldLink RX3 21 "GranaryLadder$Wall" "sums" "[I", Cond.static yX4_at, Cond.initialized RX4, Cond.code yX4_at cX4_at 2 (some .int), Cond.methodLink RX4 126 yX4_firstBayOf, Cond.static yX4_firstBayOf, Cond.code yX4_firstBayOf cX4_firstBayOf 1 (some .int), Cond.methodLink RX4 114 yX4_sizeOf, Cond.static yX4_sizeOf, Cond.code yX4_sizeOf cX4_sizeOf 1 (some .int), Cond.methodLink RX4 135 yX3_sumByBays, Cond.instanceMethod yX3_sumByBays, Cond.selects RX3 yX3_sumByBays yX3_sumByBays, Cond.code yX3_sumByBays cX3_sumByBays 5 (some .int), Cond.methodLink RX3 69 yX3_sacksIn, Cond.instanceMethod yX3_sacksIn, Cond.selects RX3 yX3_sacksIn yX3_sacksIn, Cond.code yX3_sacksIn cX3_sacksIn 2 (some .int)]
def wsX4_isBalanced_r2 : List Cond := [Cond.fieldLink RX3 15 "GranaryLadder$Wall" "sacks" "[I", Cond.methodLink RX4 232 yX3_counted, Cond.instanceMethod yX3_counted, Cond.selects RX3 yX3_counted yX3_counted, Cond.code yX3_counted cX3_counted 2 (some .int), Cond.fieldLink RX3 27 "GranaryLadder$Wall" "counters" "[I", Cond.methodLink RX4 221 yX3_allSacks, Cond.instanceMethod yX3_allSacks, Cond.selects RX3 yX3_allSacks yX3_allSacks, Cond.code yX3_allSacks cX3_allSacks 1 (some .int), Cond.methodLink RX3 72 yX3_sumByBays]
def wsX4_isBalanced : List Cond := .code yX4_isBalanced cX4_isBalanced 2 (some .int) :: ((wsX4_isBalanced_r1 ++ wsX4_isBalanced_r2) ++ wsX40 ++ wsX30)
def wsX4_meanSacks_r1 : List Cond := [Cond.fieldLink RX4 10 "GranaryLadder" "now" "LGranaryLadder$Wall;", Cond.methodLink RX4 218 yX3_filledBays, Cond.instanceMethod yX3_filledBays, Cond.selects RX3 yX3_filledBays yX3_filledBays, Cond.initialized RX3, Cond.code yX3_filledBays cX3_filledBays 3 (some .int), Cond.methodLink RX3 50 yX3_isEmpty, Cond.instanceMethod yX3_isEmpty, Cond.selects RX3 yX3_isEmpty yX3_isEmpty, Cond.code yX3_isEmpty cX3_isEmpty 2 (some .boolean), Cond.fieldLink RX3 15 "GranaryLadder$Wall" "sacks" "[I", Cond.static yX4_at, Cond.initialized RX4, Cond.code yX4_at cX4_at 2 (some .int), Cond.methodLink RX4 221 yX3_allSacks, Cond.instanceMethod yX3_allSacks, Cond.selects RX3 yX3_allSacks yX3_allSacks, Cond.code yX3_allSacks cX3_allSacks 1 (some .int), Cond.methodLink RX3 72 yX3_sumByBays, Cond.instanceMethod yX3_sumByBays, Cond.selects RX3 yX3_sumByBays yX3_sumByBays, Cond.code yX3_sumByBays cX3_sumByBays 5 (some .int), Cond.methodLink RX3 69 yX3_sacksIn, Cond.instanceMethod yX3_sacksIn]
def wsX4_meanSacks_r2 : List Cond := [Cond.selects RX3 yX3_sacksIn yX3_sacksIn, Cond.code yX3_sacksIn cX3_sacksIn 2 (some .int)]
def wsX4_meanSacks : List Cond := .code yX4_meanSacks cX4_meanSacks 2 (some .double) :: ((wsX4_meanSacks_r1 ++ wsX4_meanSacks_r2) ++ wsX40 ++ wsX30)
def wsX4_soundShare : List Cond := .code yX4_soundShare cX4_soundShare 1 (some .float) :: ([.fieldLink RX4 10 "GranaryLadder" "now" "LGranaryLadder$Wall;", .constantFloat RX4 235 (1107296256), .methodLink RX4 227 yX3_crackedRungs, .instanceMethod yX3_crackedRungs, .selects RX3 yX3_crackedRungs yX3_crackedRungs, .initialized RX3, .code yX3_crackedRungs cX3_crackedRungs 3 (some .int), .methodLink RX3 57 yX3_isCracked, .instanceMethod yX3_isCracked, .selects RX3 yX3_isCracked yX3_isCracked, .code yX3_isCracked cX3_isCracked 2 (some .boolean), .fieldLink RX3 24 "GranaryLadder$Wall" "cracks" "[I", .static yX4_at, .initialized RX4, .code yX4_at cX4_at 2 (some .int)] ++ wsX40 ++ wsX30)
def wsX4_undo_r1 : List Cond := [Cond.fieldLink RX4 29 "GranaryLadder" "past" "LGranaryLadder$Past;", Cond.fieldLink RX4 10 "GranaryLadder" "now" "LGranaryLadder$Wall;", Cond.methodLink RX4 231 yX2_size, Cond.instanceMethod yX2_size, Cond.selects RX2 yX2_size yX2_size, Cond.initialized RX2, Cond.code yX2_size cX2_size 1 (some .int), Cond.fieldLink RX2 21 "GranaryLadder$Past" "kept" "I", Cond.methodLink RX4 236 yX2_giveBack, Cond.instanceMethod yX2_giveBack, Cond.selects RX2 yX2_giveBack yX2_giveBack, Cond.code yX2_giveBack cX2_giveBack 2 none, Cond.fieldLink RX2 17 "GranaryLadder$Past" "next" "I", Cond.methodLink RX2 35 Lib.Math.max.name, Cond.static Lib.Math.max.name, Cond.initialized "java/lang/Math", Cond.code Lib.Math.max.name Lib.Math.max.code 2 (some .int), Cond.fieldLink RX2 11 "GranaryLadder$Past" "walls" "[LGranaryLadder$Wall;", Cond.methodLink RX2 25 yX3_copyFrom, Cond.instanceMethod yX3_copyFrom, Cond.selects RX3 yX3_copyFrom yX3_copyFrom, Cond.initialized RX3, Cond.code yX3_copyFrom cX3_copyFrom 2 none, Cond.fieldLink RX3 9 "GranaryLadder$Wall" "kinds" "[I"]
def wsX4_undo_r2 : List Cond := [Cond.fieldLink RX3 15 "GranaryLadder$Wall" "sacks" "[I", Cond.fieldLink RX3 18 "GranaryLadder$Wall" "ages" "[I", Cond.fieldLink RX3 21 "GranaryLadder$Wall" "sums" "[I", Cond.fieldLink RX3 24 "GranaryLadder$Wall" "cracks" "[I", Cond.fieldLink RX3 27 "GranaryLadder$Wall" "counters" "[I", Cond.static yX4_copyRow, Cond.initialized RX4, Cond.code yX4_copyRow cX4_copyRow 3 none]
def wsX4_undo : List Cond := .code yX4_undo cX4_undo 1 (some .int) :: ((wsX4_undo_r1 ++ wsX4_undo_r2) ++ wsX40 ++ wsX20 ++ wsX30)
def wsX4_save_r1 : List Cond := [Cond.fieldLink RX4 19 "GranaryLadder" "snapshot" "LGranaryLadder$Wall;", Cond.fieldLink RX4 10 "GranaryLadder" "now" "LGranaryLadder$Wall;", Cond.fieldLink RX4 22 "GranaryLadder" "hasSnapshot" "Z", Cond.methodLink RX4 58 yX3_copyFrom, Cond.instanceMethod yX3_copyFrom, Cond.selects RX3 yX3_copyFrom yX3_copyFrom, Cond.initialized RX3, Cond.code yX3_copyFrom cX3_copyFrom 2 none, Cond.fieldLink RX3 9 "GranaryLadder$Wall" "kinds" "[I", Cond.fieldLink RX3 15 "GranaryLadder$Wall" "sacks" "[I", Cond.fieldLink RX3 18 "GranaryLadder$Wall" "ages" "[I", Cond.fieldLink RX3 21 "GranaryLadder$Wall" "sums" "[I", Cond.fieldLink RX3 24 "GranaryLadder$Wall" "cracks" "[I", Cond.fieldLink RX3 27 "GranaryLadder$Wall" "counters" "[I", Cond.static yX4_copyRow, Cond.initialized RX4, Cond.code yX4_copyRow cX4_copyRow 3 none, Cond.methodLink RX4 221 yX3_allSacks, Cond.instanceMethod yX3_allSacks, Cond.selects RX3 yX3_allSacks yX3_allSacks, Cond.code yX3_allSacks cX3_allSacks 1 (some .int), Cond.methodLink RX3 72 yX3_sumByBays, Cond.instanceMethod yX3_sumByBays, Cond.selects RX3 yX3_sumByBays yX3_sumByBays]
def wsX4_save_r2 : List Cond := [Cond.code yX3_sumByBays cX3_sumByBays 5 (some .int), Cond.methodLink RX3 69 yX3_sacksIn, Cond.instanceMethod yX3_sacksIn, Cond.selects RX3 yX3_sacksIn yX3_sacksIn, Cond.code yX3_sacksIn cX3_sacksIn 2 (some .int), Cond.static yX4_at, Cond.code yX4_at cX4_at 2 (some .int)]
def wsX4_save : List Cond := .code yX4_save cX4_save 1 (some .int) :: ((wsX4_save_r1 ++ wsX4_save_r2) ++ wsX40 ++ wsX30)
def wsX4_restore_r1 : List Cond := [Cond.fieldLink RX4 22 "GranaryLadder" "hasSnapshot" "Z", Cond.fieldLink RX4 10 "GranaryLadder" "now" "LGranaryLadder$Wall;", Cond.fieldLink RX4 19 "GranaryLadder" "snapshot" "LGranaryLadder$Wall;", Cond.fieldLink RX4 29 "GranaryLadder" "past" "LGranaryLadder$Past;", Cond.methodLink RX4 58 yX3_copyFrom, Cond.instanceMethod yX3_copyFrom, Cond.selects RX3 yX3_copyFrom yX3_copyFrom, Cond.initialized RX3, Cond.code yX3_copyFrom cX3_copyFrom 2 none, Cond.fieldLink RX3 9 "GranaryLadder$Wall" "kinds" "[I", Cond.fieldLink RX3 15 "GranaryLadder$Wall" "sacks" "[I", Cond.fieldLink RX3 18 "GranaryLadder$Wall" "ages" "[I", Cond.fieldLink RX3 21 "GranaryLadder$Wall" "sums" "[I", Cond.fieldLink RX3 24 "GranaryLadder$Wall" "cracks" "[I", Cond.fieldLink RX3 27 "GranaryLadder$Wall" "counters" "[I", Cond.static yX4_copyRow, Cond.initialized RX4, Cond.code yX4_copyRow cX4_copyRow 3 none, Cond.methodLink RX4 239 yX2_forget, Cond.instanceMethod yX2_forget, Cond.selects RX2 yX2_forget yX2_forget, Cond.initialized RX2, Cond.code yX2_forget cX2_forget 1 none, Cond.fieldLink RX2 21 "GranaryLadder$Past" "kept" "I"]
def wsX4_restore_r2 : List Cond := [Cond.methodLink RX4 221 yX3_allSacks, Cond.instanceMethod yX3_allSacks, Cond.selects RX3 yX3_allSacks yX3_allSacks, Cond.code yX3_allSacks cX3_allSacks 1 (some .int), Cond.methodLink RX3 72 yX3_sumByBays, Cond.instanceMethod yX3_sumByBays, Cond.selects RX3 yX3_sumByBays yX3_sumByBays, Cond.code yX3_sumByBays cX3_sumByBays 5 (some .int), Cond.methodLink RX3 69 yX3_sacksIn, Cond.instanceMethod yX3_sacksIn, Cond.selects RX3 yX3_sacksIn yX3_sacksIn, Cond.code yX3_sacksIn cX3_sacksIn 2 (some .int), Cond.static yX4_at, Cond.code yX4_at cX4_at 2 (some .int)]
def wsX4_restore : List Cond := .code yX4_restore cX4_restore 1 (some .int) :: ((wsX4_restore_r1 ++ wsX4_restore_r2) ++ wsX40 ++ wsX30 ++ wsX20)
def wsJ6_bitCount_0f7a4 : List Cond := .code yJ6_bitCount_0f7a4 cJ6_bitCount_0f7a4 1 (some .int) :: ([.constant RJ6 265 (1431655765), .constant RJ6 266 (858993459), .constant RJ6 267 (252645135)])
def wsJ9_max_7cf53 : List Cond := .code yJ9_max_7cf53 cJ9_max_7cf53 2 (some .int) :: ([])
def wsJ9_min_7cf53 : List Cond := .code yJ9_min_7cf53 cJ9_min_7cf53 2 (some .int) :: ([])
def wsL_cell : List Cond := .code yL_cell cL_cell 2 (some .int) :: ([.constant RL 7 (65535)])
def wsL_write_r1 : List Cond := [Cond.methodLink RL 8 yJ0_length_8abf5, Cond.instanceMethod yJ0_length_8abf5, Cond.selects RJ0 yJ0_length_8abf5 yJ0_length_8abf5, Cond.initialized RJ0, Cond.code yJ0_length_8abf5 cJ0_length_8abf5 1 (some .int), Cond.fieldLink RJ0 9 "java/lang/String" "value" "[B", Cond.methodLink RJ0 335 yJ0_coder_7d493, Cond.instanceMethod yJ0_coder_7d493, Cond.selects RJ0 yJ0_coder_7d493 yJ0_coder_7d493, Cond.code yJ0_coder_7d493 cJ0_coder_7d493 1 (some .byte), Cond.fieldLink RJ0 38 "java/lang/String" "COMPACT_STRINGS" "Z", Cond.fieldLink RJ0 15 "java/lang/String" "coder" "B", Cond.methodLink RL 14 yJ0_charAt_5068e, Cond.instanceMethod yJ0_charAt_5068e, Cond.selects RJ0 yJ0_charAt_5068e yJ0_charAt_5068e, Cond.code yJ0_charAt_5068e cJ0_charAt_5068e 2 (some .char), Cond.methodLink RJ0 492 yJ0_isLatin1_aae02, Cond.instanceMethod yJ0_isLatin1_aae02, Cond.selects RJ0 yJ0_isLatin1_aae02 yJ0_isLatin1_aae02, Cond.code yJ0_isLatin1_aae02 cJ0_isLatin1_aae02 1 (some .boolean), Cond.methodLink RJ0 495 yJ1_charAt_3b067, Cond.static yJ1_charAt_3b067, Cond.initialized RJ1, Cond.code yJ1_charAt_3b067 cJ1_charAt_3b067 2 (some .char)]
def wsL_write_r2 : List Cond := [Cond.methodLink RJ1 9 yJ0_checkIndex_df160, Cond.static yJ0_checkIndex_df160, Cond.code yJ0_checkIndex_df160 cJ0_checkIndex_df160 2 none, Cond.fieldLink RJ0 1053 "jdk/internal/util/Preconditions" "SIOOBE_FORMATTER" "Ljava/util/function/BiFunction;", Cond.methodLink RJ0 1059 yJ3_checkIndex_8e157, Cond.static yJ3_checkIndex_8e157, Cond.initialized RJ3, Cond.code yJ3_checkIndex_8e157 cJ3_checkIndex_8e157 3 (some .int), Cond.methodLink RJ0 498 yJ2_charAt_3b067, Cond.static yJ2_charAt_3b067, Cond.initialized RJ2, Cond.code yJ2_charAt_3b067 cJ2_charAt_3b067 2 (some .char), Cond.methodLink RJ2 67 yJ2_checkIndex_2214a, Cond.static yJ2_checkIndex_2214a, Cond.code yJ2_checkIndex_2214a cJ2_checkIndex_2214a 2 none, Cond.methodLink RJ2 48 yJ2_length_9d52b, Cond.static yJ2_length_9d52b, Cond.code yJ2_length_9d52b cJ2_length_9d52b 1 (some .int), Cond.methodLink RJ2 414 yJ0_checkIndex_df160, Cond.methodLink RJ2 71 yJ2_getChar_3b067, Cond.static yJ2_getChar_3b067, Cond.code yJ2_getChar_3b067 cJ2_getChar_3b067 2 (some .char), Cond.fieldLink RJ2 44 "java/lang/StringUTF16" "$assertionsDisabled" "Z", Cond.fieldLink RJ2 59 "java/lang/StringUTF16" "HI_BYTE_SHIFT" "I"]
def wsL_write_r3 : List Cond := [Cond.fieldLink RJ2 63 "java/lang/StringUTF16" "LO_BYTE_SHIFT" "I", Cond.methodLink RL 18 yX4_append, Cond.instanceMethod yX4_append, Cond.selects RX4 yX4_append yX4_append, Cond.initialized RX4, Cond.code yX4_append cX4_append 2 (some .int), Cond.fieldLink RX4 36 "GranaryLadder" "text" "LGranaryLadder$CommandText;", Cond.methodLink RX4 138 yX4_isWithin, Cond.static yX4_isWithin, Cond.code yX4_isWithin cX4_isWithin 3 (some .boolean), Cond.methodLink RX4 175 yX0_addCode, Cond.instanceMethod yX0_addCode, Cond.selects RX0 yX0_addCode yX0_addCode, Cond.initialized RX0, Cond.code yX0_addCode cX0_addCode 2 (some .int), Cond.fieldLink RX0 15 "GranaryLadder$CommandText" "length" "I", Cond.fieldLink RX0 9 "GranaryLadder$CommandText" "codes" "[I", Cond.static yX4_put, Cond.code yX4_put cX4_put 3 none]
def wsL_write : List Cond := .code yL_write cL_write 3 (some (.object "GranaryLadder")) :: ((wsL_write_r1 ++ (wsL_write_r2 ++ wsL_write_r3)) ++ wsX40 ++ wsX00)
def wsL_act_r1 : List Cond := [Cond.constant RL 7 (65535), Cond.fieldLink RL 44 "GranaryLadderLaw" "TEXTS" "[Ljava/lang/String;", Cond.methodLink RL 57 Lib.Math.max.name, Cond.static Lib.Math.max.name, Cond.initialized "java/lang/Math", Cond.code Lib.Math.max.name Lib.Math.max.code 2 (some .int), Cond.methodLink RL 24 yX4_store, Cond.instanceMethod yX4_store, Cond.selects RX4 yX4_store yX4_store, Cond.initialized RX4, Cond.code yX4_store cX4_store 4 (some .int), Cond.fieldLink RX4 16 "GranaryLadder" "before" "LGranaryLadder$Wall;", Cond.fieldLink RX4 10 "GranaryLadder" "now" "LGranaryLadder$Wall;", Cond.methodLink RX4 58 yX3_copyFrom, Cond.instanceMethod yX3_copyFrom, Cond.selects RX3 yX3_copyFrom yX3_copyFrom, Cond.initialized RX3, Cond.code yX3_copyFrom cX3_copyFrom 2 none, Cond.fieldLink RX3 9 "GranaryLadder$Wall" "kinds" "[I", Cond.fieldLink RX3 15 "GranaryLadder$Wall" "sacks" "[I", Cond.fieldLink RX3 18 "GranaryLadder$Wall" "ages" "[I", Cond.fieldLink RX3 21 "GranaryLadder$Wall" "sums" "[I", Cond.fieldLink RX3 24 "GranaryLadder$Wall" "cracks" "[I", Cond.fieldLink RX3 27 "GranaryLadder$Wall" "counters" "[I"]
def wsL_act_r2 : List Cond := [Cond.static yX4_copyRow, Cond.code yX4_copyRow cX4_copyRow 3 none, Cond.methodLink RX4 62 yX4_storeSacks, Cond.instanceMethod yX4_storeSacks, Cond.selects RX4 yX4_storeSacks yX4_storeSacks, Cond.code yX4_storeSacks cX4_storeSacks 4 (some .int), Cond.methodLink RX4 86 yX4_isBay, Cond.static yX4_isBay, Cond.code yX4_isBay cX4_isBay 1 (some .boolean), Cond.methodLink RX4 138 yX4_isWithin, Cond.static yX4_isWithin, Cond.code yX4_isWithin cX4_isWithin 3 (some .boolean), Cond.methodLink RX4 162 yX4_isKind, Cond.static yX4_isKind, Cond.code yX4_isKind cX4_isKind 1 (some .boolean), Cond.methodLink RX4 165 yX4_hasRoom, Cond.instanceMethod yX4_hasRoom, Cond.selects RX4 yX4_hasRoom yX4_hasRoom, Cond.code yX4_hasRoom cX4_hasRoom 4 (some .boolean), Cond.methodLink RX4 90 yX3_isEmpty, Cond.instanceMethod yX3_isEmpty, Cond.selects RX3 yX3_isEmpty yX3_isEmpty, Cond.code yX3_isEmpty cX3_isEmpty 2 (some .boolean), Cond.static yX4_at]
def wsL_act_r3 : List Cond := [Cond.code yX4_at cX4_at 2 (some .int), Cond.methodLink RX4 93 yX3_kindIn, Cond.instanceMethod yX3_kindIn, Cond.selects RX3 yX3_kindIn yX3_kindIn, Cond.code yX3_kindIn cX3_kindIn 2 (some .int), Cond.methodLink RX4 96 yX3_sacksIn, Cond.instanceMethod yX3_sacksIn, Cond.selects RX3 yX3_sacksIn yX3_sacksIn, Cond.code yX3_sacksIn cX3_sacksIn 2 (some .int), Cond.methodLink RX4 242 yX4_refuseRoom, Cond.instanceMethod yX4_refuseRoom, Cond.selects RX4 yX4_refuseRoom yX4_refuseRoom, Cond.code yX4_refuseRoom cX4_refuseRoom 4 (some .int), Cond.methodLink RX4 195 yX4_refuse, Cond.instanceMethod yX4_refuse, Cond.selects RX4 yX4_refuse yX4_refuse, Cond.code yX4_refuse cX4_refuse 3 (some .int), Cond.fieldLink RX4 47 "GranaryLadder" "latestReason" "I", Cond.fieldLink RX4 51 "GranaryLadder" "latestDetail" "I", Cond.methodLink RX4 245 yX3_count, Cond.instanceMethod yX3_count, Cond.selects RX3 yX3_count yX3_count, Cond.code yX3_count cX3_count 3 none, Cond.static yX4_put]
def wsL_act_r4 : List Cond := [Cond.code yX4_put cX4_put 3 none, Cond.methodLink RX4 99 yX3_ageIn, Cond.instanceMethod yX3_ageIn, Cond.selects RX3 yX3_ageIn yX3_ageIn, Cond.code yX3_ageIn cX3_ageIn 2 (some .int), Cond.methodLink RX4 249 yX3_bring, Cond.instanceMethod yX3_bring, Cond.selects RX3 yX3_bring yX3_bring, Cond.code yX3_bring cX3_bring 5 (some .int), Cond.methodLink RX3 42 yX3_changeSacks, Cond.instanceMethod yX3_changeSacks, Cond.selects RX3 yX3_changeSacks yX3_changeSacks, Cond.code yX3_changeSacks cX3_changeSacks 5 none, Cond.static yX4_sizeOf, Cond.code yX4_sizeOf cX4_sizeOf 1 (some .int), Cond.methodLink RX3 46 yX3_crackOver, Cond.instanceMethod yX3_crackOver, Cond.selects RX3 yX3_crackOver yX3_crackOver, Cond.code yX3_crackOver cX3_crackOver 5 (some .int), Cond.methodLink RX3 57 yX3_isCracked, Cond.instanceMethod yX3_isCracked, Cond.selects RX3 yX3_isCracked yX3_isCracked, Cond.code yX3_isCracked cX3_isCracked 2 (some .boolean), Cond.methodLink RX3 60 yX3_sumOf]
def wsL_act_r5 : List Cond := [Cond.instanceMethod yX3_sumOf, Cond.selects RX3 yX3_sumOf yX3_sumOf, Cond.code yX3_sumOf cX3_sumOf 2 (some .int), Cond.static yX4_loadOf, Cond.code yX4_loadOf cX4_loadOf 1 (some .int), Cond.methodLink RX4 114 yX4_sizeOf, Cond.methodLink RX3 66 yX3_count, Cond.methodLink RX4 66 yX4_remember, Cond.instanceMethod yX4_remember, Cond.selects RX4 yX4_remember yX4_remember, Cond.code yX4_remember cX4_remember 2 (some .int), Cond.fieldLink RX4 29 "GranaryLadder" "past" "LGranaryLadder$Past;", Cond.methodLink RX4 285 yX2_keep, Cond.instanceMethod yX2_keep, Cond.selects RX2 yX2_keep yX2_keep, Cond.initialized RX2, Cond.code yX2_keep cX2_keep 2 none, Cond.fieldLink RX2 17 "GranaryLadder$Past" "next" "I", Cond.fieldLink RX2 11 "GranaryLadder$Past" "walls" "[LGranaryLadder$Wall;", Cond.fieldLink RX2 21 "GranaryLadder$Past" "kept" "I", Cond.methodLink RX2 29 Lib.Math.min.name, Cond.static Lib.Math.min.name, Cond.code Lib.Math.min.name Lib.Math.min.code 2 (some .int), Cond.methodLink RX2 25 yX3_copyFrom]
def wsL_act_r6 : List Cond := [Cond.methodLink RL 28 yX4_take, Cond.instanceMethod yX4_take, Cond.selects RX4 yX4_take yX4_take, Cond.code yX4_take cX4_take 3 (some .int), Cond.methodLink RX4 70 yX4_takeSacks, Cond.instanceMethod yX4_takeSacks, Cond.selects RX4 yX4_takeSacks yX4_takeSacks, Cond.code yX4_takeSacks cX4_takeSacks 3 (some .int), Cond.methodLink RX4 253 yX4_hasSacks, Cond.instanceMethod yX4_hasSacks, Cond.selects RX4 yX4_hasSacks yX4_hasSacks, Cond.code yX4_hasSacks cX4_hasSacks 3 (some .boolean), Cond.methodLink RX4 256 yX4_refuseSacks, Cond.instanceMethod yX4_refuseSacks, Cond.selects RX4 yX4_refuseSacks yX4_refuseSacks, Cond.code yX4_refuseSacks cX4_refuseSacks 2 (some .int), Cond.methodLink RX4 259 yX3_remove, Cond.instanceMethod yX3_remove, Cond.selects RX3 yX3_remove yX3_remove, Cond.code yX3_remove cX3_remove 3 none, Cond.methodLink RX3 50 yX3_isEmpty, Cond.methodLink RL 32 yX4_move, Cond.instanceMethod yX4_move, Cond.selects RX4 yX4_move yX4_move]
def wsL_act_r7 : List Cond := [Cond.code yX4_move cX4_move 4 (some .int), Cond.methodLink RX4 74 yX4_moveSacks, Cond.instanceMethod yX4_moveSacks, Cond.selects RX4 yX4_moveSacks yX4_moveSacks, Cond.code yX4_moveSacks cX4_moveSacks 6 (some .int), Cond.methodLink RX4 262 Lib.Math.max.name, Cond.methodLink RL 35 yX4_order, Cond.instanceMethod yX4_order, Cond.selects RX4 yX4_order yX4_order, Cond.code yX4_order cX4_order 3 (some .int), Cond.methodLink RX4 77 yX4_fillOrder, Cond.instanceMethod yX4_fillOrder, Cond.selects RX4 yX4_fillOrder yX4_fillOrder, Cond.code yX4_fillOrder cX4_fillOrder 8 (some .int), Cond.methodLink RX4 270 Lib.Math.min.name, Cond.methodLink RX4 224 yX3_sacksOfKind, Cond.instanceMethod yX3_sacksOfKind, Cond.selects RX3 yX3_sacksOfKind yX3_sacksOfKind, Cond.code yX3_sacksOfKind cX3_sacksOfKind 4 (some .int), Cond.methodLink RX3 76 yX3_kindIn, Cond.methodLink RX3 69 yX3_sacksIn, Cond.methodLink RX4 267 yX3_oldestOfKind, Cond.instanceMethod yX3_oldestOfKind, Cond.selects RX3 yX3_oldestOfKind yX3_oldestOfKind]
def wsL_act_r8 : List Cond := [Cond.code yX3_oldestOfKind cX3_oldestOfKind 4 (some .int), Cond.methodLink RX3 79 yX3_ageIn, Cond.methodLink RX4 172 yX4_coinsFor, Cond.static yX4_coinsFor, Cond.code yX4_coinsFor cX4_coinsFor 2 (some .int), Cond.methodLink RL 38 yX4_fix, Cond.instanceMethod yX4_fix, Cond.selects RX4 yX4_fix yX4_fix, Cond.code yX4_fix cX4_fix 2 (some .int), Cond.methodLink RX4 80 yX4_mend, Cond.instanceMethod yX4_mend, Cond.selects RX4 yX4_mend yX4_mend, Cond.code yX4_mend cX4_mend 3 (some .int), Cond.methodLink RX4 111 yX4_isRung, Cond.static yX4_isRung, Cond.code yX4_isRung cX4_isRung 1 (some .boolean), Cond.methodLink RX4 123 yX3_isCracked, Cond.methodLink RX4 117 yX3_sumOf, Cond.methodLink RX4 120 yX4_loadOf, Cond.methodLink RX4 232 yX3_counted, Cond.instanceMethod yX3_counted, Cond.selects RX3 yX3_counted yX3_counted, Cond.code yX3_counted cX3_counted 2 (some .int), Cond.methodLink RX4 273 yX3_makeSound]
def wsL_act_r9 : List Cond := [Cond.instanceMethod yX3_makeSound, Cond.selects RX3 yX3_makeSound yX3_makeSound, Cond.code yX3_makeSound cX3_makeSound 2 none, Cond.methodLink RL 41 yX4_pass, Cond.instanceMethod yX4_pass, Cond.selects RX4 yX4_pass yX4_pass, Cond.code yX4_pass cX4_pass 2 (some .int), Cond.methodLink RX4 83 yX4_letWeeksPass, Cond.instanceMethod yX4_letWeeksPass, Cond.selects RX4 yX4_letWeeksPass yX4_letWeeksPass, Cond.code yX4_letWeeksPass cX4_letWeeksPass 4 (some .int), Cond.methodLink RX4 276 yX3_growOlder, Cond.instanceMethod yX3_growOlder, Cond.selects RX3 yX3_growOlder yX3_growOlder, Cond.code yX3_growOlder cX3_growOlder 4 (some .int), Cond.methodLink RX3 89 yX3_spoilingAt, Cond.instanceMethod yX3_spoilingAt, Cond.selects RX3 yX3_spoilingAt yX3_spoilingAt, Cond.code yX3_spoilingAt cX3_spoilingAt 3 (some .int), Cond.methodLink RX3 92 yX3_remove, Cond.methodLink RL 50 yL_write, Cond.static yL_write, Cond.initialized RL, Cond.code yL_write cL_write 3 (some (.object "GranaryLadder"))]
def wsL_act_r10 : List Cond := [Cond.methodLink RL 8 yJ0_length_8abf5, Cond.instanceMethod yJ0_length_8abf5, Cond.selects RJ0 yJ0_length_8abf5 yJ0_length_8abf5, Cond.initialized RJ0, Cond.code yJ0_length_8abf5 cJ0_length_8abf5 1 (some .int), Cond.fieldLink RJ0 9 "java/lang/String" "value" "[B", Cond.methodLink RJ0 335 yJ0_coder_7d493, Cond.instanceMethod yJ0_coder_7d493, Cond.selects RJ0 yJ0_coder_7d493 yJ0_coder_7d493, Cond.code yJ0_coder_7d493 cJ0_coder_7d493 1 (some .byte), Cond.fieldLink RJ0 38 "java/lang/String" "COMPACT_STRINGS" "Z", Cond.fieldLink RJ0 15 "java/lang/String" "coder" "B", Cond.methodLink RL 14 yJ0_charAt_5068e, Cond.instanceMethod yJ0_charAt_5068e, Cond.selects RJ0 yJ0_charAt_5068e yJ0_charAt_5068e, Cond.code yJ0_charAt_5068e cJ0_charAt_5068e 2 (some .char), Cond.methodLink RJ0 492 yJ0_isLatin1_aae02, Cond.instanceMethod yJ0_isLatin1_aae02, Cond.selects RJ0 yJ0_isLatin1_aae02 yJ0_isLatin1_aae02, Cond.code yJ0_isLatin1_aae02 cJ0_isLatin1_aae02 1 (some .boolean), Cond.methodLink RJ0 495 yJ1_charAt_3b067, Cond.static yJ1_charAt_3b067, Cond.initialized RJ1, Cond.code yJ1_charAt_3b067 cJ1_charAt_3b067 2 (some .char)]
def wsL_act_r11 : List Cond := [Cond.methodLink RJ1 9 yJ0_checkIndex_df160, Cond.static yJ0_checkIndex_df160, Cond.code yJ0_checkIndex_df160 cJ0_checkIndex_df160 2 none, Cond.fieldLink RJ0 1053 "jdk/internal/util/Preconditions" "SIOOBE_FORMATTER" "Ljava/util/function/BiFunction;", Cond.methodLink RJ0 1059 yJ3_checkIndex_8e157, Cond.static yJ3_checkIndex_8e157, Cond.initialized RJ3, Cond.code yJ3_checkIndex_8e157 cJ3_checkIndex_8e157 3 (some .int), Cond.methodLink RJ0 498 yJ2_charAt_3b067, Cond.static yJ2_charAt_3b067, Cond.initialized RJ2, Cond.code yJ2_charAt_3b067 cJ2_charAt_3b067 2 (some .char), Cond.methodLink RJ2 67 yJ2_checkIndex_2214a, Cond.static yJ2_checkIndex_2214a, Cond.code yJ2_checkIndex_2214a cJ2_checkIndex_2214a 2 none, Cond.methodLink RJ2 48 yJ2_length_9d52b, Cond.static yJ2_length_9d52b, Cond.code yJ2_length_9d52b cJ2_length_9d52b 1 (some .int), Cond.methodLink RJ2 414 yJ0_checkIndex_df160, Cond.methodLink RJ2 71 yJ2_getChar_3b067, Cond.static yJ2_getChar_3b067, Cond.code yJ2_getChar_3b067 cJ2_getChar_3b067 2 (some .char), Cond.fieldLink RJ2 44 "java/lang/StringUTF16" "$assertionsDisabled" "Z", Cond.fieldLink RJ2 59 "java/lang/StringUTF16" "HI_BYTE_SHIFT" "I"]
def wsL_act_r12 : List Cond := [Cond.fieldLink RJ2 63 "java/lang/StringUTF16" "LO_BYTE_SHIFT" "I", Cond.methodLink RL 18 yX4_append, Cond.instanceMethod yX4_append, Cond.selects RX4 yX4_append yX4_append, Cond.code yX4_append cX4_append 2 (some .int), Cond.fieldLink RX4 36 "GranaryLadder" "text" "LGranaryLadder$CommandText;", Cond.methodLink RX4 175 yX0_addCode, Cond.instanceMethod yX0_addCode, Cond.selects RX0 yX0_addCode yX0_addCode, Cond.initialized RX0, Cond.code yX0_addCode cX0_addCode 2 (some .int), Cond.fieldLink RX0 15 "GranaryLadder$CommandText" "length" "I", Cond.fieldLink RX0 9 "GranaryLadder$CommandText" "codes" "[I", Cond.methodLink RL 54 yX4_run, Cond.instanceMethod yX4_run, Cond.selects RX4 yX4_run yX4_run, Cond.code yX4_run cX4_run 4 (some .int), Cond.methodLink RX4 178 yX0_readCommands, Cond.instanceMethod yX0_readCommands, Cond.selects RX0 yX0_readCommands yX0_readCommands, Cond.code yX0_readCommands cX0_readCommands 2 (some .boolean), Cond.fieldLink RX0 28 "GranaryLadder$CommandText" "place" "I", Cond.fieldLink RX0 22 "GranaryLadder$CommandText" "commands" "I", Cond.methodLink RX0 39 yX0_readCommand]
def wsL_act_r13 : List Cond := [Cond.instanceMethod yX0_readCommand, Cond.selects RX0 yX0_readCommand yX0_readCommand, Cond.code yX0_readCommand cX0_readCommand 3 (some .boolean), Cond.fieldLink RX0 25 "GranaryLadder$CommandText" "nextCell" "I", Cond.methodLink RX0 47 yX0_patternOf, Cond.static yX0_patternOf, Cond.code yX0_patternOf cX0_patternOf 1 (some (.object "java/lang/String")), Cond.methodLink RX0 51 yJ0_isEmpty_aae02, Cond.instanceMethod yJ0_isEmpty_aae02, Cond.selects RJ0 yJ0_isEmpty_aae02 yJ0_isEmpty_aae02, Cond.code yJ0_isEmpty_aae02 cJ0_isEmpty_aae02 1 (some .boolean), Cond.methodLink RX0 56 yX0_nextCode, Cond.instanceMethod yX0_nextCode, Cond.selects RX0 yX0_nextCode yX0_nextCode, Cond.code yX0_nextCode cX0_nextCode 1 (some .int), Cond.methodLink RX0 60 yJ0_charAt_5068e, Cond.methodLink RX0 64 yX0_addCell, Cond.instanceMethod yX0_addCell, Cond.selects RX0 yX0_addCell yX0_addCell, Cond.code yX0_addCell cX0_addCell 2 none, Cond.fieldLink RX0 19 "GranaryLadder$CommandText" "cells" "[I", Cond.methodLink RX0 68 yX0_readAlong, Cond.instanceMethod yX0_readAlong, Cond.selects RX0 yX0_readAlong yX0_readAlong]
def wsL_act_r14 : List Cond := [Cond.code yX0_readAlong cX0_readAlong 5 (some .boolean), Cond.methodLink RX0 86 yJ0_length_8abf5, Cond.methodLink RX0 88 yX0_readNumber, Cond.instanceMethod yX0_readNumber, Cond.selects RX0 yX0_readNumber yX0_readNumber, Cond.code yX0_readNumber cX0_readNumber 4 (some .boolean), Cond.methodLink RX0 91 yX0_readKind, Cond.instanceMethod yX0_readKind, Cond.selects RX0 yX0_readKind yX0_readKind, Cond.code yX0_readKind cX0_readKind 2 (some .boolean), Cond.methodLink RX0 43 yX0_readCode, Cond.instanceMethod yX0_readCode, Cond.selects RX0 yX0_readCode yX0_readCode, Cond.code yX0_readCode cX0_readCode 2 (some .boolean), Cond.methodLink RX4 182 yX0_becomeEmpty, Cond.instanceMethod yX0_becomeEmpty, Cond.selects RX0 yX0_becomeEmpty yX0_becomeEmpty, Cond.code yX0_becomeEmpty cX0_becomeEmpty 1 none, Cond.methodLink RX4 185 yX0_faultPosition, Cond.instanceMethod yX0_faultPosition, Cond.selects RX0 yX0_faultPosition yX0_faultPosition, Cond.code yX0_faultPosition cX0_faultPosition 1 (some .int), Cond.methodLink RX4 189 yX0_commandCount, Cond.instanceMethod yX0_commandCount]
def wsL_act_r15 : List Cond := [Cond.selects RX0 yX0_commandCount yX0_commandCount, Cond.code yX0_commandCount cX0_commandCount 1 (some .int), Cond.methodLink RX4 192 yX4_carryOut, Cond.instanceMethod yX4_carryOut, Cond.selects RX4 yX4_carryOut yX4_carryOut, Cond.code yX4_carryOut cX4_carryOut 5 (some .int), Cond.methodLink RX4 279 yX0_argument, Cond.instanceMethod yX0_argument, Cond.selects RX0 yX0_argument yX0_argument, Cond.code yX0_argument cX0_argument 3 (some .int), Cond.methodLink RX4 282 yX0_verb, Cond.instanceMethod yX0_verb, Cond.selects RX0 yX0_verb yX0_verb, Cond.code yX0_verb cX0_verb 2 (some .int), Cond.methodLink RL 62 yX4_save, Cond.instanceMethod yX4_save, Cond.selects RX4 yX4_save yX4_save, Cond.code yX4_save cX4_save 1 (some .int), Cond.fieldLink RX4 19 "GranaryLadder" "snapshot" "LGranaryLadder$Wall;", Cond.fieldLink RX4 22 "GranaryLadder" "hasSnapshot" "Z", Cond.methodLink RX4 221 yX3_allSacks, Cond.instanceMethod yX3_allSacks, Cond.selects RX3 yX3_allSacks yX3_allSacks, Cond.code yX3_allSacks cX3_allSacks 1 (some .int)]
def wsL_act_r16 : List Cond := [Cond.methodLink RX3 72 yX3_sumByBays, Cond.instanceMethod yX3_sumByBays, Cond.selects RX3 yX3_sumByBays yX3_sumByBays, Cond.code yX3_sumByBays cX3_sumByBays 5 (some .int), Cond.methodLink RL 65 yX4_restore, Cond.instanceMethod yX4_restore, Cond.selects RX4 yX4_restore yX4_restore, Cond.code yX4_restore cX4_restore 1 (some .int), Cond.methodLink RX4 239 yX2_forget, Cond.instanceMethod yX2_forget, Cond.selects RX2 yX2_forget yX2_forget, Cond.code yX2_forget cX2_forget 1 none, Cond.methodLink RL 68 yX4_undo, Cond.instanceMethod yX4_undo, Cond.selects RX4 yX4_undo yX4_undo, Cond.code yX4_undo cX4_undo 1 (some .int), Cond.methodLink RX4 231 yX2_size, Cond.instanceMethod yX2_size, Cond.selects RX2 yX2_size yX2_size, Cond.code yX2_size cX2_size 1 (some .int), Cond.methodLink RX4 236 yX2_giveBack, Cond.instanceMethod yX2_giveBack, Cond.selects RX2 yX2_giveBack yX2_giveBack, Cond.code yX2_giveBack cX2_giveBack 2 none]
def wsL_act_r17 : List Cond := [Cond.methodLink RX2 35 Lib.Math.max.name]
def wsL_act : List Cond := .code yL_act cL_act 4 (some .int) :: ((wsL_act_r1 ++ (wsL_act_r2 ++ (wsL_act_r3 ++ (wsL_act_r4 ++ (wsL_act_r5 ++ (wsL_act_r6 ++ (wsL_act_r7 ++ (wsL_act_r8 ++ (wsL_act_r9 ++ (wsL_act_r10 ++ (wsL_act_r11 ++ (wsL_act_r12 ++ (wsL_act_r13 ++ (wsL_act_r14 ++ (wsL_act_r15 ++ (wsL_act_r16 ++ wsL_act_r17)))))))))))))))) ++ wsX40 ++ wsX30 ++ wsX20 ++ wsX00)
def wsL_digest_r1 : List Cond := [Cond.constantLong RL 71 (7), Cond.constantLong RL 73 (31), Cond.methodLink RL 75 yX4_account, Cond.instanceMethod yX4_account, Cond.selects RX4 yX4_account yX4_account, Cond.initialized RX4, Cond.code yX4_account cX4_account 2 (some .int), Cond.fieldLink RX4 10 "GranaryLadder" "now" "LGranaryLadder$Wall;", Cond.fieldLink RX4 36 "GranaryLadder" "text" "LGranaryLadder$CommandText;", Cond.fieldLink RX4 29 "GranaryLadder" "past" "LGranaryLadder$Past;", Cond.methodLink RX4 218 yX3_filledBays, Cond.instanceMethod yX3_filledBays, Cond.selects RX3 yX3_filledBays yX3_filledBays, Cond.initialized RX3, Cond.code yX3_filledBays cX3_filledBays 3 (some .int), Cond.methodLink RX3 50 yX3_isEmpty, Cond.instanceMethod yX3_isEmpty, Cond.selects RX3 yX3_isEmpty yX3_isEmpty, Cond.code yX3_isEmpty cX3_isEmpty 2 (some .boolean), Cond.fieldLink RX3 15 "GranaryLadder$Wall" "sacks" "[I", Cond.static yX4_at, Cond.code yX4_at cX4_at 2 (some .int), Cond.methodLink RX4 221 yX3_allSacks, Cond.instanceMethod yX3_allSacks]
def wsL_digest_r2 : List Cond := [Cond.selects RX3 yX3_allSacks yX3_allSacks, Cond.code yX3_allSacks cX3_allSacks 1 (some .int), Cond.methodLink RX3 72 yX3_sumByBays, Cond.instanceMethod yX3_sumByBays, Cond.selects RX3 yX3_sumByBays yX3_sumByBays, Cond.code yX3_sumByBays cX3_sumByBays 5 (some .int), Cond.methodLink RX3 69 yX3_sacksIn, Cond.instanceMethod yX3_sacksIn, Cond.selects RX3 yX3_sacksIn yX3_sacksIn, Cond.code yX3_sacksIn cX3_sacksIn 2 (some .int), Cond.methodLink RX4 224 yX3_sacksOfKind, Cond.instanceMethod yX3_sacksOfKind, Cond.selects RX3 yX3_sacksOfKind yX3_sacksOfKind, Cond.code yX3_sacksOfKind cX3_sacksOfKind 4 (some .int), Cond.methodLink RX3 76 yX3_kindIn, Cond.instanceMethod yX3_kindIn, Cond.selects RX3 yX3_kindIn yX3_kindIn, Cond.code yX3_kindIn cX3_kindIn 2 (some .int), Cond.fieldLink RX3 9 "GranaryLadder$Wall" "kinds" "[I", Cond.methodLink RX4 227 yX3_crackedRungs, Cond.instanceMethod yX3_crackedRungs, Cond.selects RX3 yX3_crackedRungs yX3_crackedRungs, Cond.code yX3_crackedRungs cX3_crackedRungs 3 (some .int), Cond.methodLink RX3 57 yX3_isCracked]
def wsL_digest_r3 : List Cond := [Cond.instanceMethod yX3_isCracked, Cond.selects RX3 yX3_isCracked yX3_isCracked, Cond.code yX3_isCracked cX3_isCracked 2 (some .boolean), Cond.fieldLink RX3 24 "GranaryLadder$Wall" "cracks" "[I", Cond.methodLink RX4 230 yX0_size, Cond.instanceMethod yX0_size, Cond.selects RX0 yX0_size yX0_size, Cond.initialized RX0, Cond.code yX0_size cX0_size 1 (some .int), Cond.fieldLink RX0 15 "GranaryLadder$CommandText" "length" "I", Cond.methodLink RX4 231 yX2_size, Cond.instanceMethod yX2_size, Cond.selects RX2 yX2_size yX2_size, Cond.initialized RX2, Cond.code yX2_size cX2_size 1 (some .int), Cond.fieldLink RX2 21 "GranaryLadder$Past" "kept" "I", Cond.methodLink RX4 138 yX4_isWithin, Cond.static yX4_isWithin, Cond.code yX4_isWithin cX4_isWithin 3 (some .boolean), Cond.methodLink RX4 232 yX3_counted, Cond.instanceMethod yX3_counted, Cond.selects RX3 yX3_counted yX3_counted, Cond.code yX3_counted cX3_counted 2 (some .int), Cond.fieldLink RX3 27 "GranaryLadder$Wall" "counters" "[I"]
def wsL_digest_r4 : List Cond := [Cond.methodLink RL 78 yX4_bayOf, Cond.instanceMethod yX4_bayOf, Cond.selects RX4 yX4_bayOf yX4_bayOf, Cond.code yX4_bayOf cX4_bayOf 3 (some .int), Cond.methodLink RX4 86 yX4_isBay, Cond.static yX4_isBay, Cond.code yX4_isBay cX4_isBay 1 (some .boolean), Cond.methodLink RX4 90 yX3_isEmpty, Cond.methodLink RX4 93 yX3_kindIn, Cond.methodLink RX4 96 yX3_sacksIn, Cond.methodLink RX4 99 yX3_ageIn, Cond.instanceMethod yX3_ageIn, Cond.selects RX3 yX3_ageIn yX3_ageIn, Cond.code yX3_ageIn cX3_ageIn 2 (some .int), Cond.fieldLink RX3 18 "GranaryLadder$Wall" "ages" "[I", Cond.methodLink RX4 102 yX3_spoilingAt, Cond.instanceMethod yX3_spoilingAt, Cond.selects RX3 yX3_spoilingAt yX3_spoilingAt, Cond.code yX3_spoilingAt cX3_spoilingAt 3 (some .int), Cond.methodLink RX4 105 yX3_rungsOver, Cond.instanceMethod yX3_rungsOver, Cond.selects RX3 yX3_rungsOver yX3_rungsOver, Cond.code yX3_rungsOver cX3_rungsOver 5 (some .int), Cond.static yX4_sizeOf]
def wsL_digest_r5 : List Cond := [Cond.code yX4_sizeOf cX4_sizeOf 1 (some .int), Cond.methodLink RX4 108 yX3_crackedOver, Cond.instanceMethod yX3_crackedOver, Cond.selects RX3 yX3_crackedOver yX3_crackedOver, Cond.code yX3_crackedOver cX3_crackedOver 5 (some .int), Cond.methodLink RL 81 yX4_rungOf, Cond.instanceMethod yX4_rungOf, Cond.selects RX4 yX4_rungOf yX4_rungOf, Cond.code yX4_rungOf cX4_rungOf 3 (some .int), Cond.methodLink RX4 111 yX4_isRung, Cond.static yX4_isRung, Cond.code yX4_isRung cX4_isRung 1 (some .boolean), Cond.methodLink RX4 114 yX4_sizeOf, Cond.methodLink RX4 117 yX3_sumOf, Cond.instanceMethod yX3_sumOf, Cond.selects RX3 yX3_sumOf yX3_sumOf, Cond.code yX3_sumOf cX3_sumOf 2 (some .int), Cond.fieldLink RX3 21 "GranaryLadder$Wall" "sums" "[I", Cond.methodLink RX4 120 yX4_loadOf, Cond.static yX4_loadOf, Cond.code yX4_loadOf cX4_loadOf 1 (some .int), Cond.methodLink RX4 123 yX3_isCracked, Cond.methodLink RX4 126 yX4_firstBayOf, Cond.static yX4_firstBayOf]
def wsL_digest_r6 : List Cond := [Cond.code yX4_firstBayOf cX4_firstBayOf 1 (some .int), Cond.methodLink RX4 129 yX4_rungsBelow, Cond.static yX4_rungsBelow, Cond.code yX4_rungsBelow cX4_rungsBelow 4 (some .int)]
def wsL_digest : List Cond := .code yL_digest cL_digest 4 (some .long) :: ((wsL_digest_r1 ++ (wsL_digest_r2 ++ (wsL_digest_r3 ++ (wsL_digest_r4 ++ (wsL_digest_r5 ++ wsL_digest_r6))))) ++ wsX40 ++ wsX30 ++ wsX00 ++ wsX20)
def wsL_keeps : List Cond := .code yL_keeps cL_keeps 1 (some .int) :: ([])
def wsL_isBay_r1 : List Cond := [Cond.methodLink RL 78 yX4_bayOf, Cond.instanceMethod yX4_bayOf, Cond.selects RX4 yX4_bayOf yX4_bayOf, Cond.initialized RX4, Cond.code yX4_bayOf cX4_bayOf 3 (some .int), Cond.fieldLink RX4 10 "GranaryLadder" "now" "LGranaryLadder$Wall;", Cond.methodLink RX4 86 yX4_isBay, Cond.static yX4_isBay, Cond.code yX4_isBay cX4_isBay 1 (some .boolean), Cond.methodLink RX4 138 yX4_isWithin, Cond.static yX4_isWithin, Cond.code yX4_isWithin cX4_isWithin 3 (some .boolean), Cond.methodLink RX4 90 yX3_isEmpty, Cond.instanceMethod yX3_isEmpty, Cond.selects RX3 yX3_isEmpty yX3_isEmpty, Cond.initialized RX3, Cond.code yX3_isEmpty cX3_isEmpty 2 (some .boolean), Cond.fieldLink RX3 15 "GranaryLadder$Wall" "sacks" "[I", Cond.static yX4_at, Cond.code yX4_at cX4_at 2 (some .int), Cond.methodLink RX4 93 yX3_kindIn, Cond.instanceMethod yX3_kindIn, Cond.selects RX3 yX3_kindIn yX3_kindIn, Cond.code yX3_kindIn cX3_kindIn 2 (some .int)]
def wsL_isBay_r2 : List Cond := [Cond.fieldLink RX3 9 "GranaryLadder$Wall" "kinds" "[I", Cond.methodLink RX4 96 yX3_sacksIn, Cond.instanceMethod yX3_sacksIn, Cond.selects RX3 yX3_sacksIn yX3_sacksIn, Cond.code yX3_sacksIn cX3_sacksIn 2 (some .int), Cond.methodLink RX4 99 yX3_ageIn, Cond.instanceMethod yX3_ageIn, Cond.selects RX3 yX3_ageIn yX3_ageIn, Cond.code yX3_ageIn cX3_ageIn 2 (some .int), Cond.fieldLink RX3 18 "GranaryLadder$Wall" "ages" "[I", Cond.methodLink RX4 102 yX3_spoilingAt, Cond.instanceMethod yX3_spoilingAt, Cond.selects RX3 yX3_spoilingAt yX3_spoilingAt, Cond.code yX3_spoilingAt cX3_spoilingAt 3 (some .int), Cond.methodLink RX3 76 yX3_kindIn, Cond.methodLink RX3 69 yX3_sacksIn, Cond.methodLink RX4 105 yX3_rungsOver, Cond.instanceMethod yX3_rungsOver, Cond.selects RX3 yX3_rungsOver yX3_rungsOver, Cond.code yX3_rungsOver cX3_rungsOver 5 (some .int), Cond.static yX4_sizeOf, Cond.code yX4_sizeOf cX4_sizeOf 1 (some .int), Cond.methodLink RX4 108 yX3_crackedOver, Cond.instanceMethod yX3_crackedOver]
def wsL_isBay_r3 : List Cond := [Cond.selects RX3 yX3_crackedOver yX3_crackedOver, Cond.code yX3_crackedOver cX3_crackedOver 5 (some .int), Cond.methodLink RX3 57 yX3_isCracked, Cond.instanceMethod yX3_isCracked, Cond.selects RX3 yX3_isCracked yX3_isCracked, Cond.code yX3_isCracked cX3_isCracked 2 (some .boolean), Cond.fieldLink RX3 24 "GranaryLadder$Wall" "cracks" "[I", Cond.methodLink RL 84 yL_keeps, Cond.static yL_keeps, Cond.initialized RL, Cond.code yL_keeps cL_keeps 1 (some .int), Cond.methodLink RL 81 yX4_rungOf, Cond.instanceMethod yX4_rungOf, Cond.selects RX4 yX4_rungOf yX4_rungOf, Cond.code yX4_rungOf cX4_rungOf 3 (some .int), Cond.methodLink RX4 111 yX4_isRung, Cond.static yX4_isRung, Cond.code yX4_isRung cX4_isRung 1 (some .boolean), Cond.methodLink RX4 114 yX4_sizeOf, Cond.methodLink RX4 117 yX3_sumOf, Cond.instanceMethod yX3_sumOf, Cond.selects RX3 yX3_sumOf yX3_sumOf, Cond.code yX3_sumOf cX3_sumOf 2 (some .int), Cond.fieldLink RX3 21 "GranaryLadder$Wall" "sums" "[I"]
def wsL_isBay_r4 : List Cond := [Cond.methodLink RX4 120 yX4_loadOf, Cond.static yX4_loadOf, Cond.code yX4_loadOf cX4_loadOf 1 (some .int), Cond.methodLink RX4 123 yX3_isCracked, Cond.methodLink RX4 126 yX4_firstBayOf, Cond.static yX4_firstBayOf, Cond.code yX4_firstBayOf cX4_firstBayOf 1 (some .int), Cond.methodLink RX4 129 yX4_rungsBelow, Cond.static yX4_rungsBelow, Cond.code yX4_rungsBelow cX4_rungsBelow 4 (some .int), Cond.methodLink RL 87 yX4_steps, Cond.instanceMethod yX4_steps, Cond.selects RX4 yX4_steps yX4_steps, Cond.code yX4_steps cX4_steps 5 (some .int), Cond.methodLink RX4 142 yX4_stepsBelow, Cond.static yX4_stepsBelow, Cond.code yX4_stepsBelow cX4_stepsBelow 6 (some .int), Cond.methodLink RL 90 yX4_stepsAgain, Cond.instanceMethod yX4_stepsAgain, Cond.selects RX4 yX4_stepsAgain yX4_stepsAgain, Cond.code yX4_stepsAgain cX4_stepsAgain 3 (some .int), Cond.fieldLink RX4 54 "GranaryLadder" "stepsOfRungs" "[I", Cond.methodLink RX4 146 yX4_stepsByKnown, Cond.instanceMethod yX4_stepsByKnown]
def wsL_isBay_r5 : List Cond := [Cond.selects RX4 yX4_stepsByKnown yX4_stepsByKnown, Cond.code yX4_stepsByKnown cX4_stepsByKnown 2 (some .int), Cond.methodLink RX4 153 yX4_knownSteps, Cond.instanceMethod yX4_knownSteps, Cond.selects RX4 yX4_knownSteps yX4_knownSteps, Cond.code yX4_knownSteps cX4_knownSteps 6 (some .int), Cond.methodLink RX4 205 yX4_at, Cond.methodLink RX4 149 yX4_put, Cond.static yX4_put, Cond.code yX4_put cX4_put 3 none, Cond.methodLink RL 93 yJ6_bitCount_0f7a4, Cond.static yJ6_bitCount_0f7a4, Cond.initialized RJ6, Cond.code yJ6_bitCount_0f7a4 cJ6_bitCount_0f7a4 1 (some .int), Cond.constant RJ6 265 (1431655765), Cond.constant RJ6 266 (858993459), Cond.constant RJ6 267 (252645135), Cond.methodLink RL 98 yX4_sum, Cond.instanceMethod yX4_sum, Cond.selects RX4 yX4_sum yX4_sum, Cond.code yX4_sum cX4_sum 3 (some .int), Cond.methodLink RX4 132 yX3_sumByClimbing, Cond.instanceMethod yX3_sumByClimbing, Cond.selects RX3 yX3_sumByClimbing yX3_sumByClimbing]
def wsL_isBay_r6 : List Cond := [Cond.code yX3_sumByClimbing cX3_sumByClimbing 5 (some .int), Cond.methodLink RX3 60 yX3_sumOf, Cond.methodLink RL 101 yX4_sumAgain, Cond.instanceMethod yX4_sumAgain, Cond.selects RX4 yX4_sumAgain yX4_sumAgain, Cond.code yX4_sumAgain cX4_sumAgain 3 (some .int), Cond.methodLink RX4 135 yX3_sumByBays, Cond.instanceMethod yX3_sumByBays, Cond.selects RX3 yX3_sumByBays yX3_sumByBays, Cond.code yX3_sumByBays cX3_sumByBays 5 (some .int)]
def wsL_isBay : List Cond := .code yL_isBay cL_isBay 11 (some .boolean) :: ((wsL_isBay_r1 ++ (wsL_isBay_r2 ++ (wsL_isBay_r3 ++ (wsL_isBay_r4 ++ (wsL_isBay_r5 ++ wsL_isBay_r6))))) ++ wsX40 ++ wsX30)
def wsL_isRung_r1 : List Cond := [Cond.methodLink RL 101 yX4_sumAgain, Cond.instanceMethod yX4_sumAgain, Cond.selects RX4 yX4_sumAgain yX4_sumAgain, Cond.initialized RX4, Cond.code yX4_sumAgain cX4_sumAgain 3 (some .int), Cond.fieldLink RX4 10 "GranaryLadder" "now" "LGranaryLadder$Wall;", Cond.methodLink RX4 86 yX4_isBay, Cond.static yX4_isBay, Cond.code yX4_isBay cX4_isBay 1 (some .boolean), Cond.methodLink RX4 138 yX4_isWithin, Cond.static yX4_isWithin, Cond.code yX4_isWithin cX4_isWithin 3 (some .boolean), Cond.methodLink RX4 135 yX3_sumByBays, Cond.instanceMethod yX3_sumByBays, Cond.selects RX3 yX3_sumByBays yX3_sumByBays, Cond.initialized RX3, Cond.code yX3_sumByBays cX3_sumByBays 5 (some .int), Cond.methodLink RX3 69 yX3_sacksIn, Cond.instanceMethod yX3_sacksIn, Cond.selects RX3 yX3_sacksIn yX3_sacksIn, Cond.code yX3_sacksIn cX3_sacksIn 2 (some .int), Cond.fieldLink RX3 15 "GranaryLadder$Wall" "sacks" "[I", Cond.static yX4_at, Cond.code yX4_at cX4_at 2 (some .int)]
def wsL_isRung_r2 : List Cond := [Cond.methodLink RL 81 yX4_rungOf, Cond.instanceMethod yX4_rungOf, Cond.selects RX4 yX4_rungOf yX4_rungOf, Cond.code yX4_rungOf cX4_rungOf 3 (some .int), Cond.methodLink RX4 111 yX4_isRung, Cond.static yX4_isRung, Cond.code yX4_isRung cX4_isRung 1 (some .boolean), Cond.methodLink RX4 114 yX4_sizeOf, Cond.static yX4_sizeOf, Cond.code yX4_sizeOf cX4_sizeOf 1 (some .int), Cond.methodLink RX4 117 yX3_sumOf, Cond.instanceMethod yX3_sumOf, Cond.selects RX3 yX3_sumOf yX3_sumOf, Cond.code yX3_sumOf cX3_sumOf 2 (some .int), Cond.fieldLink RX3 21 "GranaryLadder$Wall" "sums" "[I", Cond.methodLink RX4 120 yX4_loadOf, Cond.static yX4_loadOf, Cond.code yX4_loadOf cX4_loadOf 1 (some .int), Cond.methodLink RX4 123 yX3_isCracked, Cond.instanceMethod yX3_isCracked, Cond.selects RX3 yX3_isCracked yX3_isCracked, Cond.code yX3_isCracked cX3_isCracked 2 (some .boolean), Cond.fieldLink RX3 24 "GranaryLadder$Wall" "cracks" "[I", Cond.methodLink RX4 126 yX4_firstBayOf]
def wsL_isRung_r3 : List Cond := [Cond.static yX4_firstBayOf, Cond.code yX4_firstBayOf cX4_firstBayOf 1 (some .int), Cond.methodLink RX4 129 yX4_rungsBelow, Cond.static yX4_rungsBelow, Cond.code yX4_rungsBelow cX4_rungsBelow 4 (some .int), Cond.methodLink RL 104 yX4_tellRung, Cond.instanceMethod yX4_tellRung, Cond.selects RX4 yX4_tellRung yX4_tellRung, Cond.code yX4_tellRung cX4_tellRung 2 (some .int), Cond.fieldLink RX4 43 "GranaryLadder" "line" "LGranaryLadder$Line;", Cond.methodLink RX4 198 yX1_becomeEmpty, Cond.instanceMethod yX1_becomeEmpty, Cond.selects RX1 yX1_becomeEmpty yX1_becomeEmpty, Cond.initialized RX1, Cond.code yX1_becomeEmpty cX1_becomeEmpty 1 none, Cond.fieldLink RX1 15 "GranaryLadder$Line" "length" "I", Cond.methodLink RX4 209 yX1_addNumber, Cond.instanceMethod yX1_addNumber, Cond.selects RX1 yX1_addNumber yX1_addNumber, Cond.code yX1_addNumber cX1_addNumber 3 none, Cond.methodLink RX1 23 yX1_addCode, Cond.instanceMethod yX1_addCode, Cond.selects RX1 yX1_addCode yX1_addCode, Cond.code yX1_addCode cX1_addCode 2 none]
def wsL_isRung_r4 : List Cond := [Cond.fieldLink RX1 9 "GranaryLadder$Line" "codes" "[I", Cond.static yX4_put, Cond.code yX4_put cX4_put 3 none, Cond.methodLink RX4 199 yX1_addCode, Cond.methodLink RX4 212 yX1_size, Cond.instanceMethod yX1_size, Cond.selects RX1 yX1_size yX1_size, Cond.code yX1_size cX1_size 1 (some .int), Cond.methodLink RL 107 yX4_character, Cond.instanceMethod yX4_character, Cond.selects RX4 yX4_character yX4_character, Cond.code yX4_character cX4_character 2 (some .int), Cond.methodLink RX4 215 yX1_codeAt, Cond.instanceMethod yX1_codeAt, Cond.selects RX1 yX1_codeAt yX1_codeAt, Cond.code yX1_codeAt cX1_codeAt 2 (some .int)]
def wsL_isRung : List Cond := .code yL_isRung cL_isRung 6 (some .boolean) :: ((wsL_isRung_r1 ++ (wsL_isRung_r2 ++ (wsL_isRung_r3 ++ wsL_isRung_r4))) ++ wsX40 ++ wsX30 ++ wsX10)
def wsL_areRanks_r1 : List Cond := [Cond.constantFloat RL 123 (1107296256), Cond.methodLink RL 75 yX4_account, Cond.instanceMethod yX4_account, Cond.selects RX4 yX4_account yX4_account, Cond.initialized RX4, Cond.code yX4_account cX4_account 2 (some .int), Cond.fieldLink RX4 10 "GranaryLadder" "now" "LGranaryLadder$Wall;", Cond.fieldLink RX4 36 "GranaryLadder" "text" "LGranaryLadder$CommandText;", Cond.fieldLink RX4 29 "GranaryLadder" "past" "LGranaryLadder$Past;", Cond.methodLink RX4 218 yX3_filledBays, Cond.instanceMethod yX3_filledBays, Cond.selects RX3 yX3_filledBays yX3_filledBays, Cond.initialized RX3, Cond.code yX3_filledBays cX3_filledBays 3 (some .int), Cond.methodLink RX3 50 yX3_isEmpty, Cond.instanceMethod yX3_isEmpty, Cond.selects RX3 yX3_isEmpty yX3_isEmpty, Cond.code yX3_isEmpty cX3_isEmpty 2 (some .boolean), Cond.fieldLink RX3 15 "GranaryLadder$Wall" "sacks" "[I", Cond.static yX4_at, Cond.code yX4_at cX4_at 2 (some .int), Cond.methodLink RX4 221 yX3_allSacks, Cond.instanceMethod yX3_allSacks, Cond.selects RX3 yX3_allSacks yX3_allSacks]
def wsL_areRanks_r2 : List Cond := [Cond.code yX3_allSacks cX3_allSacks 1 (some .int), Cond.methodLink RX3 72 yX3_sumByBays, Cond.instanceMethod yX3_sumByBays, Cond.selects RX3 yX3_sumByBays yX3_sumByBays, Cond.code yX3_sumByBays cX3_sumByBays 5 (some .int), Cond.methodLink RX3 69 yX3_sacksIn, Cond.instanceMethod yX3_sacksIn, Cond.selects RX3 yX3_sacksIn yX3_sacksIn, Cond.code yX3_sacksIn cX3_sacksIn 2 (some .int), Cond.methodLink RX4 224 yX3_sacksOfKind, Cond.instanceMethod yX3_sacksOfKind, Cond.selects RX3 yX3_sacksOfKind yX3_sacksOfKind, Cond.code yX3_sacksOfKind cX3_sacksOfKind 4 (some .int), Cond.methodLink RX3 76 yX3_kindIn, Cond.instanceMethod yX3_kindIn, Cond.selects RX3 yX3_kindIn yX3_kindIn, Cond.code yX3_kindIn cX3_kindIn 2 (some .int), Cond.fieldLink RX3 9 "GranaryLadder$Wall" "kinds" "[I", Cond.methodLink RX4 227 yX3_crackedRungs, Cond.instanceMethod yX3_crackedRungs, Cond.selects RX3 yX3_crackedRungs yX3_crackedRungs, Cond.code yX3_crackedRungs cX3_crackedRungs 3 (some .int), Cond.methodLink RX3 57 yX3_isCracked, Cond.instanceMethod yX3_isCracked]
def wsL_areRanks_r3 : List Cond := [Cond.selects RX3 yX3_isCracked yX3_isCracked, Cond.code yX3_isCracked cX3_isCracked 2 (some .boolean), Cond.fieldLink RX3 24 "GranaryLadder$Wall" "cracks" "[I", Cond.methodLink RX4 230 yX0_size, Cond.instanceMethod yX0_size, Cond.selects RX0 yX0_size yX0_size, Cond.initialized RX0, Cond.code yX0_size cX0_size 1 (some .int), Cond.fieldLink RX0 15 "GranaryLadder$CommandText" "length" "I", Cond.methodLink RX4 231 yX2_size, Cond.instanceMethod yX2_size, Cond.selects RX2 yX2_size yX2_size, Cond.initialized RX2, Cond.code yX2_size cX2_size 1 (some .int), Cond.fieldLink RX2 21 "GranaryLadder$Past" "kept" "I", Cond.methodLink RX4 138 yX4_isWithin, Cond.static yX4_isWithin, Cond.code yX4_isWithin cX4_isWithin 3 (some .boolean), Cond.methodLink RX4 232 yX3_counted, Cond.instanceMethod yX3_counted, Cond.selects RX3 yX3_counted yX3_counted, Cond.code yX3_counted cX3_counted 2 (some .int), Cond.fieldLink RX3 27 "GranaryLadder$Wall" "counters" "[I", Cond.methodLink RL 110 yX4_oldest]
def wsL_areRanks_r4 : List Cond := [Cond.instanceMethod yX4_oldest, Cond.selects RX4 yX4_oldest yX4_oldest, Cond.code yX4_oldest cX4_oldest 3 (some .int), Cond.methodLink RX4 90 yX3_isEmpty, Cond.methodLink RX4 156 yX3_placeOf, Cond.instanceMethod yX3_placeOf, Cond.selects RX3 yX3_placeOf yX3_placeOf, Cond.code yX3_placeOf cX3_placeOf 4 (some .int), Cond.methodLink RX3 82 yX3_isAhead, Cond.instanceMethod yX3_isAhead, Cond.selects RX3 yX3_isAhead yX3_isAhead, Cond.code yX3_isAhead cX3_isAhead 3 (some .boolean), Cond.methodLink RX3 79 yX3_ageIn, Cond.instanceMethod yX3_ageIn, Cond.selects RX3 yX3_ageIn yX3_ageIn, Cond.code yX3_ageIn cX3_ageIn 2 (some .int), Cond.fieldLink RX3 18 "GranaryLadder$Wall" "ages" "[I", Cond.methodLink RL 78 yX4_bayOf, Cond.instanceMethod yX4_bayOf, Cond.selects RX4 yX4_bayOf yX4_bayOf, Cond.code yX4_bayOf cX4_bayOf 3 (some .int), Cond.methodLink RX4 86 yX4_isBay, Cond.static yX4_isBay, Cond.code yX4_isBay cX4_isBay 1 (some .boolean)]
def wsL_areRanks_r5 : List Cond := [Cond.methodLink RX4 93 yX3_kindIn, Cond.methodLink RX4 96 yX3_sacksIn, Cond.methodLink RX4 99 yX3_ageIn, Cond.methodLink RX4 102 yX3_spoilingAt, Cond.instanceMethod yX3_spoilingAt, Cond.selects RX3 yX3_spoilingAt yX3_spoilingAt, Cond.code yX3_spoilingAt cX3_spoilingAt 3 (some .int), Cond.methodLink RX4 105 yX3_rungsOver, Cond.instanceMethod yX3_rungsOver, Cond.selects RX3 yX3_rungsOver yX3_rungsOver, Cond.code yX3_rungsOver cX3_rungsOver 5 (some .int), Cond.static yX4_sizeOf, Cond.code yX4_sizeOf cX4_sizeOf 1 (some .int), Cond.methodLink RX4 108 yX3_crackedOver, Cond.instanceMethod yX3_crackedOver, Cond.selects RX3 yX3_crackedOver yX3_crackedOver, Cond.code yX3_crackedOver cX3_crackedOver 5 (some .int), Cond.methodLink RL 113 yX4_tightest, Cond.instanceMethod yX4_tightest, Cond.selects RX4 yX4_tightest yX4_tightest, Cond.code yX4_tightest cX4_tightest 5 (some .int), Cond.methodLink RX4 120 yX4_loadOf, Cond.static yX4_loadOf, Cond.code yX4_loadOf cX4_loadOf 1 (some .int)]
def wsL_areRanks_r6 : List Cond := [Cond.methodLink RX4 114 yX4_sizeOf, Cond.methodLink RX4 117 yX3_sumOf, Cond.instanceMethod yX3_sumOf, Cond.selects RX3 yX3_sumOf yX3_sumOf, Cond.code yX3_sumOf cX3_sumOf 2 (some .int), Cond.fieldLink RX3 21 "GranaryLadder$Wall" "sums" "[I", Cond.methodLink RX4 123 yX3_isCracked, Cond.methodLink RL 81 yX4_rungOf, Cond.instanceMethod yX4_rungOf, Cond.selects RX4 yX4_rungOf yX4_rungOf, Cond.code yX4_rungOf cX4_rungOf 3 (some .int), Cond.methodLink RX4 111 yX4_isRung, Cond.static yX4_isRung, Cond.code yX4_isRung cX4_isRung 1 (some .boolean), Cond.methodLink RX4 126 yX4_firstBayOf, Cond.static yX4_firstBayOf, Cond.code yX4_firstBayOf cX4_firstBayOf 1 (some .int), Cond.methodLink RX4 129 yX4_rungsBelow, Cond.static yX4_rungsBelow, Cond.code yX4_rungsBelow cX4_rungsBelow 4 (some .int), Cond.methodLink RL 116 yX4_commonAge, Cond.instanceMethod yX4_commonAge, Cond.selects RX4 yX4_commonAge yX4_commonAge, Cond.code yX4_commonAge cX4_commonAge 6 (some .int)]
def wsL_areRanks_r7 : List Cond := [Cond.methodLink RX4 159 yX3_sacksAsOldAs, Cond.instanceMethod yX3_sacksAsOldAs, Cond.selects RX3 yX3_sacksAsOldAs yX3_sacksAsOldAs, Cond.code yX3_sacksAsOldAs cX3_sacksAsOldAs 4 (some .int), Cond.methodLink RL 119 yX4_soundShare, Cond.instanceMethod yX4_soundShare, Cond.selects RX4 yX4_soundShare yX4_soundShare, Cond.code yX4_soundShare cX4_soundShare 1 (some .float), Cond.constantFloat RX4 235 (1107296256)]
def wsL_areRanks : List Cond := .code yL_areRanks cL_areRanks 8 (some .boolean) :: ((wsL_areRanks_r1 ++ (wsL_areRanks_r2 ++ (wsL_areRanks_r3 ++ (wsL_areRanks_r4 ++ (wsL_areRanks_r5 ++ (wsL_areRanks_r6 ++ wsL_areRanks_r7)))))) ++ wsX40 ++ wsX30 ++ wsX00 ++ wsX20)
def wsL_areReached_r1 : List Cond := [Cond.methodLink RL 75 yX4_account, Cond.instanceMethod yX4_account, Cond.selects RX4 yX4_account yX4_account, Cond.initialized RX4, Cond.code yX4_account cX4_account 2 (some .int), Cond.fieldLink RX4 10 "GranaryLadder" "now" "LGranaryLadder$Wall;", Cond.fieldLink RX4 36 "GranaryLadder" "text" "LGranaryLadder$CommandText;", Cond.fieldLink RX4 29 "GranaryLadder" "past" "LGranaryLadder$Past;", Cond.methodLink RX4 218 yX3_filledBays, Cond.instanceMethod yX3_filledBays, Cond.selects RX3 yX3_filledBays yX3_filledBays, Cond.initialized RX3, Cond.code yX3_filledBays cX3_filledBays 3 (some .int), Cond.methodLink RX3 50 yX3_isEmpty, Cond.instanceMethod yX3_isEmpty, Cond.selects RX3 yX3_isEmpty yX3_isEmpty, Cond.code yX3_isEmpty cX3_isEmpty 2 (some .boolean), Cond.fieldLink RX3 15 "GranaryLadder$Wall" "sacks" "[I", Cond.static yX4_at, Cond.code yX4_at cX4_at 2 (some .int), Cond.methodLink RX4 221 yX3_allSacks, Cond.instanceMethod yX3_allSacks, Cond.selects RX3 yX3_allSacks yX3_allSacks, Cond.code yX3_allSacks cX3_allSacks 1 (some .int)]
def wsL_areReached_r2 : List Cond := [Cond.methodLink RX3 72 yX3_sumByBays, Cond.instanceMethod yX3_sumByBays, Cond.selects RX3 yX3_sumByBays yX3_sumByBays, Cond.code yX3_sumByBays cX3_sumByBays 5 (some .int), Cond.methodLink RX3 69 yX3_sacksIn, Cond.instanceMethod yX3_sacksIn, Cond.selects RX3 yX3_sacksIn yX3_sacksIn, Cond.code yX3_sacksIn cX3_sacksIn 2 (some .int), Cond.methodLink RX4 224 yX3_sacksOfKind, Cond.instanceMethod yX3_sacksOfKind, Cond.selects RX3 yX3_sacksOfKind yX3_sacksOfKind, Cond.code yX3_sacksOfKind cX3_sacksOfKind 4 (some .int), Cond.methodLink RX3 76 yX3_kindIn, Cond.instanceMethod yX3_kindIn, Cond.selects RX3 yX3_kindIn yX3_kindIn, Cond.code yX3_kindIn cX3_kindIn 2 (some .int), Cond.fieldLink RX3 9 "GranaryLadder$Wall" "kinds" "[I", Cond.methodLink RX4 227 yX3_crackedRungs, Cond.instanceMethod yX3_crackedRungs, Cond.selects RX3 yX3_crackedRungs yX3_crackedRungs, Cond.code yX3_crackedRungs cX3_crackedRungs 3 (some .int), Cond.methodLink RX3 57 yX3_isCracked, Cond.instanceMethod yX3_isCracked, Cond.selects RX3 yX3_isCracked yX3_isCracked]
def wsL_areReached_r3 : List Cond := [Cond.code yX3_isCracked cX3_isCracked 2 (some .boolean), Cond.fieldLink RX3 24 "GranaryLadder$Wall" "cracks" "[I", Cond.methodLink RX4 230 yX0_size, Cond.instanceMethod yX0_size, Cond.selects RX0 yX0_size yX0_size, Cond.initialized RX0, Cond.code yX0_size cX0_size 1 (some .int), Cond.fieldLink RX0 15 "GranaryLadder$CommandText" "length" "I", Cond.methodLink RX4 231 yX2_size, Cond.instanceMethod yX2_size, Cond.selects RX2 yX2_size yX2_size, Cond.initialized RX2, Cond.code yX2_size cX2_size 1 (some .int), Cond.fieldLink RX2 21 "GranaryLadder$Past" "kept" "I", Cond.methodLink RX4 138 yX4_isWithin, Cond.static yX4_isWithin, Cond.code yX4_isWithin cX4_isWithin 3 (some .boolean), Cond.methodLink RX4 232 yX3_counted, Cond.instanceMethod yX3_counted, Cond.selects RX3 yX3_counted yX3_counted, Cond.code yX3_counted cX3_counted 2 (some .int), Cond.fieldLink RX3 27 "GranaryLadder$Wall" "counters" "[I", Cond.methodLink RL 124 yX4_reach, Cond.instanceMethod yX4_reach]
def wsL_areReached_r4 : List Cond := [Cond.selects RX4 yX4_reach yX4_reach, Cond.code yX4_reach cX4_reach 6 (some .int), Cond.methodLink RX4 117 yX3_sumOf, Cond.instanceMethod yX3_sumOf, Cond.selects RX3 yX3_sumOf yX3_sumOf, Cond.code yX3_sumOf cX3_sumOf 2 (some .int), Cond.fieldLink RX3 21 "GranaryLadder$Wall" "sums" "[I", Cond.methodLink RL 127 yX4_reachAgain, Cond.instanceMethod yX4_reachAgain, Cond.selects RX4 yX4_reachAgain yX4_reachAgain, Cond.code yX4_reachAgain cX4_reachAgain 4 (some .int), Cond.methodLink RX4 96 yX3_sacksIn, Cond.methodLink RL 98 yX4_sum, Cond.instanceMethod yX4_sum, Cond.selects RX4 yX4_sum yX4_sum, Cond.code yX4_sum cX4_sum 3 (some .int), Cond.methodLink RX4 86 yX4_isBay, Cond.static yX4_isBay, Cond.code yX4_isBay cX4_isBay 1 (some .boolean), Cond.methodLink RX4 132 yX3_sumByClimbing, Cond.instanceMethod yX3_sumByClimbing, Cond.selects RX3 yX3_sumByClimbing yX3_sumByClimbing, Cond.code yX3_sumByClimbing cX3_sumByClimbing 5 (some .int), Cond.methodLink RX3 60 yX3_sumOf]
def wsL_areReached_r5 : List Cond := [Cond.static yX4_sizeOf, Cond.code yX4_sizeOf cX4_sizeOf 1 (some .int)]
def wsL_areReached : List Cond := .code yL_areReached cL_areReached 6 (some .boolean) :: ((wsL_areReached_r1 ++ (wsL_areReached_r2 ++ (wsL_areReached_r3 ++ (wsL_areReached_r4 ++ wsL_areReached_r5)))) ++ wsX40 ++ wsX30 ++ wsX00 ++ wsX20)
def wsL_isFit_r1 : List Cond := [Cond.methodLink RL 130 yL_areRanks, Cond.static yL_areRanks, Cond.initialized RL, Cond.code yL_areRanks cL_areRanks 8 (some .boolean), Cond.constantFloat RL 123 (1107296256), Cond.methodLink RL 75 yX4_account, Cond.instanceMethod yX4_account, Cond.selects RX4 yX4_account yX4_account, Cond.initialized RX4, Cond.code yX4_account cX4_account 2 (some .int), Cond.fieldLink RX4 10 "GranaryLadder" "now" "LGranaryLadder$Wall;", Cond.fieldLink RX4 36 "GranaryLadder" "text" "LGranaryLadder$CommandText;", Cond.fieldLink RX4 29 "GranaryLadder" "past" "LGranaryLadder$Past;", Cond.methodLink RX4 218 yX3_filledBays, Cond.instanceMethod yX3_filledBays, Cond.selects RX3 yX3_filledBays yX3_filledBays, Cond.initialized RX3, Cond.code yX3_filledBays cX3_filledBays 3 (some .int), Cond.methodLink RX3 50 yX3_isEmpty, Cond.instanceMethod yX3_isEmpty, Cond.selects RX3 yX3_isEmpty yX3_isEmpty, Cond.code yX3_isEmpty cX3_isEmpty 2 (some .boolean), Cond.fieldLink RX3 15 "GranaryLadder$Wall" "sacks" "[I", Cond.static yX4_at]
def wsL_isFit_r2 : List Cond := [Cond.code yX4_at cX4_at 2 (some .int), Cond.methodLink RX4 221 yX3_allSacks, Cond.instanceMethod yX3_allSacks, Cond.selects RX3 yX3_allSacks yX3_allSacks, Cond.code yX3_allSacks cX3_allSacks 1 (some .int), Cond.methodLink RX3 72 yX3_sumByBays, Cond.instanceMethod yX3_sumByBays, Cond.selects RX3 yX3_sumByBays yX3_sumByBays, Cond.code yX3_sumByBays cX3_sumByBays 5 (some .int), Cond.methodLink RX3 69 yX3_sacksIn, Cond.instanceMethod yX3_sacksIn, Cond.selects RX3 yX3_sacksIn yX3_sacksIn, Cond.code yX3_sacksIn cX3_sacksIn 2 (some .int), Cond.methodLink RX4 224 yX3_sacksOfKind, Cond.instanceMethod yX3_sacksOfKind, Cond.selects RX3 yX3_sacksOfKind yX3_sacksOfKind, Cond.code yX3_sacksOfKind cX3_sacksOfKind 4 (some .int), Cond.methodLink RX3 76 yX3_kindIn, Cond.instanceMethod yX3_kindIn, Cond.selects RX3 yX3_kindIn yX3_kindIn, Cond.code yX3_kindIn cX3_kindIn 2 (some .int), Cond.fieldLink RX3 9 "GranaryLadder$Wall" "kinds" "[I", Cond.methodLink RX4 227 yX3_crackedRungs, Cond.instanceMethod yX3_crackedRungs]
def wsL_isFit_r3 : List Cond := [Cond.selects RX3 yX3_crackedRungs yX3_crackedRungs, Cond.code yX3_crackedRungs cX3_crackedRungs 3 (some .int), Cond.methodLink RX3 57 yX3_isCracked, Cond.instanceMethod yX3_isCracked, Cond.selects RX3 yX3_isCracked yX3_isCracked, Cond.code yX3_isCracked cX3_isCracked 2 (some .boolean), Cond.fieldLink RX3 24 "GranaryLadder$Wall" "cracks" "[I", Cond.methodLink RX4 230 yX0_size, Cond.instanceMethod yX0_size, Cond.selects RX0 yX0_size yX0_size, Cond.initialized RX0, Cond.code yX0_size cX0_size 1 (some .int), Cond.fieldLink RX0 15 "GranaryLadder$CommandText" "length" "I", Cond.methodLink RX4 231 yX2_size, Cond.instanceMethod yX2_size, Cond.selects RX2 yX2_size yX2_size, Cond.initialized RX2, Cond.code yX2_size cX2_size 1 (some .int), Cond.fieldLink RX2 21 "GranaryLadder$Past" "kept" "I", Cond.methodLink RX4 138 yX4_isWithin, Cond.static yX4_isWithin, Cond.code yX4_isWithin cX4_isWithin 3 (some .boolean), Cond.methodLink RX4 232 yX3_counted, Cond.instanceMethod yX3_counted]
def wsL_isFit_r4 : List Cond := [Cond.selects RX3 yX3_counted yX3_counted, Cond.code yX3_counted cX3_counted 2 (some .int), Cond.fieldLink RX3 27 "GranaryLadder$Wall" "counters" "[I", Cond.methodLink RL 110 yX4_oldest, Cond.instanceMethod yX4_oldest, Cond.selects RX4 yX4_oldest yX4_oldest, Cond.code yX4_oldest cX4_oldest 3 (some .int), Cond.methodLink RX4 90 yX3_isEmpty, Cond.methodLink RX4 156 yX3_placeOf, Cond.instanceMethod yX3_placeOf, Cond.selects RX3 yX3_placeOf yX3_placeOf, Cond.code yX3_placeOf cX3_placeOf 4 (some .int), Cond.methodLink RX3 82 yX3_isAhead, Cond.instanceMethod yX3_isAhead, Cond.selects RX3 yX3_isAhead yX3_isAhead, Cond.code yX3_isAhead cX3_isAhead 3 (some .boolean), Cond.methodLink RX3 79 yX3_ageIn, Cond.instanceMethod yX3_ageIn, Cond.selects RX3 yX3_ageIn yX3_ageIn, Cond.code yX3_ageIn cX3_ageIn 2 (some .int), Cond.fieldLink RX3 18 "GranaryLadder$Wall" "ages" "[I", Cond.methodLink RL 78 yX4_bayOf, Cond.instanceMethod yX4_bayOf, Cond.selects RX4 yX4_bayOf yX4_bayOf]
def wsL_isFit_r5 : List Cond := [Cond.code yX4_bayOf cX4_bayOf 3 (some .int), Cond.methodLink RX4 86 yX4_isBay, Cond.static yX4_isBay, Cond.code yX4_isBay cX4_isBay 1 (some .boolean), Cond.methodLink RX4 93 yX3_kindIn, Cond.methodLink RX4 96 yX3_sacksIn, Cond.methodLink RX4 99 yX3_ageIn, Cond.methodLink RX4 102 yX3_spoilingAt, Cond.instanceMethod yX3_spoilingAt, Cond.selects RX3 yX3_spoilingAt yX3_spoilingAt, Cond.code yX3_spoilingAt cX3_spoilingAt 3 (some .int), Cond.methodLink RX4 105 yX3_rungsOver, Cond.instanceMethod yX3_rungsOver, Cond.selects RX3 yX3_rungsOver yX3_rungsOver, Cond.code yX3_rungsOver cX3_rungsOver 5 (some .int), Cond.static yX4_sizeOf, Cond.code yX4_sizeOf cX4_sizeOf 1 (some .int), Cond.methodLink RX4 108 yX3_crackedOver, Cond.instanceMethod yX3_crackedOver, Cond.selects RX3 yX3_crackedOver yX3_crackedOver, Cond.code yX3_crackedOver cX3_crackedOver 5 (some .int), Cond.methodLink RL 113 yX4_tightest, Cond.instanceMethod yX4_tightest, Cond.selects RX4 yX4_tightest yX4_tightest]
def wsL_isFit_r6 : List Cond := [Cond.code yX4_tightest cX4_tightest 5 (some .int), Cond.methodLink RX4 120 yX4_loadOf, Cond.static yX4_loadOf, Cond.code yX4_loadOf cX4_loadOf 1 (some .int), Cond.methodLink RX4 114 yX4_sizeOf, Cond.methodLink RX4 117 yX3_sumOf, Cond.instanceMethod yX3_sumOf, Cond.selects RX3 yX3_sumOf yX3_sumOf, Cond.code yX3_sumOf cX3_sumOf 2 (some .int), Cond.fieldLink RX3 21 "GranaryLadder$Wall" "sums" "[I", Cond.methodLink RX4 123 yX3_isCracked, Cond.methodLink RL 81 yX4_rungOf, Cond.instanceMethod yX4_rungOf, Cond.selects RX4 yX4_rungOf yX4_rungOf, Cond.code yX4_rungOf cX4_rungOf 3 (some .int), Cond.methodLink RX4 111 yX4_isRung, Cond.static yX4_isRung, Cond.code yX4_isRung cX4_isRung 1 (some .boolean), Cond.methodLink RX4 126 yX4_firstBayOf, Cond.static yX4_firstBayOf, Cond.code yX4_firstBayOf cX4_firstBayOf 1 (some .int), Cond.methodLink RX4 129 yX4_rungsBelow, Cond.static yX4_rungsBelow, Cond.code yX4_rungsBelow cX4_rungsBelow 4 (some .int)]
def wsL_isFit_r7 : List Cond := [Cond.methodLink RL 116 yX4_commonAge, Cond.instanceMethod yX4_commonAge, Cond.selects RX4 yX4_commonAge yX4_commonAge, Cond.code yX4_commonAge cX4_commonAge 6 (some .int), Cond.methodLink RX4 159 yX3_sacksAsOldAs, Cond.instanceMethod yX3_sacksAsOldAs, Cond.selects RX3 yX3_sacksAsOldAs yX3_sacksAsOldAs, Cond.code yX3_sacksAsOldAs cX3_sacksAsOldAs 4 (some .int), Cond.methodLink RL 119 yX4_soundShare, Cond.instanceMethod yX4_soundShare, Cond.selects RX4 yX4_soundShare yX4_soundShare, Cond.code yX4_soundShare cX4_soundShare 1 (some .float), Cond.constantFloat RX4 235 (1107296256), Cond.methodLink RL 134 yL_areReached, Cond.static yL_areReached, Cond.code yL_areReached cL_areReached 6 (some .boolean), Cond.methodLink RL 124 yX4_reach, Cond.instanceMethod yX4_reach, Cond.selects RX4 yX4_reach yX4_reach, Cond.code yX4_reach cX4_reach 6 (some .int), Cond.methodLink RL 127 yX4_reachAgain, Cond.instanceMethod yX4_reachAgain, Cond.selects RX4 yX4_reachAgain yX4_reachAgain, Cond.code yX4_reachAgain cX4_reachAgain 4 (some .int)]
def wsL_isFit_r8 : List Cond := [Cond.methodLink RL 98 yX4_sum, Cond.instanceMethod yX4_sum, Cond.selects RX4 yX4_sum yX4_sum, Cond.code yX4_sum cX4_sum 3 (some .int), Cond.methodLink RX4 132 yX3_sumByClimbing, Cond.instanceMethod yX3_sumByClimbing, Cond.selects RX3 yX3_sumByClimbing yX3_sumByClimbing, Cond.code yX3_sumByClimbing cX3_sumByClimbing 5 (some .int), Cond.methodLink RX3 60 yX3_sumOf, Cond.methodLink RL 137 yX4_isBalanced, Cond.instanceMethod yX4_isBalanced, Cond.selects RX4 yX4_isBalanced yX4_isBalanced, Cond.code yX4_isBalanced cX4_isBalanced 2 (some .int), Cond.methodLink RX4 135 yX3_sumByBays, Cond.methodLink RL 140 yL_isBay, Cond.static yL_isBay, Cond.code yL_isBay cL_isBay 11 (some .boolean), Cond.methodLink RL 84 yL_keeps, Cond.static yL_keeps, Cond.code yL_keeps cL_keeps 1 (some .int), Cond.methodLink RL 87 yX4_steps, Cond.instanceMethod yX4_steps, Cond.selects RX4 yX4_steps yX4_steps, Cond.code yX4_steps cX4_steps 5 (some .int)]
def wsL_isFit_r9 : List Cond := [Cond.methodLink RX4 142 yX4_stepsBelow, Cond.static yX4_stepsBelow, Cond.code yX4_stepsBelow cX4_stepsBelow 6 (some .int), Cond.methodLink RL 90 yX4_stepsAgain, Cond.instanceMethod yX4_stepsAgain, Cond.selects RX4 yX4_stepsAgain yX4_stepsAgain, Cond.code yX4_stepsAgain cX4_stepsAgain 3 (some .int), Cond.fieldLink RX4 54 "GranaryLadder" "stepsOfRungs" "[I", Cond.methodLink RX4 146 yX4_stepsByKnown, Cond.instanceMethod yX4_stepsByKnown, Cond.selects RX4 yX4_stepsByKnown yX4_stepsByKnown, Cond.code yX4_stepsByKnown cX4_stepsByKnown 2 (some .int), Cond.methodLink RX4 153 yX4_knownSteps, Cond.instanceMethod yX4_knownSteps, Cond.selects RX4 yX4_knownSteps yX4_knownSteps, Cond.code yX4_knownSteps cX4_knownSteps 6 (some .int), Cond.methodLink RX4 205 yX4_at, Cond.methodLink RX4 149 yX4_put, Cond.static yX4_put, Cond.code yX4_put cX4_put 3 none, Cond.methodLink RL 93 yJ6_bitCount_0f7a4, Cond.static yJ6_bitCount_0f7a4, Cond.initialized RJ6, Cond.code yJ6_bitCount_0f7a4 cJ6_bitCount_0f7a4 1 (some .int)]
def wsL_isFit_r10 : List Cond := [Cond.constant RJ6 265 (1431655765), Cond.constant RJ6 266 (858993459), Cond.constant RJ6 267 (252645135), Cond.methodLink RL 101 yX4_sumAgain, Cond.instanceMethod yX4_sumAgain, Cond.selects RX4 yX4_sumAgain yX4_sumAgain, Cond.code yX4_sumAgain cX4_sumAgain 3 (some .int), Cond.methodLink RL 144 yL_isRung, Cond.static yL_isRung, Cond.code yL_isRung cL_isRung 6 (some .boolean), Cond.methodLink RL 104 yX4_tellRung, Cond.instanceMethod yX4_tellRung, Cond.selects RX4 yX4_tellRung yX4_tellRung, Cond.code yX4_tellRung cX4_tellRung 2 (some .int), Cond.fieldLink RX4 43 "GranaryLadder" "line" "LGranaryLadder$Line;", Cond.methodLink RX4 198 yX1_becomeEmpty, Cond.instanceMethod yX1_becomeEmpty, Cond.selects RX1 yX1_becomeEmpty yX1_becomeEmpty, Cond.initialized RX1, Cond.code yX1_becomeEmpty cX1_becomeEmpty 1 none, Cond.fieldLink RX1 15 "GranaryLadder$Line" "length" "I", Cond.methodLink RX4 209 yX1_addNumber, Cond.instanceMethod yX1_addNumber, Cond.selects RX1 yX1_addNumber yX1_addNumber]
def wsL_isFit_r11 : List Cond := [Cond.code yX1_addNumber cX1_addNumber 3 none, Cond.methodLink RX1 23 yX1_addCode, Cond.instanceMethod yX1_addCode, Cond.selects RX1 yX1_addCode yX1_addCode, Cond.code yX1_addCode cX1_addCode 2 none, Cond.fieldLink RX1 9 "GranaryLadder$Line" "codes" "[I", Cond.methodLink RX4 199 yX1_addCode, Cond.methodLink RX4 212 yX1_size, Cond.instanceMethod yX1_size, Cond.selects RX1 yX1_size yX1_size, Cond.code yX1_size cX1_size 1 (some .int), Cond.methodLink RL 107 yX4_character, Cond.instanceMethod yX4_character, Cond.selects RX4 yX4_character yX4_character, Cond.code yX4_character cX4_character 2 (some .int), Cond.methodLink RX4 215 yX1_codeAt, Cond.instanceMethod yX1_codeAt, Cond.selects RX1 yX1_codeAt yX1_codeAt, Cond.code yX1_codeAt cX1_codeAt 2 (some .int), Cond.methodLink RL 147 yX4_meanSacks, Cond.instanceMethod yX4_meanSacks, Cond.selects RX4 yX4_meanSacks yX4_meanSacks, Cond.code yX4_meanSacks cX4_meanSacks 2 (some .double)]
def wsL_isFit : List Cond := .code yL_isFit cL_isFit 7 (some .boolean) :: ((wsL_isFit_r1 ++ (wsL_isFit_r2 ++ (wsL_isFit_r3 ++ (wsL_isFit_r4 ++ (wsL_isFit_r5 ++ (wsL_isFit_r6 ++ (wsL_isFit_r7 ++ (wsL_isFit_r8 ++ (wsL_isFit_r9 ++ (wsL_isFit_r10 ++ wsL_isFit_r11)))))))))) ++ wsX40 ++ wsX30 ++ wsX00 ++ wsX20 ++ wsX10)
def wsL_isBest_r1 : List Cond := [Cond.methodLink RL 151 yL_digest, Cond.static yL_digest, Cond.initialized RL, Cond.code yL_digest cL_digest 4 (some .long), Cond.constantLong RL 71 (7), Cond.constantLong RL 73 (31), Cond.methodLink RL 75 yX4_account, Cond.instanceMethod yX4_account, Cond.selects RX4 yX4_account yX4_account, Cond.initialized RX4, Cond.code yX4_account cX4_account 2 (some .int), Cond.fieldLink RX4 10 "GranaryLadder" "now" "LGranaryLadder$Wall;", Cond.fieldLink RX4 36 "GranaryLadder" "text" "LGranaryLadder$CommandText;", Cond.fieldLink RX4 29 "GranaryLadder" "past" "LGranaryLadder$Past;", Cond.methodLink RX4 218 yX3_filledBays, Cond.instanceMethod yX3_filledBays, Cond.selects RX3 yX3_filledBays yX3_filledBays, Cond.initialized RX3, Cond.code yX3_filledBays cX3_filledBays 3 (some .int), Cond.methodLink RX3 50 yX3_isEmpty, Cond.instanceMethod yX3_isEmpty, Cond.selects RX3 yX3_isEmpty yX3_isEmpty, Cond.code yX3_isEmpty cX3_isEmpty 2 (some .boolean), Cond.fieldLink RX3 15 "GranaryLadder$Wall" "sacks" "[I"]
def wsL_isBest_r2 : List Cond := [Cond.static yX4_at, Cond.code yX4_at cX4_at 2 (some .int), Cond.methodLink RX4 221 yX3_allSacks, Cond.instanceMethod yX3_allSacks, Cond.selects RX3 yX3_allSacks yX3_allSacks, Cond.code yX3_allSacks cX3_allSacks 1 (some .int), Cond.methodLink RX3 72 yX3_sumByBays, Cond.instanceMethod yX3_sumByBays, Cond.selects RX3 yX3_sumByBays yX3_sumByBays, Cond.code yX3_sumByBays cX3_sumByBays 5 (some .int), Cond.methodLink RX3 69 yX3_sacksIn, Cond.instanceMethod yX3_sacksIn, Cond.selects RX3 yX3_sacksIn yX3_sacksIn, Cond.code yX3_sacksIn cX3_sacksIn 2 (some .int), Cond.methodLink RX4 224 yX3_sacksOfKind, Cond.instanceMethod yX3_sacksOfKind, Cond.selects RX3 yX3_sacksOfKind yX3_sacksOfKind, Cond.code yX3_sacksOfKind cX3_sacksOfKind 4 (some .int), Cond.methodLink RX3 76 yX3_kindIn, Cond.instanceMethod yX3_kindIn, Cond.selects RX3 yX3_kindIn yX3_kindIn, Cond.code yX3_kindIn cX3_kindIn 2 (some .int), Cond.fieldLink RX3 9 "GranaryLadder$Wall" "kinds" "[I", Cond.methodLink RX4 227 yX3_crackedRungs]
def wsL_isBest_r3 : List Cond := [Cond.instanceMethod yX3_crackedRungs, Cond.selects RX3 yX3_crackedRungs yX3_crackedRungs, Cond.code yX3_crackedRungs cX3_crackedRungs 3 (some .int), Cond.methodLink RX3 57 yX3_isCracked, Cond.instanceMethod yX3_isCracked, Cond.selects RX3 yX3_isCracked yX3_isCracked, Cond.code yX3_isCracked cX3_isCracked 2 (some .boolean), Cond.fieldLink RX3 24 "GranaryLadder$Wall" "cracks" "[I", Cond.methodLink RX4 230 yX0_size, Cond.instanceMethod yX0_size, Cond.selects RX0 yX0_size yX0_size, Cond.initialized RX0, Cond.code yX0_size cX0_size 1 (some .int), Cond.fieldLink RX0 15 "GranaryLadder$CommandText" "length" "I", Cond.methodLink RX4 231 yX2_size, Cond.instanceMethod yX2_size, Cond.selects RX2 yX2_size yX2_size, Cond.initialized RX2, Cond.code yX2_size cX2_size 1 (some .int), Cond.fieldLink RX2 21 "GranaryLadder$Past" "kept" "I", Cond.methodLink RX4 138 yX4_isWithin, Cond.static yX4_isWithin, Cond.code yX4_isWithin cX4_isWithin 3 (some .boolean), Cond.methodLink RX4 232 yX3_counted]
def wsL_isBest_r4 : List Cond := [Cond.instanceMethod yX3_counted, Cond.selects RX3 yX3_counted yX3_counted, Cond.code yX3_counted cX3_counted 2 (some .int), Cond.fieldLink RX3 27 "GranaryLadder$Wall" "counters" "[I", Cond.methodLink RL 78 yX4_bayOf, Cond.instanceMethod yX4_bayOf, Cond.selects RX4 yX4_bayOf yX4_bayOf, Cond.code yX4_bayOf cX4_bayOf 3 (some .int), Cond.methodLink RX4 86 yX4_isBay, Cond.static yX4_isBay, Cond.code yX4_isBay cX4_isBay 1 (some .boolean), Cond.methodLink RX4 90 yX3_isEmpty, Cond.methodLink RX4 93 yX3_kindIn, Cond.methodLink RX4 96 yX3_sacksIn, Cond.methodLink RX4 99 yX3_ageIn, Cond.instanceMethod yX3_ageIn, Cond.selects RX3 yX3_ageIn yX3_ageIn, Cond.code yX3_ageIn cX3_ageIn 2 (some .int), Cond.fieldLink RX3 18 "GranaryLadder$Wall" "ages" "[I", Cond.methodLink RX4 102 yX3_spoilingAt, Cond.instanceMethod yX3_spoilingAt, Cond.selects RX3 yX3_spoilingAt yX3_spoilingAt, Cond.code yX3_spoilingAt cX3_spoilingAt 3 (some .int), Cond.methodLink RX4 105 yX3_rungsOver]
def wsL_isBest_r5 : List Cond := [Cond.instanceMethod yX3_rungsOver, Cond.selects RX3 yX3_rungsOver yX3_rungsOver, Cond.code yX3_rungsOver cX3_rungsOver 5 (some .int), Cond.static yX4_sizeOf, Cond.code yX4_sizeOf cX4_sizeOf 1 (some .int), Cond.methodLink RX4 108 yX3_crackedOver, Cond.instanceMethod yX3_crackedOver, Cond.selects RX3 yX3_crackedOver yX3_crackedOver, Cond.code yX3_crackedOver cX3_crackedOver 5 (some .int), Cond.methodLink RL 81 yX4_rungOf, Cond.instanceMethod yX4_rungOf, Cond.selects RX4 yX4_rungOf yX4_rungOf, Cond.code yX4_rungOf cX4_rungOf 3 (some .int), Cond.methodLink RX4 111 yX4_isRung, Cond.static yX4_isRung, Cond.code yX4_isRung cX4_isRung 1 (some .boolean), Cond.methodLink RX4 114 yX4_sizeOf, Cond.methodLink RX4 117 yX3_sumOf, Cond.instanceMethod yX3_sumOf, Cond.selects RX3 yX3_sumOf yX3_sumOf, Cond.code yX3_sumOf cX3_sumOf 2 (some .int), Cond.fieldLink RX3 21 "GranaryLadder$Wall" "sums" "[I", Cond.methodLink RX4 120 yX4_loadOf, Cond.static yX4_loadOf]
def wsL_isBest_r6 : List Cond := [Cond.code yX4_loadOf cX4_loadOf 1 (some .int), Cond.methodLink RX4 123 yX3_isCracked, Cond.methodLink RX4 126 yX4_firstBayOf, Cond.static yX4_firstBayOf, Cond.code yX4_firstBayOf cX4_firstBayOf 1 (some .int), Cond.methodLink RX4 129 yX4_rungsBelow, Cond.static yX4_rungsBelow, Cond.code yX4_rungsBelow cX4_rungsBelow 4 (some .int), Cond.methodLink RL 155 yX4_bestBay, Cond.instanceMethod yX4_bestBay, Cond.selects RX4 yX4_bestBay yX4_bestBay, Cond.code yX4_bestBay cX4_bestBay 6 (some .int), Cond.methodLink RX4 162 yX4_isKind, Cond.static yX4_isKind, Cond.code yX4_isKind cX4_isKind 1 (some .boolean), Cond.methodLink RX4 165 yX4_hasRoom, Cond.instanceMethod yX4_hasRoom, Cond.selects RX4 yX4_hasRoom yX4_hasRoom, Cond.code yX4_hasRoom cX4_hasRoom 4 (some .boolean), Cond.methodLink RX4 168 yX3_cracksUnder, Cond.instanceMethod yX3_cracksUnder, Cond.selects RX3 yX3_cracksUnder yX3_cracksUnder, Cond.code yX3_cracksUnder cX3_cracksUnder 5 (some .boolean), Cond.methodLink RX3 60 yX3_sumOf]
def wsL_isBest_r7 : List Cond := [Cond.methodLink RL 24 yX4_store, Cond.instanceMethod yX4_store, Cond.selects RX4 yX4_store yX4_store, Cond.code yX4_store cX4_store 4 (some .int), Cond.fieldLink RX4 16 "GranaryLadder" "before" "LGranaryLadder$Wall;", Cond.methodLink RX4 58 yX3_copyFrom, Cond.instanceMethod yX3_copyFrom, Cond.selects RX3 yX3_copyFrom yX3_copyFrom, Cond.code yX3_copyFrom cX3_copyFrom 2 none, Cond.static yX4_copyRow, Cond.code yX4_copyRow cX4_copyRow 3 none, Cond.methodLink RX4 62 yX4_storeSacks, Cond.instanceMethod yX4_storeSacks, Cond.selects RX4 yX4_storeSacks yX4_storeSacks, Cond.code yX4_storeSacks cX4_storeSacks 4 (some .int), Cond.methodLink RX4 242 yX4_refuseRoom, Cond.instanceMethod yX4_refuseRoom, Cond.selects RX4 yX4_refuseRoom yX4_refuseRoom, Cond.code yX4_refuseRoom cX4_refuseRoom 4 (some .int), Cond.methodLink RX4 195 yX4_refuse, Cond.instanceMethod yX4_refuse, Cond.selects RX4 yX4_refuse yX4_refuse, Cond.code yX4_refuse cX4_refuse 3 (some .int), Cond.fieldLink RX4 47 "GranaryLadder" "latestReason" "I"]
def wsL_isBest_r8 : List Cond := [Cond.fieldLink RX4 51 "GranaryLadder" "latestDetail" "I", Cond.methodLink RX4 245 yX3_count, Cond.instanceMethod yX3_count, Cond.selects RX3 yX3_count yX3_count, Cond.code yX3_count cX3_count 3 none, Cond.static yX4_put, Cond.code yX4_put cX4_put 3 none, Cond.methodLink RX4 249 yX3_bring, Cond.instanceMethod yX3_bring, Cond.selects RX3 yX3_bring yX3_bring, Cond.code yX3_bring cX3_bring 5 (some .int), Cond.methodLink RX3 42 yX3_changeSacks, Cond.instanceMethod yX3_changeSacks, Cond.selects RX3 yX3_changeSacks yX3_changeSacks, Cond.code yX3_changeSacks cX3_changeSacks 5 none, Cond.methodLink RX3 46 yX3_crackOver, Cond.instanceMethod yX3_crackOver, Cond.selects RX3 yX3_crackOver yX3_crackOver, Cond.code yX3_crackOver cX3_crackOver 5 (some .int), Cond.methodLink RX3 66 yX3_count, Cond.methodLink RX4 66 yX4_remember, Cond.instanceMethod yX4_remember, Cond.selects RX4 yX4_remember yX4_remember, Cond.code yX4_remember cX4_remember 2 (some .int)]
def wsL_isBest_r9 : List Cond := [Cond.methodLink RX4 285 yX2_keep, Cond.instanceMethod yX2_keep, Cond.selects RX2 yX2_keep yX2_keep, Cond.code yX2_keep cX2_keep 2 none, Cond.fieldLink RX2 17 "GranaryLadder$Past" "next" "I", Cond.fieldLink RX2 11 "GranaryLadder$Past" "walls" "[LGranaryLadder$Wall;", Cond.methodLink RX2 29 Lib.Math.min.name, Cond.static Lib.Math.min.name, Cond.initialized "java/lang/Math", Cond.code Lib.Math.min.name Lib.Math.min.code 2 (some .int), Cond.methodLink RX2 25 yX3_copyFrom, Cond.methodLink RL 158 yL_isFit, Cond.static yL_isFit, Cond.code yL_isFit cL_isFit 7 (some .boolean), Cond.methodLink RL 130 yL_areRanks, Cond.static yL_areRanks, Cond.code yL_areRanks cL_areRanks 8 (some .boolean), Cond.constantFloat RL 123 (1107296256), Cond.methodLink RL 110 yX4_oldest, Cond.instanceMethod yX4_oldest, Cond.selects RX4 yX4_oldest yX4_oldest, Cond.code yX4_oldest cX4_oldest 3 (some .int), Cond.methodLink RX4 156 yX3_placeOf, Cond.instanceMethod yX3_placeOf]
def wsL_isBest_r10 : List Cond := [Cond.selects RX3 yX3_placeOf yX3_placeOf, Cond.code yX3_placeOf cX3_placeOf 4 (some .int), Cond.methodLink RX3 82 yX3_isAhead, Cond.instanceMethod yX3_isAhead, Cond.selects RX3 yX3_isAhead yX3_isAhead, Cond.code yX3_isAhead cX3_isAhead 3 (some .boolean), Cond.methodLink RX3 79 yX3_ageIn, Cond.methodLink RL 113 yX4_tightest, Cond.instanceMethod yX4_tightest, Cond.selects RX4 yX4_tightest yX4_tightest, Cond.code yX4_tightest cX4_tightest 5 (some .int), Cond.methodLink RL 116 yX4_commonAge, Cond.instanceMethod yX4_commonAge, Cond.selects RX4 yX4_commonAge yX4_commonAge, Cond.code yX4_commonAge cX4_commonAge 6 (some .int), Cond.methodLink RX4 159 yX3_sacksAsOldAs, Cond.instanceMethod yX3_sacksAsOldAs, Cond.selects RX3 yX3_sacksAsOldAs yX3_sacksAsOldAs, Cond.code yX3_sacksAsOldAs cX3_sacksAsOldAs 4 (some .int), Cond.methodLink RL 119 yX4_soundShare, Cond.instanceMethod yX4_soundShare, Cond.selects RX4 yX4_soundShare yX4_soundShare, Cond.code yX4_soundShare cX4_soundShare 1 (some .float), Cond.constantFloat RX4 235 (1107296256)]
def wsL_isBest_r11 : List Cond := [Cond.methodLink RL 134 yL_areReached, Cond.static yL_areReached, Cond.code yL_areReached cL_areReached 6 (some .boolean), Cond.methodLink RL 124 yX4_reach, Cond.instanceMethod yX4_reach, Cond.selects RX4 yX4_reach yX4_reach, Cond.code yX4_reach cX4_reach 6 (some .int), Cond.methodLink RL 127 yX4_reachAgain, Cond.instanceMethod yX4_reachAgain, Cond.selects RX4 yX4_reachAgain yX4_reachAgain, Cond.code yX4_reachAgain cX4_reachAgain 4 (some .int), Cond.methodLink RL 98 yX4_sum, Cond.instanceMethod yX4_sum, Cond.selects RX4 yX4_sum yX4_sum, Cond.code yX4_sum cX4_sum 3 (some .int), Cond.methodLink RX4 132 yX3_sumByClimbing, Cond.instanceMethod yX3_sumByClimbing, Cond.selects RX3 yX3_sumByClimbing yX3_sumByClimbing, Cond.code yX3_sumByClimbing cX3_sumByClimbing 5 (some .int), Cond.methodLink RL 137 yX4_isBalanced, Cond.instanceMethod yX4_isBalanced, Cond.selects RX4 yX4_isBalanced yX4_isBalanced, Cond.code yX4_isBalanced cX4_isBalanced 2 (some .int), Cond.methodLink RX4 135 yX3_sumByBays]
def wsL_isBest_r12 : List Cond := [Cond.methodLink RL 140 yL_isBay, Cond.static yL_isBay, Cond.code yL_isBay cL_isBay 11 (some .boolean), Cond.methodLink RL 84 yL_keeps, Cond.static yL_keeps, Cond.code yL_keeps cL_keeps 1 (some .int), Cond.methodLink RL 87 yX4_steps, Cond.instanceMethod yX4_steps, Cond.selects RX4 yX4_steps yX4_steps, Cond.code yX4_steps cX4_steps 5 (some .int), Cond.methodLink RX4 142 yX4_stepsBelow, Cond.static yX4_stepsBelow, Cond.code yX4_stepsBelow cX4_stepsBelow 6 (some .int), Cond.methodLink RL 90 yX4_stepsAgain, Cond.instanceMethod yX4_stepsAgain, Cond.selects RX4 yX4_stepsAgain yX4_stepsAgain, Cond.code yX4_stepsAgain cX4_stepsAgain 3 (some .int), Cond.fieldLink RX4 54 "GranaryLadder" "stepsOfRungs" "[I", Cond.methodLink RX4 146 yX4_stepsByKnown, Cond.instanceMethod yX4_stepsByKnown, Cond.selects RX4 yX4_stepsByKnown yX4_stepsByKnown, Cond.code yX4_stepsByKnown cX4_stepsByKnown 2 (some .int), Cond.methodLink RX4 153 yX4_knownSteps, Cond.instanceMethod yX4_knownSteps]
def wsL_isBest_r13 : List Cond := [Cond.selects RX4 yX4_knownSteps yX4_knownSteps, Cond.code yX4_knownSteps cX4_knownSteps 6 (some .int), Cond.methodLink RX4 205 yX4_at, Cond.methodLink RX4 149 yX4_put, Cond.methodLink RL 93 yJ6_bitCount_0f7a4, Cond.static yJ6_bitCount_0f7a4, Cond.initialized RJ6, Cond.code yJ6_bitCount_0f7a4 cJ6_bitCount_0f7a4 1 (some .int), Cond.constant RJ6 265 (1431655765), Cond.constant RJ6 266 (858993459), Cond.constant RJ6 267 (252645135), Cond.methodLink RL 101 yX4_sumAgain, Cond.instanceMethod yX4_sumAgain, Cond.selects RX4 yX4_sumAgain yX4_sumAgain, Cond.code yX4_sumAgain cX4_sumAgain 3 (some .int), Cond.methodLink RL 144 yL_isRung, Cond.static yL_isRung, Cond.code yL_isRung cL_isRung 6 (some .boolean), Cond.methodLink RL 104 yX4_tellRung, Cond.instanceMethod yX4_tellRung, Cond.selects RX4 yX4_tellRung yX4_tellRung, Cond.code yX4_tellRung cX4_tellRung 2 (some .int), Cond.fieldLink RX4 43 "GranaryLadder" "line" "LGranaryLadder$Line;", Cond.methodLink RX4 198 yX1_becomeEmpty]
def wsL_isBest_r14 : List Cond := [Cond.instanceMethod yX1_becomeEmpty, Cond.selects RX1 yX1_becomeEmpty yX1_becomeEmpty, Cond.initialized RX1, Cond.code yX1_becomeEmpty cX1_becomeEmpty 1 none, Cond.fieldLink RX1 15 "GranaryLadder$Line" "length" "I", Cond.methodLink RX4 209 yX1_addNumber, Cond.instanceMethod yX1_addNumber, Cond.selects RX1 yX1_addNumber yX1_addNumber, Cond.code yX1_addNumber cX1_addNumber 3 none, Cond.methodLink RX1 23 yX1_addCode, Cond.instanceMethod yX1_addCode, Cond.selects RX1 yX1_addCode yX1_addCode, Cond.code yX1_addCode cX1_addCode 2 none, Cond.fieldLink RX1 9 "GranaryLadder$Line" "codes" "[I", Cond.methodLink RX4 199 yX1_addCode, Cond.methodLink RX4 212 yX1_size, Cond.instanceMethod yX1_size, Cond.selects RX1 yX1_size yX1_size, Cond.code yX1_size cX1_size 1 (some .int), Cond.methodLink RL 107 yX4_character, Cond.instanceMethod yX4_character, Cond.selects RX4 yX4_character yX4_character, Cond.code yX4_character cX4_character 2 (some .int), Cond.methodLink RX4 215 yX1_codeAt]
def wsL_isBest_r15 : List Cond := [Cond.instanceMethod yX1_codeAt, Cond.selects RX1 yX1_codeAt yX1_codeAt, Cond.code yX1_codeAt cX1_codeAt 2 (some .int), Cond.methodLink RL 147 yX4_meanSacks, Cond.instanceMethod yX4_meanSacks, Cond.selects RX4 yX4_meanSacks yX4_meanSacks, Cond.code yX4_meanSacks cX4_meanSacks 2 (some .double), Cond.methodLink RL 68 yX4_undo, Cond.instanceMethod yX4_undo, Cond.selects RX4 yX4_undo yX4_undo, Cond.code yX4_undo cX4_undo 1 (some .int), Cond.methodLink RX4 236 yX2_giveBack, Cond.instanceMethod yX2_giveBack, Cond.selects RX2 yX2_giveBack yX2_giveBack, Cond.code yX2_giveBack cX2_giveBack 2 none, Cond.methodLink RX2 35 Lib.Math.max.name, Cond.static Lib.Math.max.name, Cond.code Lib.Math.max.name Lib.Math.max.code 2 (some .int)]
def wsL_isBest : List Cond := .code yL_isBest cL_isBest 8 (some .boolean) :: ((wsL_isBest_r1 ++ (wsL_isBest_r2 ++ (wsL_isBest_r3 ++ (wsL_isBest_r4 ++ (wsL_isBest_r5 ++ (wsL_isBest_r6 ++ (wsL_isBest_r7 ++ (wsL_isBest_r8 ++ (wsL_isBest_r9 ++ (wsL_isBest_r10 ++ (wsL_isBest_r11 ++ (wsL_isBest_r12 ++ (wsL_isBest_r13 ++ (wsL_isBest_r14 ++ wsL_isBest_r15)))))))))))))) ++ wsX40 ++ wsX30 ++ wsX00 ++ wsX20 ++ wsX10)
def wsL_isSold_r1 : List Cond := [Cond.methodLink RL 151 yL_digest, Cond.static yL_digest, Cond.initialized RL, Cond.code yL_digest cL_digest 4 (some .long), Cond.constantLong RL 71 (7), Cond.constantLong RL 73 (31), Cond.methodLink RL 75 yX4_account, Cond.instanceMethod yX4_account, Cond.selects RX4 yX4_account yX4_account, Cond.initialized RX4, Cond.code yX4_account cX4_account 2 (some .int), Cond.fieldLink RX4 10 "GranaryLadder" "now" "LGranaryLadder$Wall;", Cond.fieldLink RX4 36 "GranaryLadder" "text" "LGranaryLadder$CommandText;", Cond.fieldLink RX4 29 "GranaryLadder" "past" "LGranaryLadder$Past;", Cond.methodLink RX4 218 yX3_filledBays, Cond.instanceMethod yX3_filledBays, Cond.selects RX3 yX3_filledBays yX3_filledBays, Cond.initialized RX3, Cond.code yX3_filledBays cX3_filledBays 3 (some .int), Cond.methodLink RX3 50 yX3_isEmpty, Cond.instanceMethod yX3_isEmpty, Cond.selects RX3 yX3_isEmpty yX3_isEmpty, Cond.code yX3_isEmpty cX3_isEmpty 2 (some .boolean), Cond.fieldLink RX3 15 "GranaryLadder$Wall" "sacks" "[I"]
def wsL_isSold_r2 : List Cond := [Cond.static yX4_at, Cond.code yX4_at cX4_at 2 (some .int), Cond.methodLink RX4 221 yX3_allSacks, Cond.instanceMethod yX3_allSacks, Cond.selects RX3 yX3_allSacks yX3_allSacks, Cond.code yX3_allSacks cX3_allSacks 1 (some .int), Cond.methodLink RX3 72 yX3_sumByBays, Cond.instanceMethod yX3_sumByBays, Cond.selects RX3 yX3_sumByBays yX3_sumByBays, Cond.code yX3_sumByBays cX3_sumByBays 5 (some .int), Cond.methodLink RX3 69 yX3_sacksIn, Cond.instanceMethod yX3_sacksIn, Cond.selects RX3 yX3_sacksIn yX3_sacksIn, Cond.code yX3_sacksIn cX3_sacksIn 2 (some .int), Cond.methodLink RX4 224 yX3_sacksOfKind, Cond.instanceMethod yX3_sacksOfKind, Cond.selects RX3 yX3_sacksOfKind yX3_sacksOfKind, Cond.code yX3_sacksOfKind cX3_sacksOfKind 4 (some .int), Cond.methodLink RX3 76 yX3_kindIn, Cond.instanceMethod yX3_kindIn, Cond.selects RX3 yX3_kindIn yX3_kindIn, Cond.code yX3_kindIn cX3_kindIn 2 (some .int), Cond.fieldLink RX3 9 "GranaryLadder$Wall" "kinds" "[I", Cond.methodLink RX4 227 yX3_crackedRungs]
def wsL_isSold_r3 : List Cond := [Cond.instanceMethod yX3_crackedRungs, Cond.selects RX3 yX3_crackedRungs yX3_crackedRungs, Cond.code yX3_crackedRungs cX3_crackedRungs 3 (some .int), Cond.methodLink RX3 57 yX3_isCracked, Cond.instanceMethod yX3_isCracked, Cond.selects RX3 yX3_isCracked yX3_isCracked, Cond.code yX3_isCracked cX3_isCracked 2 (some .boolean), Cond.fieldLink RX3 24 "GranaryLadder$Wall" "cracks" "[I", Cond.methodLink RX4 230 yX0_size, Cond.instanceMethod yX0_size, Cond.selects RX0 yX0_size yX0_size, Cond.initialized RX0, Cond.code yX0_size cX0_size 1 (some .int), Cond.fieldLink RX0 15 "GranaryLadder$CommandText" "length" "I", Cond.methodLink RX4 231 yX2_size, Cond.instanceMethod yX2_size, Cond.selects RX2 yX2_size yX2_size, Cond.initialized RX2, Cond.code yX2_size cX2_size 1 (some .int), Cond.fieldLink RX2 21 "GranaryLadder$Past" "kept" "I", Cond.methodLink RX4 138 yX4_isWithin, Cond.static yX4_isWithin, Cond.code yX4_isWithin cX4_isWithin 3 (some .boolean), Cond.methodLink RX4 232 yX3_counted]
def wsL_isSold_r4 : List Cond := [Cond.instanceMethod yX3_counted, Cond.selects RX3 yX3_counted yX3_counted, Cond.code yX3_counted cX3_counted 2 (some .int), Cond.fieldLink RX3 27 "GranaryLadder$Wall" "counters" "[I", Cond.methodLink RL 78 yX4_bayOf, Cond.instanceMethod yX4_bayOf, Cond.selects RX4 yX4_bayOf yX4_bayOf, Cond.code yX4_bayOf cX4_bayOf 3 (some .int), Cond.methodLink RX4 86 yX4_isBay, Cond.static yX4_isBay, Cond.code yX4_isBay cX4_isBay 1 (some .boolean), Cond.methodLink RX4 90 yX3_isEmpty, Cond.methodLink RX4 93 yX3_kindIn, Cond.methodLink RX4 96 yX3_sacksIn, Cond.methodLink RX4 99 yX3_ageIn, Cond.instanceMethod yX3_ageIn, Cond.selects RX3 yX3_ageIn yX3_ageIn, Cond.code yX3_ageIn cX3_ageIn 2 (some .int), Cond.fieldLink RX3 18 "GranaryLadder$Wall" "ages" "[I", Cond.methodLink RX4 102 yX3_spoilingAt, Cond.instanceMethod yX3_spoilingAt, Cond.selects RX3 yX3_spoilingAt yX3_spoilingAt, Cond.code yX3_spoilingAt cX3_spoilingAt 3 (some .int), Cond.methodLink RX4 105 yX3_rungsOver]
def wsL_isSold_r5 : List Cond := [Cond.instanceMethod yX3_rungsOver, Cond.selects RX3 yX3_rungsOver yX3_rungsOver, Cond.code yX3_rungsOver cX3_rungsOver 5 (some .int), Cond.static yX4_sizeOf, Cond.code yX4_sizeOf cX4_sizeOf 1 (some .int), Cond.methodLink RX4 108 yX3_crackedOver, Cond.instanceMethod yX3_crackedOver, Cond.selects RX3 yX3_crackedOver yX3_crackedOver, Cond.code yX3_crackedOver cX3_crackedOver 5 (some .int), Cond.methodLink RL 81 yX4_rungOf, Cond.instanceMethod yX4_rungOf, Cond.selects RX4 yX4_rungOf yX4_rungOf, Cond.code yX4_rungOf cX4_rungOf 3 (some .int), Cond.methodLink RX4 111 yX4_isRung, Cond.static yX4_isRung, Cond.code yX4_isRung cX4_isRung 1 (some .boolean), Cond.methodLink RX4 114 yX4_sizeOf, Cond.methodLink RX4 117 yX3_sumOf, Cond.instanceMethod yX3_sumOf, Cond.selects RX3 yX3_sumOf yX3_sumOf, Cond.code yX3_sumOf cX3_sumOf 2 (some .int), Cond.fieldLink RX3 21 "GranaryLadder$Wall" "sums" "[I", Cond.methodLink RX4 120 yX4_loadOf, Cond.static yX4_loadOf]
def wsL_isSold_r6 : List Cond := [Cond.code yX4_loadOf cX4_loadOf 1 (some .int), Cond.methodLink RX4 123 yX3_isCracked, Cond.methodLink RX4 126 yX4_firstBayOf, Cond.static yX4_firstBayOf, Cond.code yX4_firstBayOf cX4_firstBayOf 1 (some .int), Cond.methodLink RX4 129 yX4_rungsBelow, Cond.static yX4_rungsBelow, Cond.code yX4_rungsBelow cX4_rungsBelow 4 (some .int), Cond.methodLink RL 35 yX4_order, Cond.instanceMethod yX4_order, Cond.selects RX4 yX4_order yX4_order, Cond.code yX4_order cX4_order 3 (some .int), Cond.fieldLink RX4 16 "GranaryLadder" "before" "LGranaryLadder$Wall;", Cond.methodLink RX4 58 yX3_copyFrom, Cond.instanceMethod yX3_copyFrom, Cond.selects RX3 yX3_copyFrom yX3_copyFrom, Cond.code yX3_copyFrom cX3_copyFrom 2 none, Cond.static yX4_copyRow, Cond.code yX4_copyRow cX4_copyRow 3 none, Cond.methodLink RX4 77 yX4_fillOrder, Cond.instanceMethod yX4_fillOrder, Cond.selects RX4 yX4_fillOrder yX4_fillOrder, Cond.code yX4_fillOrder cX4_fillOrder 8 (some .int), Cond.methodLink RX4 270 Lib.Math.min.name]
def wsL_isSold_r7 : List Cond := [Cond.static Lib.Math.min.name, Cond.initialized "java/lang/Math", Cond.code Lib.Math.min.name Lib.Math.min.code 2 (some .int), Cond.methodLink RX4 162 yX4_isKind, Cond.static yX4_isKind, Cond.code yX4_isKind cX4_isKind 1 (some .boolean), Cond.methodLink RX4 195 yX4_refuse, Cond.instanceMethod yX4_refuse, Cond.selects RX4 yX4_refuse yX4_refuse, Cond.code yX4_refuse cX4_refuse 3 (some .int), Cond.fieldLink RX4 47 "GranaryLadder" "latestReason" "I", Cond.fieldLink RX4 51 "GranaryLadder" "latestDetail" "I", Cond.methodLink RX4 267 yX3_oldestOfKind, Cond.instanceMethod yX3_oldestOfKind, Cond.selects RX3 yX3_oldestOfKind yX3_oldestOfKind, Cond.code yX3_oldestOfKind cX3_oldestOfKind 4 (some .int), Cond.methodLink RX3 79 yX3_ageIn, Cond.methodLink RX4 259 yX3_remove, Cond.instanceMethod yX3_remove, Cond.selects RX3 yX3_remove yX3_remove, Cond.code yX3_remove cX3_remove 3 none, Cond.methodLink RX3 42 yX3_changeSacks, Cond.instanceMethod yX3_changeSacks, Cond.selects RX3 yX3_changeSacks yX3_changeSacks]
def wsL_isSold_r8 : List Cond := [Cond.code yX3_changeSacks cX3_changeSacks 5 none, Cond.static yX4_put, Cond.code yX4_put cX4_put 3 none, Cond.methodLink RX4 245 yX3_count, Cond.instanceMethod yX3_count, Cond.selects RX3 yX3_count yX3_count, Cond.code yX3_count cX3_count 3 none, Cond.methodLink RX4 172 yX4_coinsFor, Cond.static yX4_coinsFor, Cond.code yX4_coinsFor cX4_coinsFor 2 (some .int), Cond.methodLink RX4 66 yX4_remember, Cond.instanceMethod yX4_remember, Cond.selects RX4 yX4_remember yX4_remember, Cond.code yX4_remember cX4_remember 2 (some .int), Cond.methodLink RX4 285 yX2_keep, Cond.instanceMethod yX2_keep, Cond.selects RX2 yX2_keep yX2_keep, Cond.code yX2_keep cX2_keep 2 none, Cond.fieldLink RX2 17 "GranaryLadder$Past" "next" "I", Cond.fieldLink RX2 11 "GranaryLadder$Past" "walls" "[LGranaryLadder$Wall;", Cond.methodLink RX2 29 Lib.Math.min.name, Cond.methodLink RX2 25 yX3_copyFrom, Cond.methodLink RL 161 yX4_reason, Cond.instanceMethod yX4_reason]
def wsL_isSold_r9 : List Cond := [Cond.selects RX4 yX4_reason yX4_reason, Cond.code yX4_reason cX4_reason 2 (some .int), Cond.methodLink RL 165 yX4_price, Cond.instanceMethod yX4_price, Cond.selects RX4 yX4_price yX4_price, Cond.code yX4_price cX4_price 3 (some .int), Cond.methodLink RL 158 yL_isFit, Cond.static yL_isFit, Cond.code yL_isFit cL_isFit 7 (some .boolean), Cond.methodLink RL 130 yL_areRanks, Cond.static yL_areRanks, Cond.code yL_areRanks cL_areRanks 8 (some .boolean), Cond.constantFloat RL 123 (1107296256), Cond.methodLink RL 110 yX4_oldest, Cond.instanceMethod yX4_oldest, Cond.selects RX4 yX4_oldest yX4_oldest, Cond.code yX4_oldest cX4_oldest 3 (some .int), Cond.methodLink RX4 156 yX3_placeOf, Cond.instanceMethod yX3_placeOf, Cond.selects RX3 yX3_placeOf yX3_placeOf, Cond.code yX3_placeOf cX3_placeOf 4 (some .int), Cond.methodLink RX3 82 yX3_isAhead, Cond.instanceMethod yX3_isAhead, Cond.selects RX3 yX3_isAhead yX3_isAhead]
def wsL_isSold_r10 : List Cond := [Cond.code yX3_isAhead cX3_isAhead 3 (some .boolean), Cond.methodLink RL 113 yX4_tightest, Cond.instanceMethod yX4_tightest, Cond.selects RX4 yX4_tightest yX4_tightest, Cond.code yX4_tightest cX4_tightest 5 (some .int), Cond.methodLink RL 116 yX4_commonAge, Cond.instanceMethod yX4_commonAge, Cond.selects RX4 yX4_commonAge yX4_commonAge, Cond.code yX4_commonAge cX4_commonAge 6 (some .int), Cond.methodLink RX4 159 yX3_sacksAsOldAs, Cond.instanceMethod yX3_sacksAsOldAs, Cond.selects RX3 yX3_sacksAsOldAs yX3_sacksAsOldAs, Cond.code yX3_sacksAsOldAs cX3_sacksAsOldAs 4 (some .int), Cond.methodLink RL 119 yX4_soundShare, Cond.instanceMethod yX4_soundShare, Cond.selects RX4 yX4_soundShare yX4_soundShare, Cond.code yX4_soundShare cX4_soundShare 1 (some .float), Cond.constantFloat RX4 235 (1107296256), Cond.methodLink RL 134 yL_areReached, Cond.static yL_areReached, Cond.code yL_areReached cL_areReached 6 (some .boolean), Cond.methodLink RL 124 yX4_reach, Cond.instanceMethod yX4_reach, Cond.selects RX4 yX4_reach yX4_reach]
def wsL_isSold_r11 : List Cond := [Cond.code yX4_reach cX4_reach 6 (some .int), Cond.methodLink RL 127 yX4_reachAgain, Cond.instanceMethod yX4_reachAgain, Cond.selects RX4 yX4_reachAgain yX4_reachAgain, Cond.code yX4_reachAgain cX4_reachAgain 4 (some .int), Cond.methodLink RL 98 yX4_sum, Cond.instanceMethod yX4_sum, Cond.selects RX4 yX4_sum yX4_sum, Cond.code yX4_sum cX4_sum 3 (some .int), Cond.methodLink RX4 132 yX3_sumByClimbing, Cond.instanceMethod yX3_sumByClimbing, Cond.selects RX3 yX3_sumByClimbing yX3_sumByClimbing, Cond.code yX3_sumByClimbing cX3_sumByClimbing 5 (some .int), Cond.methodLink RX3 60 yX3_sumOf, Cond.methodLink RL 137 yX4_isBalanced, Cond.instanceMethod yX4_isBalanced, Cond.selects RX4 yX4_isBalanced yX4_isBalanced, Cond.code yX4_isBalanced cX4_isBalanced 2 (some .int), Cond.methodLink RX4 135 yX3_sumByBays, Cond.methodLink RL 140 yL_isBay, Cond.static yL_isBay, Cond.code yL_isBay cL_isBay 11 (some .boolean), Cond.methodLink RL 84 yL_keeps, Cond.static yL_keeps]
def wsL_isSold_r12 : List Cond := [Cond.code yL_keeps cL_keeps 1 (some .int), Cond.methodLink RL 87 yX4_steps, Cond.instanceMethod yX4_steps, Cond.selects RX4 yX4_steps yX4_steps, Cond.code yX4_steps cX4_steps 5 (some .int), Cond.methodLink RX4 142 yX4_stepsBelow, Cond.static yX4_stepsBelow, Cond.code yX4_stepsBelow cX4_stepsBelow 6 (some .int), Cond.methodLink RL 90 yX4_stepsAgain, Cond.instanceMethod yX4_stepsAgain, Cond.selects RX4 yX4_stepsAgain yX4_stepsAgain, Cond.code yX4_stepsAgain cX4_stepsAgain 3 (some .int), Cond.fieldLink RX4 54 "GranaryLadder" "stepsOfRungs" "[I", Cond.methodLink RX4 146 yX4_stepsByKnown, Cond.instanceMethod yX4_stepsByKnown, Cond.selects RX4 yX4_stepsByKnown yX4_stepsByKnown, Cond.code yX4_stepsByKnown cX4_stepsByKnown 2 (some .int), Cond.methodLink RX4 153 yX4_knownSteps, Cond.instanceMethod yX4_knownSteps, Cond.selects RX4 yX4_knownSteps yX4_knownSteps, Cond.code yX4_knownSteps cX4_knownSteps 6 (some .int), Cond.methodLink RX4 205 yX4_at, Cond.methodLink RX4 149 yX4_put, Cond.methodLink RL 93 yJ6_bitCount_0f7a4]
def wsL_isSold_r13 : List Cond := [Cond.static yJ6_bitCount_0f7a4, Cond.initialized RJ6, Cond.code yJ6_bitCount_0f7a4 cJ6_bitCount_0f7a4 1 (some .int), Cond.constant RJ6 265 (1431655765), Cond.constant RJ6 266 (858993459), Cond.constant RJ6 267 (252645135), Cond.methodLink RL 101 yX4_sumAgain, Cond.instanceMethod yX4_sumAgain, Cond.selects RX4 yX4_sumAgain yX4_sumAgain, Cond.code yX4_sumAgain cX4_sumAgain 3 (some .int), Cond.methodLink RL 144 yL_isRung, Cond.static yL_isRung, Cond.code yL_isRung cL_isRung 6 (some .boolean), Cond.methodLink RL 104 yX4_tellRung, Cond.instanceMethod yX4_tellRung, Cond.selects RX4 yX4_tellRung yX4_tellRung, Cond.code yX4_tellRung cX4_tellRung 2 (some .int), Cond.fieldLink RX4 43 "GranaryLadder" "line" "LGranaryLadder$Line;", Cond.methodLink RX4 198 yX1_becomeEmpty, Cond.instanceMethod yX1_becomeEmpty, Cond.selects RX1 yX1_becomeEmpty yX1_becomeEmpty, Cond.initialized RX1, Cond.code yX1_becomeEmpty cX1_becomeEmpty 1 none, Cond.fieldLink RX1 15 "GranaryLadder$Line" "length" "I"]
def wsL_isSold_r14 : List Cond := [Cond.methodLink RX4 209 yX1_addNumber, Cond.instanceMethod yX1_addNumber, Cond.selects RX1 yX1_addNumber yX1_addNumber, Cond.code yX1_addNumber cX1_addNumber 3 none, Cond.methodLink RX1 23 yX1_addCode, Cond.instanceMethod yX1_addCode, Cond.selects RX1 yX1_addCode yX1_addCode, Cond.code yX1_addCode cX1_addCode 2 none, Cond.fieldLink RX1 9 "GranaryLadder$Line" "codes" "[I", Cond.methodLink RX4 199 yX1_addCode, Cond.methodLink RX4 212 yX1_size, Cond.instanceMethod yX1_size, Cond.selects RX1 yX1_size yX1_size, Cond.code yX1_size cX1_size 1 (some .int), Cond.methodLink RL 107 yX4_character, Cond.instanceMethod yX4_character, Cond.selects RX4 yX4_character yX4_character, Cond.code yX4_character cX4_character 2 (some .int), Cond.methodLink RX4 215 yX1_codeAt, Cond.instanceMethod yX1_codeAt, Cond.selects RX1 yX1_codeAt yX1_codeAt, Cond.code yX1_codeAt cX1_codeAt 2 (some .int), Cond.methodLink RL 147 yX4_meanSacks, Cond.instanceMethod yX4_meanSacks]
def wsL_isSold_r15 : List Cond := [Cond.selects RX4 yX4_meanSacks yX4_meanSacks, Cond.code yX4_meanSacks cX4_meanSacks 2 (some .double), Cond.methodLink RL 68 yX4_undo, Cond.instanceMethod yX4_undo, Cond.selects RX4 yX4_undo yX4_undo, Cond.code yX4_undo cX4_undo 1 (some .int), Cond.methodLink RX4 236 yX2_giveBack, Cond.instanceMethod yX2_giveBack, Cond.selects RX2 yX2_giveBack yX2_giveBack, Cond.code yX2_giveBack cX2_giveBack 2 none, Cond.methodLink RX2 35 Lib.Math.max.name, Cond.static Lib.Math.max.name, Cond.code Lib.Math.max.name Lib.Math.max.code 2 (some .int)]
def wsL_isSold : List Cond := .code yL_isSold cL_isSold 9 (some .boolean) :: ((wsL_isSold_r1 ++ (wsL_isSold_r2 ++ (wsL_isSold_r3 ++ (wsL_isSold_r4 ++ (wsL_isSold_r5 ++ (wsL_isSold_r6 ++ (wsL_isSold_r7 ++ (wsL_isSold_r8 ++ (wsL_isSold_r9 ++ (wsL_isSold_r10 ++ (wsL_isSold_r11 ++ (wsL_isSold_r12 ++ (wsL_isSold_r13 ++ (wsL_isSold_r14 ++ wsL_isSold_r15)))))))))))))) ++ wsX40 ++ wsX30 ++ wsX00 ++ wsX20 ++ wsX10)
def wsL_isPassed_r1 : List Cond := [Cond.methodLink RL 151 yL_digest, Cond.static yL_digest, Cond.initialized RL, Cond.code yL_digest cL_digest 4 (some .long), Cond.constantLong RL 71 (7), Cond.constantLong RL 73 (31), Cond.methodLink RL 75 yX4_account, Cond.instanceMethod yX4_account, Cond.selects RX4 yX4_account yX4_account, Cond.initialized RX4, Cond.code yX4_account cX4_account 2 (some .int), Cond.fieldLink RX4 10 "GranaryLadder" "now" "LGranaryLadder$Wall;", Cond.fieldLink RX4 36 "GranaryLadder" "text" "LGranaryLadder$CommandText;", Cond.fieldLink RX4 29 "GranaryLadder" "past" "LGranaryLadder$Past;", Cond.methodLink RX4 218 yX3_filledBays, Cond.instanceMethod yX3_filledBays, Cond.selects RX3 yX3_filledBays yX3_filledBays, Cond.initialized RX3, Cond.code yX3_filledBays cX3_filledBays 3 (some .int), Cond.methodLink RX3 50 yX3_isEmpty, Cond.instanceMethod yX3_isEmpty, Cond.selects RX3 yX3_isEmpty yX3_isEmpty, Cond.code yX3_isEmpty cX3_isEmpty 2 (some .boolean), Cond.fieldLink RX3 15 "GranaryLadder$Wall" "sacks" "[I"]
def wsL_isPassed_r2 : List Cond := [Cond.static yX4_at, Cond.code yX4_at cX4_at 2 (some .int), Cond.methodLink RX4 221 yX3_allSacks, Cond.instanceMethod yX3_allSacks, Cond.selects RX3 yX3_allSacks yX3_allSacks, Cond.code yX3_allSacks cX3_allSacks 1 (some .int), Cond.methodLink RX3 72 yX3_sumByBays, Cond.instanceMethod yX3_sumByBays, Cond.selects RX3 yX3_sumByBays yX3_sumByBays, Cond.code yX3_sumByBays cX3_sumByBays 5 (some .int), Cond.methodLink RX3 69 yX3_sacksIn, Cond.instanceMethod yX3_sacksIn, Cond.selects RX3 yX3_sacksIn yX3_sacksIn, Cond.code yX3_sacksIn cX3_sacksIn 2 (some .int), Cond.methodLink RX4 224 yX3_sacksOfKind, Cond.instanceMethod yX3_sacksOfKind, Cond.selects RX3 yX3_sacksOfKind yX3_sacksOfKind, Cond.code yX3_sacksOfKind cX3_sacksOfKind 4 (some .int), Cond.methodLink RX3 76 yX3_kindIn, Cond.instanceMethod yX3_kindIn, Cond.selects RX3 yX3_kindIn yX3_kindIn, Cond.code yX3_kindIn cX3_kindIn 2 (some .int), Cond.fieldLink RX3 9 "GranaryLadder$Wall" "kinds" "[I", Cond.methodLink RX4 227 yX3_crackedRungs]
def wsL_isPassed_r3 : List Cond := [Cond.instanceMethod yX3_crackedRungs, Cond.selects RX3 yX3_crackedRungs yX3_crackedRungs, Cond.code yX3_crackedRungs cX3_crackedRungs 3 (some .int), Cond.methodLink RX3 57 yX3_isCracked, Cond.instanceMethod yX3_isCracked, Cond.selects RX3 yX3_isCracked yX3_isCracked, Cond.code yX3_isCracked cX3_isCracked 2 (some .boolean), Cond.fieldLink RX3 24 "GranaryLadder$Wall" "cracks" "[I", Cond.methodLink RX4 230 yX0_size, Cond.instanceMethod yX0_size, Cond.selects RX0 yX0_size yX0_size, Cond.initialized RX0, Cond.code yX0_size cX0_size 1 (some .int), Cond.fieldLink RX0 15 "GranaryLadder$CommandText" "length" "I", Cond.methodLink RX4 231 yX2_size, Cond.instanceMethod yX2_size, Cond.selects RX2 yX2_size yX2_size, Cond.initialized RX2, Cond.code yX2_size cX2_size 1 (some .int), Cond.fieldLink RX2 21 "GranaryLadder$Past" "kept" "I", Cond.methodLink RX4 138 yX4_isWithin, Cond.static yX4_isWithin, Cond.code yX4_isWithin cX4_isWithin 3 (some .boolean), Cond.methodLink RX4 232 yX3_counted]
def wsL_isPassed_r4 : List Cond := [Cond.instanceMethod yX3_counted, Cond.selects RX3 yX3_counted yX3_counted, Cond.code yX3_counted cX3_counted 2 (some .int), Cond.fieldLink RX3 27 "GranaryLadder$Wall" "counters" "[I", Cond.methodLink RL 78 yX4_bayOf, Cond.instanceMethod yX4_bayOf, Cond.selects RX4 yX4_bayOf yX4_bayOf, Cond.code yX4_bayOf cX4_bayOf 3 (some .int), Cond.methodLink RX4 86 yX4_isBay, Cond.static yX4_isBay, Cond.code yX4_isBay cX4_isBay 1 (some .boolean), Cond.methodLink RX4 90 yX3_isEmpty, Cond.methodLink RX4 93 yX3_kindIn, Cond.methodLink RX4 96 yX3_sacksIn, Cond.methodLink RX4 99 yX3_ageIn, Cond.instanceMethod yX3_ageIn, Cond.selects RX3 yX3_ageIn yX3_ageIn, Cond.code yX3_ageIn cX3_ageIn 2 (some .int), Cond.fieldLink RX3 18 "GranaryLadder$Wall" "ages" "[I", Cond.methodLink RX4 102 yX3_spoilingAt, Cond.instanceMethod yX3_spoilingAt, Cond.selects RX3 yX3_spoilingAt yX3_spoilingAt, Cond.code yX3_spoilingAt cX3_spoilingAt 3 (some .int), Cond.methodLink RX4 105 yX3_rungsOver]
def wsL_isPassed_r5 : List Cond := [Cond.instanceMethod yX3_rungsOver, Cond.selects RX3 yX3_rungsOver yX3_rungsOver, Cond.code yX3_rungsOver cX3_rungsOver 5 (some .int), Cond.static yX4_sizeOf, Cond.code yX4_sizeOf cX4_sizeOf 1 (some .int), Cond.methodLink RX4 108 yX3_crackedOver, Cond.instanceMethod yX3_crackedOver, Cond.selects RX3 yX3_crackedOver yX3_crackedOver, Cond.code yX3_crackedOver cX3_crackedOver 5 (some .int), Cond.methodLink RL 81 yX4_rungOf, Cond.instanceMethod yX4_rungOf, Cond.selects RX4 yX4_rungOf yX4_rungOf, Cond.code yX4_rungOf cX4_rungOf 3 (some .int), Cond.methodLink RX4 111 yX4_isRung, Cond.static yX4_isRung, Cond.code yX4_isRung cX4_isRung 1 (some .boolean), Cond.methodLink RX4 114 yX4_sizeOf, Cond.methodLink RX4 117 yX3_sumOf, Cond.instanceMethod yX3_sumOf, Cond.selects RX3 yX3_sumOf yX3_sumOf, Cond.code yX3_sumOf cX3_sumOf 2 (some .int), Cond.fieldLink RX3 21 "GranaryLadder$Wall" "sums" "[I", Cond.methodLink RX4 120 yX4_loadOf, Cond.static yX4_loadOf]
def wsL_isPassed_r6 : List Cond := [Cond.code yX4_loadOf cX4_loadOf 1 (some .int), Cond.methodLink RX4 123 yX3_isCracked, Cond.methodLink RX4 126 yX4_firstBayOf, Cond.static yX4_firstBayOf, Cond.code yX4_firstBayOf cX4_firstBayOf 1 (some .int), Cond.methodLink RX4 129 yX4_rungsBelow, Cond.static yX4_rungsBelow, Cond.code yX4_rungsBelow cX4_rungsBelow 4 (some .int), Cond.methodLink RL 41 yX4_pass, Cond.instanceMethod yX4_pass, Cond.selects RX4 yX4_pass yX4_pass, Cond.code yX4_pass cX4_pass 2 (some .int), Cond.fieldLink RX4 16 "GranaryLadder" "before" "LGranaryLadder$Wall;", Cond.methodLink RX4 58 yX3_copyFrom, Cond.instanceMethod yX3_copyFrom, Cond.selects RX3 yX3_copyFrom yX3_copyFrom, Cond.code yX3_copyFrom cX3_copyFrom 2 none, Cond.static yX4_copyRow, Cond.code yX4_copyRow cX4_copyRow 3 none, Cond.methodLink RX4 83 yX4_letWeeksPass, Cond.instanceMethod yX4_letWeeksPass, Cond.selects RX4 yX4_letWeeksPass yX4_letWeeksPass, Cond.code yX4_letWeeksPass cX4_letWeeksPass 4 (some .int), Cond.methodLink RX4 276 yX3_growOlder]
def wsL_isPassed_r7 : List Cond := [Cond.instanceMethod yX3_growOlder, Cond.selects RX3 yX3_growOlder yX3_growOlder, Cond.code yX3_growOlder cX3_growOlder 4 (some .int), Cond.methodLink RX3 79 yX3_ageIn, Cond.static yX4_put, Cond.code yX4_put cX4_put 3 none, Cond.methodLink RX3 89 yX3_spoilingAt, Cond.methodLink RX3 92 yX3_remove, Cond.instanceMethod yX3_remove, Cond.selects RX3 yX3_remove yX3_remove, Cond.code yX3_remove cX3_remove 3 none, Cond.methodLink RX3 42 yX3_changeSacks, Cond.instanceMethod yX3_changeSacks, Cond.selects RX3 yX3_changeSacks yX3_changeSacks, Cond.code yX3_changeSacks cX3_changeSacks 5 none, Cond.methodLink RX4 245 yX3_count, Cond.instanceMethod yX3_count, Cond.selects RX3 yX3_count yX3_count, Cond.code yX3_count cX3_count 3 none, Cond.methodLink RX4 66 yX4_remember, Cond.instanceMethod yX4_remember, Cond.selects RX4 yX4_remember yX4_remember, Cond.code yX4_remember cX4_remember 2 (some .int), Cond.methodLink RX4 285 yX2_keep]
def wsL_isPassed_r8 : List Cond := [Cond.instanceMethod yX2_keep, Cond.selects RX2 yX2_keep yX2_keep, Cond.code yX2_keep cX2_keep 2 none, Cond.fieldLink RX2 17 "GranaryLadder$Past" "next" "I", Cond.fieldLink RX2 11 "GranaryLadder$Past" "walls" "[LGranaryLadder$Wall;", Cond.methodLink RX2 29 Lib.Math.min.name, Cond.static Lib.Math.min.name, Cond.initialized "java/lang/Math", Cond.code Lib.Math.min.name Lib.Math.min.code 2 (some .int), Cond.methodLink RX2 25 yX3_copyFrom, Cond.methodLink RL 158 yL_isFit, Cond.static yL_isFit, Cond.code yL_isFit cL_isFit 7 (some .boolean), Cond.methodLink RL 130 yL_areRanks, Cond.static yL_areRanks, Cond.code yL_areRanks cL_areRanks 8 (some .boolean), Cond.constantFloat RL 123 (1107296256), Cond.methodLink RL 110 yX4_oldest, Cond.instanceMethod yX4_oldest, Cond.selects RX4 yX4_oldest yX4_oldest, Cond.code yX4_oldest cX4_oldest 3 (some .int), Cond.methodLink RX4 156 yX3_placeOf, Cond.instanceMethod yX3_placeOf, Cond.selects RX3 yX3_placeOf yX3_placeOf]
def wsL_isPassed_r9 : List Cond := [Cond.code yX3_placeOf cX3_placeOf 4 (some .int), Cond.methodLink RX3 82 yX3_isAhead, Cond.instanceMethod yX3_isAhead, Cond.selects RX3 yX3_isAhead yX3_isAhead, Cond.code yX3_isAhead cX3_isAhead 3 (some .boolean), Cond.methodLink RL 113 yX4_tightest, Cond.instanceMethod yX4_tightest, Cond.selects RX4 yX4_tightest yX4_tightest, Cond.code yX4_tightest cX4_tightest 5 (some .int), Cond.methodLink RL 116 yX4_commonAge, Cond.instanceMethod yX4_commonAge, Cond.selects RX4 yX4_commonAge yX4_commonAge, Cond.code yX4_commonAge cX4_commonAge 6 (some .int), Cond.methodLink RX4 159 yX3_sacksAsOldAs, Cond.instanceMethod yX3_sacksAsOldAs, Cond.selects RX3 yX3_sacksAsOldAs yX3_sacksAsOldAs, Cond.code yX3_sacksAsOldAs cX3_sacksAsOldAs 4 (some .int), Cond.methodLink RL 119 yX4_soundShare, Cond.instanceMethod yX4_soundShare, Cond.selects RX4 yX4_soundShare yX4_soundShare, Cond.code yX4_soundShare cX4_soundShare 1 (some .float), Cond.constantFloat RX4 235 (1107296256), Cond.methodLink RL 134 yL_areReached, Cond.static yL_areReached]
def wsL_isPassed_r10 : List Cond := [Cond.code yL_areReached cL_areReached 6 (some .boolean), Cond.methodLink RL 124 yX4_reach, Cond.instanceMethod yX4_reach, Cond.selects RX4 yX4_reach yX4_reach, Cond.code yX4_reach cX4_reach 6 (some .int), Cond.methodLink RL 127 yX4_reachAgain, Cond.instanceMethod yX4_reachAgain, Cond.selects RX4 yX4_reachAgain yX4_reachAgain, Cond.code yX4_reachAgain cX4_reachAgain 4 (some .int), Cond.methodLink RL 98 yX4_sum, Cond.instanceMethod yX4_sum, Cond.selects RX4 yX4_sum yX4_sum, Cond.code yX4_sum cX4_sum 3 (some .int), Cond.methodLink RX4 132 yX3_sumByClimbing, Cond.instanceMethod yX3_sumByClimbing, Cond.selects RX3 yX3_sumByClimbing yX3_sumByClimbing, Cond.code yX3_sumByClimbing cX3_sumByClimbing 5 (some .int), Cond.methodLink RX3 60 yX3_sumOf, Cond.methodLink RL 137 yX4_isBalanced, Cond.instanceMethod yX4_isBalanced, Cond.selects RX4 yX4_isBalanced yX4_isBalanced, Cond.code yX4_isBalanced cX4_isBalanced 2 (some .int), Cond.methodLink RX4 135 yX3_sumByBays, Cond.methodLink RL 140 yL_isBay]
def wsL_isPassed_r11 : List Cond := [Cond.static yL_isBay, Cond.code yL_isBay cL_isBay 11 (some .boolean), Cond.methodLink RL 84 yL_keeps, Cond.static yL_keeps, Cond.code yL_keeps cL_keeps 1 (some .int), Cond.methodLink RL 87 yX4_steps, Cond.instanceMethod yX4_steps, Cond.selects RX4 yX4_steps yX4_steps, Cond.code yX4_steps cX4_steps 5 (some .int), Cond.methodLink RX4 142 yX4_stepsBelow, Cond.static yX4_stepsBelow, Cond.code yX4_stepsBelow cX4_stepsBelow 6 (some .int), Cond.methodLink RL 90 yX4_stepsAgain, Cond.instanceMethod yX4_stepsAgain, Cond.selects RX4 yX4_stepsAgain yX4_stepsAgain, Cond.code yX4_stepsAgain cX4_stepsAgain 3 (some .int), Cond.fieldLink RX4 54 "GranaryLadder" "stepsOfRungs" "[I", Cond.methodLink RX4 146 yX4_stepsByKnown, Cond.instanceMethod yX4_stepsByKnown, Cond.selects RX4 yX4_stepsByKnown yX4_stepsByKnown, Cond.code yX4_stepsByKnown cX4_stepsByKnown 2 (some .int), Cond.methodLink RX4 153 yX4_knownSteps, Cond.instanceMethod yX4_knownSteps, Cond.selects RX4 yX4_knownSteps yX4_knownSteps]
def wsL_isPassed_r12 : List Cond := [Cond.code yX4_knownSteps cX4_knownSteps 6 (some .int), Cond.methodLink RX4 205 yX4_at, Cond.methodLink RX4 149 yX4_put, Cond.methodLink RL 93 yJ6_bitCount_0f7a4, Cond.static yJ6_bitCount_0f7a4, Cond.initialized RJ6, Cond.code yJ6_bitCount_0f7a4 cJ6_bitCount_0f7a4 1 (some .int), Cond.constant RJ6 265 (1431655765), Cond.constant RJ6 266 (858993459), Cond.constant RJ6 267 (252645135), Cond.methodLink RL 101 yX4_sumAgain, Cond.instanceMethod yX4_sumAgain, Cond.selects RX4 yX4_sumAgain yX4_sumAgain, Cond.code yX4_sumAgain cX4_sumAgain 3 (some .int), Cond.methodLink RL 144 yL_isRung, Cond.static yL_isRung, Cond.code yL_isRung cL_isRung 6 (some .boolean), Cond.methodLink RL 104 yX4_tellRung, Cond.instanceMethod yX4_tellRung, Cond.selects RX4 yX4_tellRung yX4_tellRung, Cond.code yX4_tellRung cX4_tellRung 2 (some .int), Cond.fieldLink RX4 43 "GranaryLadder" "line" "LGranaryLadder$Line;", Cond.methodLink RX4 198 yX1_becomeEmpty, Cond.instanceMethod yX1_becomeEmpty]
def wsL_isPassed_r13 : List Cond := [Cond.selects RX1 yX1_becomeEmpty yX1_becomeEmpty, Cond.initialized RX1, Cond.code yX1_becomeEmpty cX1_becomeEmpty 1 none, Cond.fieldLink RX1 15 "GranaryLadder$Line" "length" "I", Cond.methodLink RX4 209 yX1_addNumber, Cond.instanceMethod yX1_addNumber, Cond.selects RX1 yX1_addNumber yX1_addNumber, Cond.code yX1_addNumber cX1_addNumber 3 none, Cond.methodLink RX1 23 yX1_addCode, Cond.instanceMethod yX1_addCode, Cond.selects RX1 yX1_addCode yX1_addCode, Cond.code yX1_addCode cX1_addCode 2 none, Cond.fieldLink RX1 9 "GranaryLadder$Line" "codes" "[I", Cond.methodLink RX4 199 yX1_addCode, Cond.methodLink RX4 212 yX1_size, Cond.instanceMethod yX1_size, Cond.selects RX1 yX1_size yX1_size, Cond.code yX1_size cX1_size 1 (some .int), Cond.methodLink RL 107 yX4_character, Cond.instanceMethod yX4_character, Cond.selects RX4 yX4_character yX4_character, Cond.code yX4_character cX4_character 2 (some .int), Cond.methodLink RX4 215 yX1_codeAt, Cond.instanceMethod yX1_codeAt]
def wsL_isPassed_r14 : List Cond := [Cond.selects RX1 yX1_codeAt yX1_codeAt, Cond.code yX1_codeAt cX1_codeAt 2 (some .int), Cond.methodLink RL 147 yX4_meanSacks, Cond.instanceMethod yX4_meanSacks, Cond.selects RX4 yX4_meanSacks yX4_meanSacks, Cond.code yX4_meanSacks cX4_meanSacks 2 (some .double), Cond.methodLink RL 68 yX4_undo, Cond.instanceMethod yX4_undo, Cond.selects RX4 yX4_undo yX4_undo, Cond.code yX4_undo cX4_undo 1 (some .int), Cond.methodLink RX4 236 yX2_giveBack, Cond.instanceMethod yX2_giveBack, Cond.selects RX2 yX2_giveBack yX2_giveBack, Cond.code yX2_giveBack cX2_giveBack 2 none, Cond.methodLink RX2 35 Lib.Math.max.name, Cond.static Lib.Math.max.name, Cond.code Lib.Math.max.name Lib.Math.max.code 2 (some .int)]
def wsL_isPassed : List Cond := .code yL_isPassed cL_isPassed 5 (some .boolean) :: ((wsL_isPassed_r1 ++ (wsL_isPassed_r2 ++ (wsL_isPassed_r3 ++ (wsL_isPassed_r4 ++ (wsL_isPassed_r5 ++ (wsL_isPassed_r6 ++ (wsL_isPassed_r7 ++ (wsL_isPassed_r8 ++ (wsL_isPassed_r9 ++ (wsL_isPassed_r10 ++ (wsL_isPassed_r11 ++ (wsL_isPassed_r12 ++ (wsL_isPassed_r13 ++ wsL_isPassed_r14))))))))))))) ++ wsX40 ++ wsX30 ++ wsX00 ++ wsX20 ++ wsX10)
def wsL_law_r1 : List Cond := [Cond.classLink RL 19 RX4, Cond.instantiable RX4 10, Cond.initialized RX4, Cond.fieldLink RL 44 "GranaryLadderLaw" "TEXTS" "[Ljava/lang/String;", Cond.methodLink RL 168 yX4_init, Cond.instanceMethod yX4_init, Cond.code yX4_init cX4_init 1 none, Cond.methodLink RX4 1 objectInit, Cond.instanceMethod objectInit, Cond.code objectInit ⟨#[0xb1]⟩ 1 none, Cond.classLink RX4 7 RX3, Cond.instantiable RX3 6, Cond.initialized RX3, Cond.fieldLink RX4 10 "GranaryLadder" "now" "LGranaryLadder$Wall;", Cond.fieldLink RX4 16 "GranaryLadder" "before" "LGranaryLadder$Wall;", Cond.fieldLink RX4 19 "GranaryLadder" "snapshot" "LGranaryLadder$Wall;", Cond.fieldLink RX4 22 "GranaryLadder" "hasSnapshot" "Z", Cond.classLink RX4 26 RX2, Cond.instantiable RX2 3, Cond.initialized RX2, Cond.fieldLink RX4 29 "GranaryLadder" "past" "LGranaryLadder$Past;", Cond.classLink RX4 33 RX0, Cond.instantiable RX0 6, Cond.initialized RX0]
def wsL_law_r2 : List Cond := [Cond.fieldLink RX4 36 "GranaryLadder" "text" "LGranaryLadder$CommandText;", Cond.classLink RX4 40 RX1, Cond.instantiable RX1 2, Cond.initialized RX1, Cond.fieldLink RX4 43 "GranaryLadder" "line" "LGranaryLadder$Line;", Cond.fieldLink RX4 47 "GranaryLadder" "latestReason" "I", Cond.fieldLink RX4 51 "GranaryLadder" "latestDetail" "I", Cond.arrayClass .int, Cond.fieldLink RX4 54 "GranaryLadder" "stepsOfRungs" "[I", Cond.methodLink RX4 9 yX3_init, Cond.instanceMethod yX3_init, Cond.code yX3_init cX3_init 1 none, Cond.methodLink RX3 3 objectInit, Cond.fieldLink RX3 9 "GranaryLadder$Wall" "kinds" "[I", Cond.fieldLink RX3 15 "GranaryLadder$Wall" "sacks" "[I", Cond.fieldLink RX3 18 "GranaryLadder$Wall" "ages" "[I", Cond.fieldLink RX3 21 "GranaryLadder$Wall" "sums" "[I", Cond.fieldLink RX3 24 "GranaryLadder$Wall" "cracks" "[I", Cond.fieldLink RX3 27 "GranaryLadder$Wall" "counters" "[I", Cond.methodLink RX4 28 yX2_init, Cond.instanceMethod yX2_init, Cond.code yX2_init cX2_init 2 none, Cond.methodLink RX2 3 objectInit, Cond.classLink RX2 9 RX3]
def wsL_law_r3 : List Cond := [Cond.fieldLink RX2 11 "GranaryLadder$Past" "walls" "[LGranaryLadder$Wall;", Cond.fieldLink RX2 17 "GranaryLadder$Past" "next" "I", Cond.fieldLink RX2 21 "GranaryLadder$Past" "kept" "I", Cond.methodLink RX2 24 yX3_init, Cond.instanceMethod yX0_init, Cond.code yX0_init cX0_init 1 none, Cond.methodLink RX0 3 objectInit, Cond.fieldLink RX0 9 "GranaryLadder$CommandText" "codes" "[I", Cond.fieldLink RX0 15 "GranaryLadder$CommandText" "length" "I", Cond.fieldLink RX0 19 "GranaryLadder$CommandText" "cells" "[I", Cond.fieldLink RX0 22 "GranaryLadder$CommandText" "commands" "I", Cond.fieldLink RX0 25 "GranaryLadder$CommandText" "nextCell" "I", Cond.fieldLink RX0 28 "GranaryLadder$CommandText" "place" "I", Cond.instanceMethod yX1_init, Cond.code yX1_init cX1_init 1 none, Cond.methodLink RX1 3 objectInit, Cond.fieldLink RX1 9 "GranaryLadder$Line" "codes" "[I", Cond.fieldLink RX1 15 "GranaryLadder$Line" "length" "I", Cond.methodLink RL 24 yX4_store, Cond.instanceMethod yX4_store, Cond.selects RX4 yX4_store yX4_store, Cond.code yX4_store cX4_store 4 (some .int), Cond.methodLink RX4 58 yX3_copyFrom, Cond.instanceMethod yX3_copyFrom]
def wsL_law_r4 : List Cond := [Cond.selects RX3 yX3_copyFrom yX3_copyFrom, Cond.code yX3_copyFrom cX3_copyFrom 2 none, Cond.static yX4_copyRow, Cond.code yX4_copyRow cX4_copyRow 3 none, Cond.methodLink RX4 62 yX4_storeSacks, Cond.instanceMethod yX4_storeSacks, Cond.selects RX4 yX4_storeSacks yX4_storeSacks, Cond.code yX4_storeSacks cX4_storeSacks 4 (some .int), Cond.methodLink RX4 86 yX4_isBay, Cond.static yX4_isBay, Cond.code yX4_isBay cX4_isBay 1 (some .boolean), Cond.methodLink RX4 138 yX4_isWithin, Cond.static yX4_isWithin, Cond.code yX4_isWithin cX4_isWithin 3 (some .boolean), Cond.methodLink RX4 162 yX4_isKind, Cond.static yX4_isKind, Cond.code yX4_isKind cX4_isKind 1 (some .boolean), Cond.methodLink RX4 165 yX4_hasRoom, Cond.instanceMethod yX4_hasRoom, Cond.selects RX4 yX4_hasRoom yX4_hasRoom, Cond.code yX4_hasRoom cX4_hasRoom 4 (some .boolean), Cond.methodLink RX4 90 yX3_isEmpty, Cond.instanceMethod yX3_isEmpty, Cond.selects RX3 yX3_isEmpty yX3_isEmpty]
def wsL_law_r5 : List Cond := [Cond.code yX3_isEmpty cX3_isEmpty 2 (some .boolean), Cond.static yX4_at, Cond.code yX4_at cX4_at 2 (some .int), Cond.methodLink RX4 93 yX3_kindIn, Cond.instanceMethod yX3_kindIn, Cond.selects RX3 yX3_kindIn yX3_kindIn, Cond.code yX3_kindIn cX3_kindIn 2 (some .int), Cond.methodLink RX4 96 yX3_sacksIn, Cond.instanceMethod yX3_sacksIn, Cond.selects RX3 yX3_sacksIn yX3_sacksIn, Cond.code yX3_sacksIn cX3_sacksIn 2 (some .int), Cond.methodLink RX4 242 yX4_refuseRoom, Cond.instanceMethod yX4_refuseRoom, Cond.selects RX4 yX4_refuseRoom yX4_refuseRoom, Cond.code yX4_refuseRoom cX4_refuseRoom 4 (some .int), Cond.methodLink RX4 195 yX4_refuse, Cond.instanceMethod yX4_refuse, Cond.selects RX4 yX4_refuse yX4_refuse, Cond.code yX4_refuse cX4_refuse 3 (some .int), Cond.methodLink RX4 245 yX3_count, Cond.instanceMethod yX3_count, Cond.selects RX3 yX3_count yX3_count, Cond.code yX3_count cX3_count 3 none, Cond.static yX4_put]
def wsL_law_r6 : List Cond := [Cond.code yX4_put cX4_put 3 none, Cond.methodLink RX4 99 yX3_ageIn, Cond.instanceMethod yX3_ageIn, Cond.selects RX3 yX3_ageIn yX3_ageIn, Cond.code yX3_ageIn cX3_ageIn 2 (some .int), Cond.methodLink RX4 249 yX3_bring, Cond.instanceMethod yX3_bring, Cond.selects RX3 yX3_bring yX3_bring, Cond.code yX3_bring cX3_bring 5 (some .int), Cond.methodLink RX3 42 yX3_changeSacks, Cond.instanceMethod yX3_changeSacks, Cond.selects RX3 yX3_changeSacks yX3_changeSacks, Cond.code yX3_changeSacks cX3_changeSacks 5 none, Cond.static yX4_sizeOf, Cond.code yX4_sizeOf cX4_sizeOf 1 (some .int), Cond.methodLink RX3 46 yX3_crackOver, Cond.instanceMethod yX3_crackOver, Cond.selects RX3 yX3_crackOver yX3_crackOver, Cond.code yX3_crackOver cX3_crackOver 5 (some .int), Cond.methodLink RX3 57 yX3_isCracked, Cond.instanceMethod yX3_isCracked, Cond.selects RX3 yX3_isCracked yX3_isCracked, Cond.code yX3_isCracked cX3_isCracked 2 (some .boolean), Cond.methodLink RX3 60 yX3_sumOf]
def wsL_law_r7 : List Cond := [Cond.instanceMethod yX3_sumOf, Cond.selects RX3 yX3_sumOf yX3_sumOf, Cond.code yX3_sumOf cX3_sumOf 2 (some .int), Cond.static yX4_loadOf, Cond.code yX4_loadOf cX4_loadOf 1 (some .int), Cond.methodLink RX4 114 yX4_sizeOf, Cond.methodLink RX3 66 yX3_count, Cond.methodLink RX4 66 yX4_remember, Cond.instanceMethod yX4_remember, Cond.selects RX4 yX4_remember yX4_remember, Cond.code yX4_remember cX4_remember 2 (some .int), Cond.methodLink RX4 285 yX2_keep, Cond.instanceMethod yX2_keep, Cond.selects RX2 yX2_keep yX2_keep, Cond.code yX2_keep cX2_keep 2 none, Cond.methodLink RX2 29 Lib.Math.min.name, Cond.static Lib.Math.min.name, Cond.initialized "java/lang/Math", Cond.code Lib.Math.min.name Lib.Math.min.code 2 (some .int), Cond.methodLink RX2 25 yX3_copyFrom, Cond.methodLink RL 151 yL_digest, Cond.static yL_digest, Cond.initialized RL, Cond.code yL_digest cL_digest 4 (some .long)]
def wsL_law_r8 : List Cond := [Cond.constantLong RL 71 (7), Cond.constantLong RL 73 (31), Cond.methodLink RL 75 yX4_account, Cond.instanceMethod yX4_account, Cond.selects RX4 yX4_account yX4_account, Cond.code yX4_account cX4_account 2 (some .int), Cond.methodLink RX4 218 yX3_filledBays, Cond.instanceMethod yX3_filledBays, Cond.selects RX3 yX3_filledBays yX3_filledBays, Cond.code yX3_filledBays cX3_filledBays 3 (some .int), Cond.methodLink RX3 50 yX3_isEmpty, Cond.methodLink RX4 221 yX3_allSacks, Cond.instanceMethod yX3_allSacks, Cond.selects RX3 yX3_allSacks yX3_allSacks, Cond.code yX3_allSacks cX3_allSacks 1 (some .int), Cond.methodLink RX3 72 yX3_sumByBays, Cond.instanceMethod yX3_sumByBays, Cond.selects RX3 yX3_sumByBays yX3_sumByBays, Cond.code yX3_sumByBays cX3_sumByBays 5 (some .int), Cond.methodLink RX3 69 yX3_sacksIn, Cond.methodLink RX4 224 yX3_sacksOfKind, Cond.instanceMethod yX3_sacksOfKind, Cond.selects RX3 yX3_sacksOfKind yX3_sacksOfKind, Cond.code yX3_sacksOfKind cX3_sacksOfKind 4 (some .int)]
def wsL_law_r9 : List Cond := [Cond.methodLink RX3 76 yX3_kindIn, Cond.methodLink RX4 227 yX3_crackedRungs, Cond.instanceMethod yX3_crackedRungs, Cond.selects RX3 yX3_crackedRungs yX3_crackedRungs, Cond.code yX3_crackedRungs cX3_crackedRungs 3 (some .int), Cond.methodLink RX4 230 yX0_size, Cond.instanceMethod yX0_size, Cond.selects RX0 yX0_size yX0_size, Cond.code yX0_size cX0_size 1 (some .int), Cond.methodLink RX4 231 yX2_size, Cond.instanceMethod yX2_size, Cond.selects RX2 yX2_size yX2_size, Cond.code yX2_size cX2_size 1 (some .int), Cond.methodLink RX4 232 yX3_counted, Cond.instanceMethod yX3_counted, Cond.selects RX3 yX3_counted yX3_counted, Cond.code yX3_counted cX3_counted 2 (some .int), Cond.methodLink RL 78 yX4_bayOf, Cond.instanceMethod yX4_bayOf, Cond.selects RX4 yX4_bayOf yX4_bayOf, Cond.code yX4_bayOf cX4_bayOf 3 (some .int), Cond.methodLink RX4 102 yX3_spoilingAt, Cond.instanceMethod yX3_spoilingAt, Cond.selects RX3 yX3_spoilingAt yX3_spoilingAt]
def wsL_law_r10 : List Cond := [Cond.code yX3_spoilingAt cX3_spoilingAt 3 (some .int), Cond.methodLink RX4 105 yX3_rungsOver, Cond.instanceMethod yX3_rungsOver, Cond.selects RX3 yX3_rungsOver yX3_rungsOver, Cond.code yX3_rungsOver cX3_rungsOver 5 (some .int), Cond.methodLink RX4 108 yX3_crackedOver, Cond.instanceMethod yX3_crackedOver, Cond.selects RX3 yX3_crackedOver yX3_crackedOver, Cond.code yX3_crackedOver cX3_crackedOver 5 (some .int), Cond.methodLink RL 81 yX4_rungOf, Cond.instanceMethod yX4_rungOf, Cond.selects RX4 yX4_rungOf yX4_rungOf, Cond.code yX4_rungOf cX4_rungOf 3 (some .int), Cond.methodLink RX4 111 yX4_isRung, Cond.static yX4_isRung, Cond.code yX4_isRung cX4_isRung 1 (some .boolean), Cond.methodLink RX4 117 yX3_sumOf, Cond.methodLink RX4 120 yX4_loadOf, Cond.methodLink RX4 123 yX3_isCracked, Cond.methodLink RX4 126 yX4_firstBayOf, Cond.static yX4_firstBayOf, Cond.code yX4_firstBayOf cX4_firstBayOf 1 (some .int), Cond.methodLink RX4 129 yX4_rungsBelow, Cond.static yX4_rungsBelow]
def wsL_law_r11 : List Cond := [Cond.code yX4_rungsBelow cX4_rungsBelow 4 (some .int), Cond.methodLink RL 169 yL_cell, Cond.static yL_cell, Cond.code yL_cell cL_cell 2 (some .int), Cond.constant RL 7 (65535), Cond.methodLink RL 173 yL_act, Cond.static yL_act, Cond.code yL_act cL_act 4 (some .int), Cond.methodLink RL 57 Lib.Math.max.name, Cond.static Lib.Math.max.name, Cond.code Lib.Math.max.name Lib.Math.max.code 2 (some .int), Cond.methodLink RL 28 yX4_take, Cond.instanceMethod yX4_take, Cond.selects RX4 yX4_take yX4_take, Cond.code yX4_take cX4_take 3 (some .int), Cond.methodLink RX4 70 yX4_takeSacks, Cond.instanceMethod yX4_takeSacks, Cond.selects RX4 yX4_takeSacks yX4_takeSacks, Cond.code yX4_takeSacks cX4_takeSacks 3 (some .int), Cond.methodLink RX4 253 yX4_hasSacks, Cond.instanceMethod yX4_hasSacks, Cond.selects RX4 yX4_hasSacks yX4_hasSacks, Cond.code yX4_hasSacks cX4_hasSacks 3 (some .boolean), Cond.methodLink RX4 256 yX4_refuseSacks]
def wsL_law_r12 : List Cond := [Cond.instanceMethod yX4_refuseSacks, Cond.selects RX4 yX4_refuseSacks yX4_refuseSacks, Cond.code yX4_refuseSacks cX4_refuseSacks 2 (some .int), Cond.methodLink RX4 259 yX3_remove, Cond.instanceMethod yX3_remove, Cond.selects RX3 yX3_remove yX3_remove, Cond.code yX3_remove cX3_remove 3 none, Cond.methodLink RL 32 yX4_move, Cond.instanceMethod yX4_move, Cond.selects RX4 yX4_move yX4_move, Cond.code yX4_move cX4_move 4 (some .int), Cond.methodLink RX4 74 yX4_moveSacks, Cond.instanceMethod yX4_moveSacks, Cond.selects RX4 yX4_moveSacks yX4_moveSacks, Cond.code yX4_moveSacks cX4_moveSacks 6 (some .int), Cond.methodLink RX4 262 Lib.Math.max.name, Cond.methodLink RL 35 yX4_order, Cond.instanceMethod yX4_order, Cond.selects RX4 yX4_order yX4_order, Cond.code yX4_order cX4_order 3 (some .int), Cond.methodLink RX4 77 yX4_fillOrder, Cond.instanceMethod yX4_fillOrder, Cond.selects RX4 yX4_fillOrder yX4_fillOrder, Cond.code yX4_fillOrder cX4_fillOrder 8 (some .int)]
def wsL_law_r13 : List Cond := [Cond.methodLink RX4 270 Lib.Math.min.name, Cond.methodLink RX4 267 yX3_oldestOfKind, Cond.instanceMethod yX3_oldestOfKind, Cond.selects RX3 yX3_oldestOfKind yX3_oldestOfKind, Cond.code yX3_oldestOfKind cX3_oldestOfKind 4 (some .int), Cond.methodLink RX3 79 yX3_ageIn, Cond.methodLink RX4 172 yX4_coinsFor, Cond.static yX4_coinsFor, Cond.code yX4_coinsFor cX4_coinsFor 2 (some .int), Cond.methodLink RL 38 yX4_fix, Cond.instanceMethod yX4_fix, Cond.selects RX4 yX4_fix yX4_fix, Cond.code yX4_fix cX4_fix 2 (some .int), Cond.methodLink RX4 80 yX4_mend, Cond.instanceMethod yX4_mend, Cond.selects RX4 yX4_mend yX4_mend, Cond.code yX4_mend cX4_mend 3 (some .int), Cond.methodLink RX4 273 yX3_makeSound, Cond.instanceMethod yX3_makeSound, Cond.selects RX3 yX3_makeSound yX3_makeSound, Cond.code yX3_makeSound cX3_makeSound 2 none, Cond.methodLink RL 41 yX4_pass, Cond.instanceMethod yX4_pass, Cond.selects RX4 yX4_pass yX4_pass]
def wsL_law_r14 : List Cond := [Cond.code yX4_pass cX4_pass 2 (some .int), Cond.methodLink RX4 83 yX4_letWeeksPass, Cond.instanceMethod yX4_letWeeksPass, Cond.selects RX4 yX4_letWeeksPass yX4_letWeeksPass, Cond.code yX4_letWeeksPass cX4_letWeeksPass 4 (some .int), Cond.methodLink RX4 276 yX3_growOlder, Cond.instanceMethod yX3_growOlder, Cond.selects RX3 yX3_growOlder yX3_growOlder, Cond.code yX3_growOlder cX3_growOlder 4 (some .int), Cond.methodLink RX3 89 yX3_spoilingAt, Cond.methodLink RX3 92 yX3_remove, Cond.methodLink RL 50 yL_write, Cond.static yL_write, Cond.code yL_write cL_write 3 (some (.object "GranaryLadder")), Cond.methodLink RL 8 yJ0_length_8abf5, Cond.instanceMethod yJ0_length_8abf5, Cond.selects RJ0 yJ0_length_8abf5 yJ0_length_8abf5, Cond.initialized RJ0, Cond.code yJ0_length_8abf5 cJ0_length_8abf5 1 (some .int), Cond.fieldLink RJ0 9 "java/lang/String" "value" "[B", Cond.methodLink RJ0 335 yJ0_coder_7d493, Cond.instanceMethod yJ0_coder_7d493, Cond.selects RJ0 yJ0_coder_7d493 yJ0_coder_7d493, Cond.code yJ0_coder_7d493 cJ0_coder_7d493 1 (some .byte)]
def wsL_law_r15 : List Cond := [Cond.fieldLink RJ0 38 "java/lang/String" "COMPACT_STRINGS" "Z", Cond.fieldLink RJ0 15 "java/lang/String" "coder" "B", Cond.methodLink RL 14 yJ0_charAt_5068e, Cond.instanceMethod yJ0_charAt_5068e, Cond.selects RJ0 yJ0_charAt_5068e yJ0_charAt_5068e, Cond.code yJ0_charAt_5068e cJ0_charAt_5068e 2 (some .char), Cond.methodLink RJ0 492 yJ0_isLatin1_aae02, Cond.instanceMethod yJ0_isLatin1_aae02, Cond.selects RJ0 yJ0_isLatin1_aae02 yJ0_isLatin1_aae02, Cond.code yJ0_isLatin1_aae02 cJ0_isLatin1_aae02 1 (some .boolean), Cond.methodLink RJ0 495 yJ1_charAt_3b067, Cond.static yJ1_charAt_3b067, Cond.initialized RJ1, Cond.code yJ1_charAt_3b067 cJ1_charAt_3b067 2 (some .char), Cond.methodLink RJ1 9 yJ0_checkIndex_df160, Cond.static yJ0_checkIndex_df160, Cond.code yJ0_checkIndex_df160 cJ0_checkIndex_df160 2 none, Cond.fieldLink RJ0 1053 "jdk/internal/util/Preconditions" "SIOOBE_FORMATTER" "Ljava/util/function/BiFunction;", Cond.methodLink RJ0 1059 yJ3_checkIndex_8e157, Cond.static yJ3_checkIndex_8e157, Cond.initialized RJ3, Cond.code yJ3_checkIndex_8e157 cJ3_checkIndex_8e157 3 (some .int), Cond.methodLink RJ0 498 yJ2_charAt_3b067, Cond.static yJ2_charAt_3b067]
def wsL_law_r16 : List Cond := [Cond.initialized RJ2, Cond.code yJ2_charAt_3b067 cJ2_charAt_3b067 2 (some .char), Cond.methodLink RJ2 67 yJ2_checkIndex_2214a, Cond.static yJ2_checkIndex_2214a, Cond.code yJ2_checkIndex_2214a cJ2_checkIndex_2214a 2 none, Cond.methodLink RJ2 48 yJ2_length_9d52b, Cond.static yJ2_length_9d52b, Cond.code yJ2_length_9d52b cJ2_length_9d52b 1 (some .int), Cond.methodLink RJ2 414 yJ0_checkIndex_df160, Cond.methodLink RJ2 71 yJ2_getChar_3b067, Cond.static yJ2_getChar_3b067, Cond.code yJ2_getChar_3b067 cJ2_getChar_3b067 2 (some .char), Cond.fieldLink RJ2 44 "java/lang/StringUTF16" "$assertionsDisabled" "Z", Cond.fieldLink RJ2 59 "java/lang/StringUTF16" "HI_BYTE_SHIFT" "I", Cond.fieldLink RJ2 63 "java/lang/StringUTF16" "LO_BYTE_SHIFT" "I", Cond.methodLink RL 18 yX4_append, Cond.instanceMethod yX4_append, Cond.selects RX4 yX4_append yX4_append, Cond.code yX4_append cX4_append 2 (some .int), Cond.methodLink RX4 175 yX0_addCode, Cond.instanceMethod yX0_addCode, Cond.selects RX0 yX0_addCode yX0_addCode, Cond.code yX0_addCode cX0_addCode 2 (some .int), Cond.methodLink RL 54 yX4_run]
def wsL_law_r17 : List Cond := [Cond.instanceMethod yX4_run, Cond.selects RX4 yX4_run yX4_run, Cond.code yX4_run cX4_run 4 (some .int), Cond.methodLink RX4 178 yX0_readCommands, Cond.instanceMethod yX0_readCommands, Cond.selects RX0 yX0_readCommands yX0_readCommands, Cond.code yX0_readCommands cX0_readCommands 2 (some .boolean), Cond.methodLink RX0 39 yX0_readCommand, Cond.instanceMethod yX0_readCommand, Cond.selects RX0 yX0_readCommand yX0_readCommand, Cond.code yX0_readCommand cX0_readCommand 3 (some .boolean), Cond.methodLink RX0 47 yX0_patternOf, Cond.static yX0_patternOf, Cond.code yX0_patternOf cX0_patternOf 1 (some (.object "java/lang/String")), Cond.methodLink RX0 51 yJ0_isEmpty_aae02, Cond.instanceMethod yJ0_isEmpty_aae02, Cond.selects RJ0 yJ0_isEmpty_aae02 yJ0_isEmpty_aae02, Cond.code yJ0_isEmpty_aae02 cJ0_isEmpty_aae02 1 (some .boolean), Cond.methodLink RX0 56 yX0_nextCode, Cond.instanceMethod yX0_nextCode, Cond.selects RX0 yX0_nextCode yX0_nextCode, Cond.code yX0_nextCode cX0_nextCode 1 (some .int), Cond.methodLink RX0 60 yJ0_charAt_5068e, Cond.methodLink RX0 64 yX0_addCell]
def wsL_law_r18 : List Cond := [Cond.instanceMethod yX0_addCell, Cond.selects RX0 yX0_addCell yX0_addCell, Cond.code yX0_addCell cX0_addCell 2 none, Cond.methodLink RX0 68 yX0_readAlong, Cond.instanceMethod yX0_readAlong, Cond.selects RX0 yX0_readAlong yX0_readAlong, Cond.code yX0_readAlong cX0_readAlong 5 (some .boolean), Cond.methodLink RX0 86 yJ0_length_8abf5, Cond.methodLink RX0 88 yX0_readNumber, Cond.instanceMethod yX0_readNumber, Cond.selects RX0 yX0_readNumber yX0_readNumber, Cond.code yX0_readNumber cX0_readNumber 4 (some .boolean), Cond.methodLink RX0 91 yX0_readKind, Cond.instanceMethod yX0_readKind, Cond.selects RX0 yX0_readKind yX0_readKind, Cond.code yX0_readKind cX0_readKind 2 (some .boolean), Cond.methodLink RX0 43 yX0_readCode, Cond.instanceMethod yX0_readCode, Cond.selects RX0 yX0_readCode yX0_readCode, Cond.code yX0_readCode cX0_readCode 2 (some .boolean), Cond.methodLink RX4 182 yX0_becomeEmpty, Cond.instanceMethod yX0_becomeEmpty, Cond.selects RX0 yX0_becomeEmpty yX0_becomeEmpty, Cond.code yX0_becomeEmpty cX0_becomeEmpty 1 none]
def wsL_law_r19 : List Cond := [Cond.methodLink RX4 185 yX0_faultPosition, Cond.instanceMethod yX0_faultPosition, Cond.selects RX0 yX0_faultPosition yX0_faultPosition, Cond.code yX0_faultPosition cX0_faultPosition 1 (some .int), Cond.methodLink RX4 189 yX0_commandCount, Cond.instanceMethod yX0_commandCount, Cond.selects RX0 yX0_commandCount yX0_commandCount, Cond.code yX0_commandCount cX0_commandCount 1 (some .int), Cond.methodLink RX4 192 yX4_carryOut, Cond.instanceMethod yX4_carryOut, Cond.selects RX4 yX4_carryOut yX4_carryOut, Cond.code yX4_carryOut cX4_carryOut 5 (some .int), Cond.methodLink RX4 279 yX0_argument, Cond.instanceMethod yX0_argument, Cond.selects RX0 yX0_argument yX0_argument, Cond.code yX0_argument cX0_argument 3 (some .int), Cond.methodLink RX4 282 yX0_verb, Cond.instanceMethod yX0_verb, Cond.selects RX0 yX0_verb yX0_verb, Cond.code yX0_verb cX0_verb 2 (some .int), Cond.methodLink RL 62 yX4_save, Cond.instanceMethod yX4_save, Cond.selects RX4 yX4_save yX4_save, Cond.code yX4_save cX4_save 1 (some .int)]
def wsL_law_r20 : List Cond := [Cond.methodLink RL 65 yX4_restore, Cond.instanceMethod yX4_restore, Cond.selects RX4 yX4_restore yX4_restore, Cond.code yX4_restore cX4_restore 1 (some .int), Cond.methodLink RX4 239 yX2_forget, Cond.instanceMethod yX2_forget, Cond.selects RX2 yX2_forget yX2_forget, Cond.code yX2_forget cX2_forget 1 none, Cond.methodLink RL 68 yX4_undo, Cond.instanceMethod yX4_undo, Cond.selects RX4 yX4_undo yX4_undo, Cond.code yX4_undo cX4_undo 1 (some .int), Cond.methodLink RX4 236 yX2_giveBack, Cond.instanceMethod yX2_giveBack, Cond.selects RX2 yX2_giveBack yX2_giveBack, Cond.code yX2_giveBack cX2_giveBack 2 none, Cond.methodLink RX2 35 Lib.Math.max.name, Cond.methodLink RL 158 yL_isFit, Cond.static yL_isFit, Cond.code yL_isFit cL_isFit 7 (some .boolean), Cond.methodLink RL 130 yL_areRanks, Cond.static yL_areRanks, Cond.code yL_areRanks cL_areRanks 8 (some .boolean), Cond.constantFloat RL 123 (1107296256)]
def wsL_law_r21 : List Cond := [Cond.methodLink RL 110 yX4_oldest, Cond.instanceMethod yX4_oldest, Cond.selects RX4 yX4_oldest yX4_oldest, Cond.code yX4_oldest cX4_oldest 3 (some .int), Cond.methodLink RX4 156 yX3_placeOf, Cond.instanceMethod yX3_placeOf, Cond.selects RX3 yX3_placeOf yX3_placeOf, Cond.code yX3_placeOf cX3_placeOf 4 (some .int), Cond.methodLink RX3 82 yX3_isAhead, Cond.instanceMethod yX3_isAhead, Cond.selects RX3 yX3_isAhead yX3_isAhead, Cond.code yX3_isAhead cX3_isAhead 3 (some .boolean), Cond.methodLink RL 113 yX4_tightest, Cond.instanceMethod yX4_tightest, Cond.selects RX4 yX4_tightest yX4_tightest, Cond.code yX4_tightest cX4_tightest 5 (some .int), Cond.methodLink RL 116 yX4_commonAge, Cond.instanceMethod yX4_commonAge, Cond.selects RX4 yX4_commonAge yX4_commonAge, Cond.code yX4_commonAge cX4_commonAge 6 (some .int), Cond.methodLink RX4 159 yX3_sacksAsOldAs, Cond.instanceMethod yX3_sacksAsOldAs, Cond.selects RX3 yX3_sacksAsOldAs yX3_sacksAsOldAs, Cond.code yX3_sacksAsOldAs cX3_sacksAsOldAs 4 (some .int)]
def wsL_law_r22 : List Cond := [Cond.methodLink RL 119 yX4_soundShare, Cond.instanceMethod yX4_soundShare, Cond.selects RX4 yX4_soundShare yX4_soundShare, Cond.code yX4_soundShare cX4_soundShare 1 (some .float), Cond.constantFloat RX4 235 (1107296256), Cond.methodLink RL 134 yL_areReached, Cond.static yL_areReached, Cond.code yL_areReached cL_areReached 6 (some .boolean), Cond.methodLink RL 124 yX4_reach, Cond.instanceMethod yX4_reach, Cond.selects RX4 yX4_reach yX4_reach, Cond.code yX4_reach cX4_reach 6 (some .int), Cond.methodLink RL 127 yX4_reachAgain, Cond.instanceMethod yX4_reachAgain, Cond.selects RX4 yX4_reachAgain yX4_reachAgain, Cond.code yX4_reachAgain cX4_reachAgain 4 (some .int), Cond.methodLink RL 98 yX4_sum, Cond.instanceMethod yX4_sum, Cond.selects RX4 yX4_sum yX4_sum, Cond.code yX4_sum cX4_sum 3 (some .int), Cond.methodLink RX4 132 yX3_sumByClimbing, Cond.instanceMethod yX3_sumByClimbing, Cond.selects RX3 yX3_sumByClimbing yX3_sumByClimbing, Cond.code yX3_sumByClimbing cX3_sumByClimbing 5 (some .int)]
def wsL_law_r23 : List Cond := [Cond.methodLink RL 137 yX4_isBalanced, Cond.instanceMethod yX4_isBalanced, Cond.selects RX4 yX4_isBalanced yX4_isBalanced, Cond.code yX4_isBalanced cX4_isBalanced 2 (some .int), Cond.methodLink RX4 135 yX3_sumByBays, Cond.methodLink RL 140 yL_isBay, Cond.static yL_isBay, Cond.code yL_isBay cL_isBay 11 (some .boolean), Cond.methodLink RL 84 yL_keeps, Cond.static yL_keeps, Cond.code yL_keeps cL_keeps 1 (some .int), Cond.methodLink RL 87 yX4_steps, Cond.instanceMethod yX4_steps, Cond.selects RX4 yX4_steps yX4_steps, Cond.code yX4_steps cX4_steps 5 (some .int), Cond.methodLink RX4 142 yX4_stepsBelow, Cond.static yX4_stepsBelow, Cond.code yX4_stepsBelow cX4_stepsBelow 6 (some .int), Cond.methodLink RL 90 yX4_stepsAgain, Cond.instanceMethod yX4_stepsAgain, Cond.selects RX4 yX4_stepsAgain yX4_stepsAgain, Cond.code yX4_stepsAgain cX4_stepsAgain 3 (some .int), Cond.methodLink RX4 146 yX4_stepsByKnown, Cond.instanceMethod yX4_stepsByKnown]
def wsL_law_r24 : List Cond := [Cond.selects RX4 yX4_stepsByKnown yX4_stepsByKnown, Cond.code yX4_stepsByKnown cX4_stepsByKnown 2 (some .int), Cond.methodLink RX4 153 yX4_knownSteps, Cond.instanceMethod yX4_knownSteps, Cond.selects RX4 yX4_knownSteps yX4_knownSteps, Cond.code yX4_knownSteps cX4_knownSteps 6 (some .int), Cond.methodLink RX4 205 yX4_at, Cond.methodLink RX4 149 yX4_put, Cond.methodLink RL 93 yJ6_bitCount_0f7a4, Cond.static yJ6_bitCount_0f7a4, Cond.initialized RJ6, Cond.code yJ6_bitCount_0f7a4 cJ6_bitCount_0f7a4 1 (some .int), Cond.constant RJ6 265 (1431655765), Cond.constant RJ6 266 (858993459), Cond.constant RJ6 267 (252645135), Cond.methodLink RL 101 yX4_sumAgain, Cond.instanceMethod yX4_sumAgain, Cond.selects RX4 yX4_sumAgain yX4_sumAgain, Cond.code yX4_sumAgain cX4_sumAgain 3 (some .int), Cond.methodLink RL 144 yL_isRung, Cond.static yL_isRung, Cond.code yL_isRung cL_isRung 6 (some .boolean), Cond.methodLink RL 104 yX4_tellRung, Cond.instanceMethod yX4_tellRung]
def wsL_law_r25 : List Cond := [Cond.selects RX4 yX4_tellRung yX4_tellRung, Cond.code yX4_tellRung cX4_tellRung 2 (some .int), Cond.methodLink RX4 198 yX1_becomeEmpty, Cond.instanceMethod yX1_becomeEmpty, Cond.selects RX1 yX1_becomeEmpty yX1_becomeEmpty, Cond.code yX1_becomeEmpty cX1_becomeEmpty 1 none, Cond.methodLink RX4 209 yX1_addNumber, Cond.instanceMethod yX1_addNumber, Cond.selects RX1 yX1_addNumber yX1_addNumber, Cond.code yX1_addNumber cX1_addNumber 3 none, Cond.methodLink RX1 23 yX1_addCode, Cond.instanceMethod yX1_addCode, Cond.selects RX1 yX1_addCode yX1_addCode, Cond.code yX1_addCode cX1_addCode 2 none, Cond.methodLink RX4 199 yX1_addCode, Cond.methodLink RX4 212 yX1_size, Cond.instanceMethod yX1_size, Cond.selects RX1 yX1_size yX1_size, Cond.code yX1_size cX1_size 1 (some .int), Cond.methodLink RL 107 yX4_character, Cond.instanceMethod yX4_character, Cond.selects RX4 yX4_character yX4_character, Cond.code yX4_character cX4_character 2 (some .int), Cond.methodLink RX4 215 yX1_codeAt]
def wsL_law_r26 : List Cond := [Cond.instanceMethod yX1_codeAt, Cond.selects RX1 yX1_codeAt yX1_codeAt, Cond.code yX1_codeAt cX1_codeAt 2 (some .int), Cond.methodLink RL 147 yX4_meanSacks, Cond.instanceMethod yX4_meanSacks, Cond.selects RX4 yX4_meanSacks yX4_meanSacks, Cond.code yX4_meanSacks cX4_meanSacks 2 (some .double), Cond.methodLink RL 177 yL_isBest, Cond.static yL_isBest, Cond.code yL_isBest cL_isBest 8 (some .boolean), Cond.methodLink RL 155 yX4_bestBay, Cond.instanceMethod yX4_bestBay, Cond.selects RX4 yX4_bestBay yX4_bestBay, Cond.code yX4_bestBay cX4_bestBay 6 (some .int), Cond.methodLink RX4 168 yX3_cracksUnder, Cond.instanceMethod yX3_cracksUnder, Cond.selects RX3 yX3_cracksUnder yX3_cracksUnder, Cond.code yX3_cracksUnder cX3_cracksUnder 5 (some .boolean), Cond.methodLink RL 181 yL_isSold, Cond.static yL_isSold, Cond.code yL_isSold cL_isSold 9 (some .boolean), Cond.methodLink RL 161 yX4_reason, Cond.instanceMethod yX4_reason, Cond.selects RX4 yX4_reason yX4_reason]
def wsL_law_r27 : List Cond := [Cond.code yX4_reason cX4_reason 2 (some .int), Cond.methodLink RL 165 yX4_price, Cond.instanceMethod yX4_price, Cond.selects RX4 yX4_price yX4_price, Cond.code yX4_price cX4_price 3 (some .int), Cond.methodLink RL 184 yL_isPassed, Cond.static yL_isPassed, Cond.code yL_isPassed cL_isPassed 5 (some .boolean)]
def wsL_law : List Cond := (wsL_law_r1 ++ (wsL_law_r2 ++ (wsL_law_r3 ++ (wsL_law_r4 ++ (wsL_law_r5 ++ (wsL_law_r6 ++ (wsL_law_r7 ++ (wsL_law_r8 ++ (wsL_law_r9 ++ (wsL_law_r10 ++ (wsL_law_r11 ++ (wsL_law_r12 ++ (wsL_law_r13 ++ (wsL_law_r14 ++ (wsL_law_r15 ++ (wsL_law_r16 ++ (wsL_law_r17 ++ (wsL_law_r18 ++ (wsL_law_r19 ++ (wsL_law_r20 ++ (wsL_law_r21 ++ (wsL_law_r22 ++ (wsL_law_r23 ++ (wsL_law_r24 ++ (wsL_law_r25 ++ (wsL_law_r26 ++ wsL_law_r27)))))))))))))))))))))))))) ++ wsX40 ++ wsX30 ++ wsX20 ++ wsX00 ++ wsX10 ++ ([] : List Cond)
set_option maxRecDepth 20000 in
theorem wsL_law_in : ∀ w ∈ wsL_law, w ∈ lw_tbl := fun w h => (goodIn_p wsL_law [41, 44, 49, 75, 94, 119, 162, 166, 169, 173, 176, 179, 182, 186, 190, 193, 197, 201, 205, 209, 213, 216, 220, 224, 228, 231, 235, 239, 243, 246, 252, 256, 260, 547, 553, 557, 501, 505, 467, 561, 565, 488, 302, 569, 323, 574, 578, 582, 295, 585, 588, 516, 533, 279, 537, 459, 272, 276, 283, 264, 268, 541, 463, 471, 475, 288, 292, 306, 310, 314, 318, 520, 412, 416, 363, 367, 372, 375, 380, 383, 386, 389, 393, 526, 530, 332, 336, 340, 343, 354, 358, 403, 408, 420, 425, 431, 435, 439, 443, 447, 451, 455, 497, 509, 513, 484, 492, 591, 594, 598, 602, 606, 610, 614, 618, 622, 627, 631, 635, 639, 643, 647, 651, 654, 658, 661, 665, 669, 673, 678, 685, 688, 692, 696, 700, 704, 710, 714, 718, 724, 727, 731, 735, 738, 480, 742, 745] (by decide +kernel) (by decide +kernel) w h).1
theorem inlX0 : ∀ w ∈ wsX00, w ∈ wsL_law := fun _ h => List.mem_append_left _ (List.mem_append_left _ (List.mem_append_right _ h))
theorem inX0 : ∀ w ∈ wsX00, w ∈ lw_tbl := fun w h => wsL_law_in w (inlX0 w h)
theorem inlX1 : ∀ w ∈ wsX10, w ∈ wsL_law := fun _ h => List.mem_append_left _ (List.mem_append_right _ h)
theorem inX1 : ∀ w ∈ wsX10, w ∈ lw_tbl := fun w h => wsL_law_in w (inlX1 w h)
theorem inlX2 : ∀ w ∈ wsX20, w ∈ wsL_law := fun _ h => List.mem_append_left _ (List.mem_append_left _ (List.mem_append_left _ (List.mem_append_right _ h)))
theorem inX2 : ∀ w ∈ wsX20, w ∈ lw_tbl := fun w h => wsL_law_in w (inlX2 w h)
theorem inlX3 : ∀ w ∈ wsX30, w ∈ wsL_law := fun _ h => List.mem_append_left _ (List.mem_append_left _ (List.mem_append_left _ (List.mem_append_left _ (List.mem_append_right _ h))))
theorem inX3 : ∀ w ∈ wsX30, w ∈ lw_tbl := fun w h => wsL_law_in w (inlX3 w h)
theorem inlX4 : ∀ w ∈ wsX40, w ∈ wsL_law := fun _ h => List.mem_append_left _ (List.mem_append_left _ (List.mem_append_left _ (List.mem_append_left _ (List.mem_append_left _ (List.mem_append_right _ h)))))
theorem inX4 : ∀ w ∈ wsX40, w ∈ lw_tbl := fun w h => wsL_law_in w (inlX4 w h)
theorem inX5 : ∀ w ∈ wsX50, w ∈ lw_tbl := by decide +kernel
theorem inJ6 : ∀ w ∈ wsJ60, w ∈ lw_tbl := by decide +kernel
theorem inJ9 : ∀ w ∈ wsJ90, w ∈ lw_tbl := by decide +kernel
theorem inJ0 : ∀ w ∈ wsJ00, w ∈ lw_tbl := by decide +kernel
theorem inJ1 : ∀ w ∈ wsJ10, w ∈ lw_tbl := by decide +kernel
theorem inJ2 : ∀ w ∈ wsJ20, w ∈ lw_tbl := by decide +kernel
theorem inJ3 : ∀ w ∈ wsJ30, w ∈ lw_tbl := by decide +kernel
theorem dX0_init_0 : decode cX0_init 0 = .ok (.aload_n 0, 1) := by decide +kernel
theorem dX0_init_1 : decode cX0_init 1 = .ok (.invokespecial 3, 3) := by decide +kernel
theorem dX0_init_4 : decode cX0_init 4 = .ok (.aload_n 0, 1) := by decide +kernel
theorem dX0_init_5 : decode cX0_init 5 = .ok (.bipush 60, 2) := by decide +kernel
theorem dX0_init_7 : decode cX0_init 7 = .ok (.newarray .int, 2) := by decide +kernel
theorem dX0_init_9 : decode cX0_init 9 = .ok (.putfield 9, 3) := by decide +kernel
theorem dX0_init_12 : decode cX0_init 12 = .ok (.aload_n 0, 1) := by decide +kernel
theorem dX0_init_13 : decode cX0_init 13 = .ok (.iconst 0, 1) := by decide +kernel
theorem dX0_init_14 : decode cX0_init 14 = .ok (.putfield 15, 3) := by decide +kernel
theorem dX0_init_17 : decode cX0_init 17 = .ok (.aload_n 0, 1) := by decide +kernel
theorem dX0_init_18 : decode cX0_init 18 = .ok (.bipush 40, 2) := by decide +kernel
theorem dX0_init_20 : decode cX0_init 20 = .ok (.newarray .int, 2) := by decide +kernel
theorem dX0_init_22 : decode cX0_init 22 = .ok (.putfield 19, 3) := by decide +kernel
theorem dX0_init_25 : decode cX0_init 25 = .ok (.aload_n 0, 1) := by decide +kernel
theorem dX0_init_26 : decode cX0_init 26 = .ok (.iconst 0, 1) := by decide +kernel
theorem dX0_init_27 : decode cX0_init 27 = .ok (.putfield 22, 3) := by decide +kernel
theorem dX0_init_30 : decode cX0_init 30 = .ok (.aload_n 0, 1) := by decide +kernel
theorem dX0_init_31 : decode cX0_init 31 = .ok (.iconst 0, 1) := by decide +kernel
theorem dX0_init_32 : decode cX0_init 32 = .ok (.putfield 25, 3) := by decide +kernel
theorem dX0_init_35 : decode cX0_init 35 = .ok (.aload_n 0, 1) := by decide +kernel
theorem dX0_init_36 : decode cX0_init 36 = .ok (.iconst 0, 1) := by decide +kernel
theorem dX0_init_37 : decode cX0_init 37 = .ok (.putfield 28, 3) := by decide +kernel
theorem dX0_init_40 : decode cX0_init 40 = .ok (.return_, 1) := by decide +kernel
theorem dX0_size_0 : decode cX0_size 0 = .ok (.aload_n 0, 1) := by decide +kernel
theorem dX0_size_1 : decode cX0_size 1 = .ok (.getfield 15, 3) := by decide +kernel
theorem dX0_size_4 : decode cX0_size 4 = .ok (.ireturn, 1) := by decide +kernel
set_option maxRecDepth 20000 in
theorem ggX0_addCode_X4_put : GoodIn wsX0_addCode wsX4_put := goodIn_r _ [5] (by decide +kernel) (by decide +kernel)
set_option maxRecDepth 20000 in
theorem gX0_addCode_X4_put_n31 : GoodIn wsX0_addCode (wsX4_put) := ggX0_addCode_X4_put
theorem dX0_addCode_0 : decode cX0_addCode 0 = .ok (.aload_n 0, 1) := by decide +kernel
theorem dX0_addCode_1 : decode cX0_addCode 1 = .ok (.getfield 15, 3) := by decide +kernel
theorem dX0_addCode_4 : decode cX0_addCode 4 = .ok (.bipush 60, 2) := by decide +kernel
theorem dX0_addCode_6 : decode cX0_addCode 6 = .ok (.if_icmp .lt 6, 3) := by decide +kernel
theorem dX0_addCode_9 : decode cX0_addCode 9 = .ok (.bipush (-13), 2) := by decide +kernel
theorem dX0_addCode_11 : decode cX0_addCode 11 = .ok (.ireturn, 1) := by decide +kernel
theorem dX0_addCode_12 : decode cX0_addCode 12 = .ok (.aload_n 0, 1) := by decide +kernel
theorem dX0_addCode_13 : decode cX0_addCode 13 = .ok (.getfield 9, 3) := by decide +kernel
theorem dX0_addCode_16 : decode cX0_addCode 16 = .ok (.aload_n 0, 1) := by decide +kernel
theorem dX0_addCode_17 : decode cX0_addCode 17 = .ok (.getfield 15, 3) := by decide +kernel
theorem dX0_addCode_20 : decode cX0_addCode 20 = .ok (.iload_n 1, 1) := by decide +kernel
theorem dX0_addCode_21 : decode cX0_addCode 21 = .ok (.invokestatic 31, 3) := by decide +kernel
theorem dX0_addCode_24 : decode cX0_addCode 24 = .ok (.aload_n 0, 1) := by decide +kernel
theorem dX0_addCode_25 : decode cX0_addCode 25 = .ok (.dup, 1) := by decide +kernel
theorem dX0_addCode_26 : decode cX0_addCode 26 = .ok (.getfield 15, 3) := by decide +kernel
theorem dX0_addCode_29 : decode cX0_addCode 29 = .ok (.iconst 1, 1) := by decide +kernel
theorem dX0_addCode_30 : decode cX0_addCode 30 = .ok (.iadd, 1) := by decide +kernel
theorem dX0_addCode_31 : decode cX0_addCode 31 = .ok (.putfield 15, 3) := by decide +kernel
theorem dX0_addCode_34 : decode cX0_addCode 34 = .ok (.aload_n 0, 1) := by decide +kernel
theorem dX0_addCode_35 : decode cX0_addCode 35 = .ok (.getfield 15, 3) := by decide +kernel
theorem dX0_addCode_38 : decode cX0_addCode 38 = .ok (.ireturn, 1) := by decide +kernel
theorem dX0_becomeEmpty_0 : decode cX0_becomeEmpty 0 = .ok (.aload_n 0, 1) := by decide +kernel
theorem dX0_becomeEmpty_1 : decode cX0_becomeEmpty 1 = .ok (.iconst 0, 1) := by decide +kernel
theorem dX0_becomeEmpty_2 : decode cX0_becomeEmpty 2 = .ok (.putfield 15, 3) := by decide +kernel
theorem dX0_becomeEmpty_5 : decode cX0_becomeEmpty 5 = .ok (.return_, 1) := by decide +kernel
theorem dX0_faultPosition_0 : decode cX0_faultPosition 0 = .ok (.aload_n 0, 1) := by decide +kernel
theorem dX0_faultPosition_1 : decode cX0_faultPosition 1 = .ok (.getfield 28, 3) := by decide +kernel
theorem dX0_faultPosition_4 : decode cX0_faultPosition 4 = .ok (.ireturn, 1) := by decide +kernel
theorem dX0_commandCount_0 : decode cX0_commandCount 0 = .ok (.aload_n 0, 1) := by decide +kernel
theorem dX0_commandCount_1 : decode cX0_commandCount 1 = .ok (.getfield 22, 3) := by decide +kernel
theorem dX0_commandCount_4 : decode cX0_commandCount 4 = .ok (.ireturn, 1) := by decide +kernel
set_option maxRecDepth 20000 in
theorem ggX0_verb_X4_at : GoodIn wsX0_verb wsX4_at := goodIn_r _ [4] (by decide +kernel) (by decide +kernel)
set_option maxRecDepth 20000 in
theorem gX0_verb_X4_at_n35 : GoodIn wsX0_verb (wsX4_at) := ggX0_verb_X4_at
theorem dX0_verb_0 : decode cX0_verb 0 = .ok (.aload_n 0, 1) := by decide +kernel
theorem dX0_verb_1 : decode cX0_verb 1 = .ok (.getfield 19, 3) := by decide +kernel
theorem dX0_verb_4 : decode cX0_verb 4 = .ok (.iload_n 1, 1) := by decide +kernel
theorem dX0_verb_5 : decode cX0_verb 5 = .ok (.iconst 4, 1) := by decide +kernel
theorem dX0_verb_6 : decode cX0_verb 6 = .ok (.imul, 1) := by decide +kernel
theorem dX0_verb_7 : decode cX0_verb 7 = .ok (.invokestatic 35, 3) := by decide +kernel
theorem dX0_verb_10 : decode cX0_verb 10 = .ok (.ireturn, 1) := by decide +kernel
set_option maxRecDepth 20000 in
theorem ggX0_argument_X4_at : GoodIn wsX0_argument wsX4_at := goodIn_r _ [4] (by decide +kernel) (by decide +kernel)
set_option maxRecDepth 20000 in
theorem gX0_argument_X4_at_n35 : GoodIn wsX0_argument (wsX4_at) := ggX0_argument_X4_at
theorem dX0_argument_0 : decode cX0_argument 0 = .ok (.aload_n 0, 1) := by decide +kernel
theorem dX0_argument_1 : decode cX0_argument 1 = .ok (.getfield 19, 3) := by decide +kernel
theorem dX0_argument_4 : decode cX0_argument 4 = .ok (.iload_n 1, 1) := by decide +kernel
theorem dX0_argument_5 : decode cX0_argument 5 = .ok (.iconst 4, 1) := by decide +kernel
theorem dX0_argument_6 : decode cX0_argument 6 = .ok (.imul, 1) := by decide +kernel
theorem dX0_argument_7 : decode cX0_argument 7 = .ok (.iload_n 2, 1) := by decide +kernel
theorem dX0_argument_8 : decode cX0_argument 8 = .ok (.iadd, 1) := by decide +kernel
theorem dX0_argument_9 : decode cX0_argument 9 = .ok (.invokestatic 35, 3) := by decide +kernel
theorem dX0_argument_12 : decode cX0_argument 12 = .ok (.ireturn, 1) := by decide +kernel
set_option maxRecDepth 20000 in
theorem ggX0_readCommands_X0_readCommand : GoodIn wsX0_readCommands wsX0_readCommand := goodIn_r _ [8, 2, 9, 10, 11, 7, 12, 13, 14, 15, 16, 17, 18, 19, 20, 21, 22, 1, 3, 23, 24, 25, 26, 27, 28, 29, 30, 31, 32, 33, 34, 35, 36, 37, 38, 39, 40, 41, 42, 43, 44, 45, 46, 47, 48, 49, 50, 51, 52, 53, 54, 55, 56, 57, 58, 59, 60, 61, 62, 63, 64, 65, 66, 67, 68, 69, 70, 71, 72, 73, 74, 75, 76, 77, 78, 79, 80, 81, 82, 83, 84, 85, 86, 87, 88, 89, 90, 91, 92, 93, 94, 95, 96, 97, 98, 99, 100, 101, 102, 103, 104] (by decide +kernel) (by decide +kernel)
set_option maxRecDepth 20000 in
theorem gX0_readCommands_X0_readCommand : GoodIn wsX0_readCommands (wsV RX0 39 RX0 yX0_readCommand wsX0_readCommand) := goodIn_app (goodIn_of _ (by decide +kernel)) ggX0_readCommands_X0_readCommand
set_option maxRecDepth 20000 in
theorem ggX0_readCommands_X0_readCode : GoodIn wsX0_readCommands wsX0_readCode := goodIn_r _ [98, 1, 19, 20, 21, 7, 22, 3, 23, 24, 25, 26, 99, 100, 101, 102, 103, 104] (by decide +kernel) (by decide +kernel)
set_option maxRecDepth 20000 in
theorem gX0_readCommands_X0_readCode : GoodIn wsX0_readCommands (wsV RX0 43 RX0 yX0_readCode wsX0_readCode) := goodIn_app (goodIn_of _ (by decide +kernel)) ggX0_readCommands_X0_readCode
theorem dX0_readCommands_0 : decode cX0_readCommands 0 = .ok (.aload_n 0, 1) := by decide +kernel
theorem dX0_readCommands_1 : decode cX0_readCommands 1 = .ok (.iconst 0, 1) := by decide +kernel
theorem dX0_readCommands_2 : decode cX0_readCommands 2 = .ok (.putfield 28, 3) := by decide +kernel
theorem dX0_readCommands_5 : decode cX0_readCommands 5 = .ok (.aload_n 0, 1) := by decide +kernel
theorem dX0_readCommands_6 : decode cX0_readCommands 6 = .ok (.iconst 0, 1) := by decide +kernel
theorem dX0_readCommands_7 : decode cX0_readCommands 7 = .ok (.putfield 22, 3) := by decide +kernel
theorem dX0_readCommands_10 : decode cX0_readCommands 10 = .ok (.iconst 0, 1) := by decide +kernel
theorem dX0_readCommands_11 : decode cX0_readCommands 11 = .ok (.istore_n 1, 1) := by decide +kernel
theorem dX0_readCommands_12 : decode cX0_readCommands 12 = .ok (.iload_n 1, 1) := by decide +kernel
theorem dX0_readCommands_13 : decode cX0_readCommands 13 = .ok (.bipush 10, 2) := by decide +kernel
theorem dX0_readCommands_15 : decode cX0_readCommands 15 = .ok (.if_icmp .gt 42, 3) := by decide +kernel
theorem dX0_readCommands_18 : decode cX0_readCommands 18 = .ok (.aload_n 0, 1) := by decide +kernel
theorem dX0_readCommands_19 : decode cX0_readCommands 19 = .ok (.invokevirtual 39, 3) := by decide +kernel
theorem dX0_readCommands_22 : decode cX0_readCommands 22 = .ok (.ifCond .ne 5, 3) := by decide +kernel
theorem dX0_readCommands_25 : decode cX0_readCommands 25 = .ok (.iconst 0, 1) := by decide +kernel
theorem dX0_readCommands_26 : decode cX0_readCommands 26 = .ok (.ireturn, 1) := by decide +kernel
theorem dX0_readCommands_27 : decode cX0_readCommands 27 = .ok (.aload_n 0, 1) := by decide +kernel
theorem dX0_readCommands_28 : decode cX0_readCommands 28 = .ok (.getfield 28, 3) := by decide +kernel
theorem dX0_readCommands_31 : decode cX0_readCommands 31 = .ok (.aload_n 0, 1) := by decide +kernel
theorem dX0_readCommands_32 : decode cX0_readCommands 32 = .ok (.getfield 15, 3) := by decide +kernel
theorem dX0_readCommands_35 : decode cX0_readCommands 35 = .ok (.if_icmp .ne 5, 3) := by decide +kernel
theorem dX0_readCommands_38 : decode cX0_readCommands 38 = .ok (.iconst 1, 1) := by decide +kernel
theorem dX0_readCommands_39 : decode cX0_readCommands 39 = .ok (.ireturn, 1) := by decide +kernel
theorem dX0_readCommands_40 : decode cX0_readCommands 40 = .ok (.aload_n 0, 1) := by decide +kernel
theorem dX0_readCommands_41 : decode cX0_readCommands 41 = .ok (.bipush 59, 2) := by decide +kernel
theorem dX0_readCommands_43 : decode cX0_readCommands 43 = .ok (.invokevirtual 43, 3) := by decide +kernel
theorem dX0_readCommands_46 : decode cX0_readCommands 46 = .ok (.ifCond .ne 5, 3) := by decide +kernel
theorem dX0_readCommands_49 : decode cX0_readCommands 49 = .ok (.iconst 0, 1) := by decide +kernel
theorem dX0_readCommands_50 : decode cX0_readCommands 50 = .ok (.ireturn, 1) := by decide +kernel
theorem dX0_readCommands_51 : decode cX0_readCommands 51 = .ok (.iinc 1 1, 3) := by decide +kernel
theorem dX0_readCommands_54 : decode cX0_readCommands 54 = .ok (.goto (-42), 3) := by decide +kernel
theorem dX0_readCommands_57 : decode cX0_readCommands 57 = .ok (.iconst 0, 1) := by decide +kernel
theorem dX0_readCommands_58 : decode cX0_readCommands 58 = .ok (.ireturn, 1) := by decide +kernel
set_option maxRecDepth 20000 in
theorem ggX0_readCommand_X0_patternOf : GoodIn wsX0_readCommand wsX0_patternOf := goodIn_r _ [6] (by decide +kernel) (by decide +kernel)
set_option maxRecDepth 20000 in
theorem gX0_readCommand_X0_patternOf : GoodIn wsX0_readCommand (va_wsS RX0 47 yX0_patternOf wsX0_patternOf) := goodIn_app (goodIn_of _ (by decide +kernel)) ggX0_readCommand_X0_patternOf
set_option maxRecDepth 20000 in
theorem ggX0_readCommand_J0_isEmpty_aae02 : GoodIn wsX0_readCommand wsJ0_isEmpty_aae02 := goodIn_r _ [11, 12] (by decide +kernel) (by decide +kernel)
set_option maxRecDepth 20000 in
theorem gX0_readCommand_J0_isEmpty_aae02 : GoodIn wsX0_readCommand (wsV RX0 51 RJ0 yJ0_isEmpty_aae02 wsJ0_isEmpty_aae02) := goodIn_app (goodIn_of _ (by decide +kernel)) ggX0_readCommand_J0_isEmpty_aae02
set_option maxRecDepth 20000 in
theorem ggX0_readCommand_X0_nextCode : GoodIn wsX0_readCommand wsX0_nextCode := goodIn_r _ [16, 17, 18, 19, 20, 21, 22, 95, 96, 97, 98, 99, 100] (by decide +kernel) (by decide +kernel)
set_option maxRecDepth 20000 in
theorem gX0_readCommand_X0_nextCode : GoodIn wsX0_readCommand (wsV RX0 56 RX0 yX0_nextCode wsX0_nextCode) := goodIn_app (goodIn_of _ (by decide +kernel)) ggX0_readCommand_X0_nextCode
set_option maxRecDepth 20000 in
theorem ggX0_readCommand_J0_charAt_5068e : GoodIn wsX0_readCommand wsJ0_charAt_5068e := goodIn_r _ [26, 12, 27, 28, 29, 10, 30, 31, 32, 33, 34, 35, 36, 37, 38, 39, 40, 41, 42, 43, 44, 45, 46, 47, 48, 49, 50, 51, 52, 53, 54, 55, 56, 57, 58, 59, 60, 61] (by decide +kernel) (by decide +kernel)
set_option maxRecDepth 20000 in
theorem gX0_readCommand_J0_charAt_5068e : GoodIn wsX0_readCommand (wsV RX0 60 RJ0 yJ0_charAt_5068e wsJ0_charAt_5068e) := goodIn_app (goodIn_of _ (by decide +kernel)) ggX0_readCommand_J0_charAt_5068e
set_option maxRecDepth 20000 in
theorem ggX0_readCommand_X0_addCell : GoodIn wsX0_readCommand wsX0_addCell := goodIn_r _ [65, 66, 2, 67, 21, 68, 95, 96, 97, 98, 99, 100] (by decide +kernel) (by decide +kernel)
set_option maxRecDepth 20000 in
theorem gX0_readCommand_X0_addCell : GoodIn wsX0_readCommand (wsV RX0 64 RX0 yX0_addCell wsX0_addCell) := goodIn_app (goodIn_of _ (by decide +kernel)) ggX0_readCommand_X0_addCell
set_option maxRecDepth 20000 in
theorem ggX0_readCommand_X0_readAlong : GoodIn wsX0_readCommand wsX0_readAlong := goodIn_r _ [72, 73, 74, 75, 10, 76, 12, 77, 78, 79, 80, 31, 32, 23, 24, 25, 26, 27, 28, 29, 30, 33, 34, 35, 36, 37, 38, 39, 40, 41, 42, 43, 44, 45, 46, 47, 48, 49, 50, 51, 52, 53, 54, 55, 56, 57, 58, 59, 60, 61, 81, 82, 83, 5, 84, 17, 13, 14, 15, 16, 18, 19, 20, 21, 22, 85, 86, 62, 63, 64, 65, 66, 2, 67, 68, 87, 88, 89, 90, 91, 92, 93, 94, 95, 96, 97, 98, 99, 100] (by decide +kernel) (by decide +kernel)
set_option maxRecDepth 20000 in
theorem gX0_readCommand_X0_readAlong : GoodIn wsX0_readCommand (wsV RX0 68 RX0 yX0_readAlong wsX0_readAlong) := goodIn_app (goodIn_of _ (by decide +kernel)) ggX0_readCommand_X0_readAlong
theorem dX0_readCommand_0 : decode cX0_readCommand 0 = .ok (.iconst 0, 1) := by decide +kernel
theorem dX0_readCommand_1 : decode cX0_readCommand 1 = .ok (.istore_n 1, 1) := by decide +kernel
theorem dX0_readCommand_2 : decode cX0_readCommand 2 = .ok (.iload_n 1, 1) := by decide +kernel
theorem dX0_readCommand_3 : decode cX0_readCommand 3 = .ok (.bipush 6, 2) := by decide +kernel
theorem dX0_readCommand_5 : decode cX0_readCommand 5 = .ok (.if_icmp .ge 64, 3) := by decide +kernel
theorem dX0_readCommand_8 : decode cX0_readCommand 8 = .ok (.iload_n 1, 1) := by decide +kernel
theorem dX0_readCommand_9 : decode cX0_readCommand 9 = .ok (.invokestatic 47, 3) := by decide +kernel
theorem dX0_readCommand_12 : decode cX0_readCommand 12 = .ok (.astore_n 2, 1) := by decide +kernel
theorem dX0_readCommand_13 : decode cX0_readCommand 13 = .ok (.aload_n 2, 1) := by decide +kernel
theorem dX0_readCommand_14 : decode cX0_readCommand 14 = .ok (.invokevirtual 51, 3) := by decide +kernel
theorem dX0_readCommand_17 : decode cX0_readCommand 17 = .ok (.ifCond .ne 46, 3) := by decide +kernel
theorem dX0_readCommand_20 : decode cX0_readCommand 20 = .ok (.aload_n 0, 1) := by decide +kernel
theorem dX0_readCommand_21 : decode cX0_readCommand 21 = .ok (.invokevirtual 56, 3) := by decide +kernel
theorem dX0_readCommand_24 : decode cX0_readCommand 24 = .ok (.aload_n 2, 1) := by decide +kernel
theorem dX0_readCommand_25 : decode cX0_readCommand 25 = .ok (.iconst 0, 1) := by decide +kernel
theorem dX0_readCommand_26 : decode cX0_readCommand 26 = .ok (.invokevirtual 60, 3) := by decide +kernel
theorem dX0_readCommand_29 : decode cX0_readCommand 29 = .ok (.if_icmp .ne 34, 3) := by decide +kernel
theorem dX0_readCommand_32 : decode cX0_readCommand 32 = .ok (.aload_n 0, 1) := by decide +kernel
theorem dX0_readCommand_33 : decode cX0_readCommand 33 = .ok (.aload_n 0, 1) := by decide +kernel
theorem dX0_readCommand_34 : decode cX0_readCommand 34 = .ok (.getfield 22, 3) := by decide +kernel
theorem dX0_readCommand_37 : decode cX0_readCommand 37 = .ok (.iconst 4, 1) := by decide +kernel
theorem dX0_readCommand_38 : decode cX0_readCommand 38 = .ok (.imul, 1) := by decide +kernel
theorem dX0_readCommand_39 : decode cX0_readCommand 39 = .ok (.putfield 25, 3) := by decide +kernel
theorem dX0_readCommand_42 : decode cX0_readCommand 42 = .ok (.aload_n 0, 1) := by decide +kernel
theorem dX0_readCommand_43 : decode cX0_readCommand 43 = .ok (.iload_n 1, 1) := by decide +kernel
theorem dX0_readCommand_44 : decode cX0_readCommand 44 = .ok (.invokevirtual 64, 3) := by decide +kernel
theorem dX0_readCommand_47 : decode cX0_readCommand 47 = .ok (.aload_n 0, 1) := by decide +kernel
theorem dX0_readCommand_48 : decode cX0_readCommand 48 = .ok (.dup, 1) := by decide +kernel
theorem dX0_readCommand_49 : decode cX0_readCommand 49 = .ok (.getfield 22, 3) := by decide +kernel
theorem dX0_readCommand_52 : decode cX0_readCommand 52 = .ok (.iconst 1, 1) := by decide +kernel
theorem dX0_readCommand_53 : decode cX0_readCommand 53 = .ok (.iadd, 1) := by decide +kernel
theorem dX0_readCommand_54 : decode cX0_readCommand 54 = .ok (.putfield 22, 3) := by decide +kernel
theorem dX0_readCommand_57 : decode cX0_readCommand 57 = .ok (.aload_n 0, 1) := by decide +kernel
theorem dX0_readCommand_58 : decode cX0_readCommand 58 = .ok (.aload_n 2, 1) := by decide +kernel
theorem dX0_readCommand_59 : decode cX0_readCommand 59 = .ok (.invokevirtual 68, 3) := by decide +kernel
theorem dX0_readCommand_62 : decode cX0_readCommand 62 = .ok (.ireturn, 1) := by decide +kernel
theorem dX0_readCommand_63 : decode cX0_readCommand 63 = .ok (.iinc 1 1, 3) := by decide +kernel
theorem dX0_readCommand_66 : decode cX0_readCommand 66 = .ok (.goto (-64), 3) := by decide +kernel
theorem dX0_readCommand_69 : decode cX0_readCommand 69 = .ok (.iconst 0, 1) := by decide +kernel
theorem dX0_readCommand_70 : decode cX0_readCommand 70 = .ok (.ireturn, 1) := by decide +kernel
theorem dX0_patternOf_0 : decode cX0_patternOf 0 = .ok (.iload_n 0, 1) := by decide +kernel
theorem dX0_patternOf_1 : decode cX0_patternOf 1 = .ok (.tableswitch 57 0 5 #[39, 42, 45, 48, 51, 54], 39) := by decide +kernel
theorem dX0_patternOf_40 : decode cX0_patternOf 40 = .ok (.ldc 72, 2) := by decide +kernel
theorem dX0_patternOf_42 : decode cX0_patternOf 42 = .ok (.areturn, 1) := by decide +kernel
theorem dX0_patternOf_43 : decode cX0_patternOf 43 = .ok (.ldc 74, 2) := by decide +kernel
theorem dX0_patternOf_45 : decode cX0_patternOf 45 = .ok (.areturn, 1) := by decide +kernel
theorem dX0_patternOf_46 : decode cX0_patternOf 46 = .ok (.ldc 76, 2) := by decide +kernel
theorem dX0_patternOf_48 : decode cX0_patternOf 48 = .ok (.areturn, 1) := by decide +kernel
theorem dX0_patternOf_49 : decode cX0_patternOf 49 = .ok (.ldc 78, 2) := by decide +kernel
theorem dX0_patternOf_51 : decode cX0_patternOf 51 = .ok (.areturn, 1) := by decide +kernel
theorem dX0_patternOf_52 : decode cX0_patternOf 52 = .ok (.ldc 80, 2) := by decide +kernel
theorem dX0_patternOf_54 : decode cX0_patternOf 54 = .ok (.areturn, 1) := by decide +kernel
theorem dX0_patternOf_55 : decode cX0_patternOf 55 = .ok (.ldc 82, 2) := by decide +kernel
theorem dX0_patternOf_57 : decode cX0_patternOf 57 = .ok (.areturn, 1) := by decide +kernel
theorem dX0_patternOf_58 : decode cX0_patternOf 58 = .ok (.ldc 84, 2) := by decide +kernel
theorem dX0_patternOf_60 : decode cX0_patternOf 60 = .ok (.areturn, 1) := by decide +kernel
set_option maxRecDepth 20000 in
theorem ggX0_readAlong_J0_length_8abf5 : GoodIn wsX0_readAlong wsJ0_length_8abf5 := goodIn_r _ [5, 6, 7, 8, 9, 4, 10, 11, 12] (by decide +kernel) (by decide +kernel)
set_option maxRecDepth 20000 in
theorem gX0_readAlong_J0_length_8abf5 : GoodIn wsX0_readAlong (wsV RX0 86 RJ0 yJ0_length_8abf5 wsJ0_length_8abf5) := goodIn_app (goodIn_of _ (by decide +kernel)) ggX0_readAlong_J0_length_8abf5
set_option maxRecDepth 20000 in
theorem ggX0_readAlong_J0_charAt_5068e : GoodIn wsX0_readAlong wsJ0_charAt_5068e := goodIn_r _ [16, 6, 17, 18, 19, 4, 20, 11, 12, 21, 22, 23, 24, 25, 26, 27, 28, 29, 30, 31, 32, 33, 34, 35, 36, 37, 38, 39, 40, 41, 42, 43, 44, 45, 46, 47, 48, 49] (by decide +kernel) (by decide +kernel)
set_option maxRecDepth 20000 in
theorem gX0_readAlong_J0_charAt_5068e : GoodIn wsX0_readAlong (wsV RX0 60 RJ0 yJ0_charAt_5068e wsJ0_charAt_5068e) := goodIn_app (goodIn_of _ (by decide +kernel)) ggX0_readAlong_J0_charAt_5068e
set_option maxRecDepth 20000 in
theorem ggX0_readAlong_X0_readNumber : GoodIn wsX0_readAlong wsX0_readNumber := goodIn_r _ [54, 55, 56, 57, 58, 53, 59, 60, 61, 62, 63, 64, 65, 66, 67, 68, 69, 70, 71, 72, 73, 74, 83, 84, 85, 86, 87, 88] (by decide +kernel) (by decide +kernel)
set_option maxRecDepth 20000 in
theorem gX0_readAlong_X0_readNumber : GoodIn wsX0_readAlong (wsV RX0 88 RX0 yX0_readNumber wsX0_readNumber) := goodIn_app (goodIn_of _ (by decide +kernel)) ggX0_readAlong_X0_readNumber
set_option maxRecDepth 20000 in
theorem ggX0_readAlong_X0_readKind : GoodIn wsX0_readAlong wsX0_readKind := goodIn_r _ [78, 55, 56, 57, 58, 53, 59, 60, 61, 62, 63, 64, 67, 68, 69, 70, 71, 72, 73, 74, 83, 84, 85, 86, 87, 88] (by decide +kernel) (by decide +kernel)
set_option maxRecDepth 20000 in
theorem gX0_readAlong_X0_readKind : GoodIn wsX0_readAlong (wsV RX0 91 RX0 yX0_readKind wsX0_readKind) := goodIn_app (goodIn_of _ (by decide +kernel)) ggX0_readAlong_X0_readKind
set_option maxRecDepth 20000 in
theorem ggX0_readAlong_X0_readCode : GoodIn wsX0_readAlong wsX0_readCode := goodIn_r _ [82, 55, 56, 57, 58, 53, 59, 60, 61, 62, 63, 64, 83, 84, 85, 86, 87, 88] (by decide +kernel) (by decide +kernel)
set_option maxRecDepth 20000 in
theorem gX0_readAlong_X0_readCode : GoodIn wsX0_readAlong (wsV RX0 43 RX0 yX0_readCode wsX0_readCode) := goodIn_app (goodIn_of _ (by decide +kernel)) ggX0_readAlong_X0_readCode
theorem dX0_readAlong_0 : decode cX0_readAlong 0 = .ok (.iconst 1, 1) := by decide +kernel
theorem dX0_readAlong_1 : decode cX0_readAlong 1 = .ok (.istore_n 2, 1) := by decide +kernel
theorem dX0_readAlong_2 : decode cX0_readAlong 2 = .ok (.iconst 0, 1) := by decide +kernel
theorem dX0_readAlong_3 : decode cX0_readAlong 3 = .ok (.istore_n 3, 1) := by decide +kernel
theorem dX0_readAlong_4 : decode cX0_readAlong 4 = .ok (.iload_n 3, 1) := by decide +kernel
theorem dX0_readAlong_5 : decode cX0_readAlong 5 = .ok (.aload_n 1, 1) := by decide +kernel
theorem dX0_readAlong_6 : decode cX0_readAlong 6 = .ok (.invokevirtual 86, 3) := by decide +kernel
theorem dX0_readAlong_9 : decode cX0_readAlong 9 = .ok (.if_icmp .ge 74, 3) := by decide +kernel
theorem dX0_readAlong_12 : decode cX0_readAlong 12 = .ok (.iload_n 2, 1) := by decide +kernel
theorem dX0_readAlong_13 : decode cX0_readAlong 13 = .ok (.ifCond .eq 70, 3) := by decide +kernel
theorem dX0_readAlong_16 : decode cX0_readAlong 16 = .ok (.aload_n 1, 1) := by decide +kernel
theorem dX0_readAlong_17 : decode cX0_readAlong 17 = .ok (.iload_n 3, 1) := by decide +kernel
theorem dX0_readAlong_18 : decode cX0_readAlong 18 = .ok (.invokevirtual 60, 3) := by decide +kernel
theorem dX0_readAlong_21 : decode cX0_readAlong 21 = .ok (.istore 4, 2) := by decide +kernel
theorem dX0_readAlong_23 : decode cX0_readAlong 23 = .ok (.iload 4, 2) := by decide +kernel
theorem dX0_readAlong_25 : decode cX0_readAlong 25 = .ok (.bipush 50, 2) := by decide +kernel
theorem dX0_readAlong_27 : decode cX0_readAlong 27 = .ok (.if_icmp .ne 12, 3) := by decide +kernel
theorem dX0_readAlong_30 : decode cX0_readAlong 30 = .ok (.aload_n 0, 1) := by decide +kernel
theorem dX0_readAlong_31 : decode cX0_readAlong 31 = .ok (.iconst 2, 1) := by decide +kernel
theorem dX0_readAlong_32 : decode cX0_readAlong 32 = .ok (.invokevirtual 88, 3) := by decide +kernel
theorem dX0_readAlong_35 : decode cX0_readAlong 35 = .ok (.istore_n 2, 1) := by decide +kernel
theorem dX0_readAlong_36 : decode cX0_readAlong 36 = .ok (.goto 41, 3) := by decide +kernel
theorem dX0_readAlong_39 : decode cX0_readAlong 39 = .ok (.iload 4, 2) := by decide +kernel
theorem dX0_readAlong_41 : decode cX0_readAlong 41 = .ok (.bipush 51, 2) := by decide +kernel
theorem dX0_readAlong_43 : decode cX0_readAlong 43 = .ok (.if_icmp .ne 12, 3) := by decide +kernel
theorem dX0_readAlong_46 : decode cX0_readAlong 46 = .ok (.aload_n 0, 1) := by decide +kernel
theorem dX0_readAlong_47 : decode cX0_readAlong 47 = .ok (.iconst 3, 1) := by decide +kernel
theorem dX0_readAlong_48 : decode cX0_readAlong 48 = .ok (.invokevirtual 88, 3) := by decide +kernel
theorem dX0_readAlong_51 : decode cX0_readAlong 51 = .ok (.istore_n 2, 1) := by decide +kernel
theorem dX0_readAlong_52 : decode cX0_readAlong 52 = .ok (.goto 25, 3) := by decide +kernel
theorem dX0_readAlong_55 : decode cX0_readAlong 55 = .ok (.iload 4, 2) := by decide +kernel
theorem dX0_readAlong_57 : decode cX0_readAlong 57 = .ok (.bipush 63, 2) := by decide +kernel
theorem dX0_readAlong_59 : decode cX0_readAlong 59 = .ok (.if_icmp .ne 11, 3) := by decide +kernel
theorem dX0_readAlong_62 : decode cX0_readAlong 62 = .ok (.aload_n 0, 1) := by decide +kernel
theorem dX0_readAlong_63 : decode cX0_readAlong 63 = .ok (.invokevirtual 91, 3) := by decide +kernel
theorem dX0_readAlong_66 : decode cX0_readAlong 66 = .ok (.istore_n 2, 1) := by decide +kernel
theorem dX0_readAlong_67 : decode cX0_readAlong 67 = .ok (.goto 10, 3) := by decide +kernel
theorem dX0_readAlong_70 : decode cX0_readAlong 70 = .ok (.aload_n 0, 1) := by decide +kernel
theorem dX0_readAlong_71 : decode cX0_readAlong 71 = .ok (.iload 4, 2) := by decide +kernel
theorem dX0_readAlong_73 : decode cX0_readAlong 73 = .ok (.invokevirtual 43, 3) := by decide +kernel
theorem dX0_readAlong_76 : decode cX0_readAlong 76 = .ok (.istore_n 2, 1) := by decide +kernel
theorem dX0_readAlong_77 : decode cX0_readAlong 77 = .ok (.iinc 3 1, 3) := by decide +kernel
theorem dX0_readAlong_80 : decode cX0_readAlong 80 = .ok (.goto (-76), 3) := by decide +kernel
theorem dX0_readAlong_83 : decode cX0_readAlong 83 = .ok (.iload_n 2, 1) := by decide +kernel
theorem dX0_readAlong_84 : decode cX0_readAlong 84 = .ok (.ireturn, 1) := by decide +kernel
set_option maxRecDepth 20000 in
theorem ggX0_readNumber_X0_nextCode : GoodIn wsX0_readNumber wsX0_nextCode := goodIn_r _ [6, 1, 7, 8, 9, 10, 11, 22, 23, 24, 25, 26, 27] (by decide +kernel) (by decide +kernel)
set_option maxRecDepth 20000 in
theorem gX0_readNumber_X0_nextCode : GoodIn wsX0_readNumber (wsV RX0 56 RX0 yX0_nextCode wsX0_nextCode) := goodIn_app (goodIn_of _ (by decide +kernel)) ggX0_readNumber_X0_nextCode
set_option maxRecDepth 20000 in
theorem ggX0_readNumber_X4_isWithin : GoodIn wsX0_readNumber wsX4_isWithin := goodIn_r _ [13] (by decide +kernel) (by decide +kernel)
set_option maxRecDepth 20000 in
theorem gX0_readNumber_X4_isWithin_n94 : GoodIn wsX0_readNumber (wsX4_isWithin) := ggX0_readNumber_X4_isWithin
set_option maxRecDepth 20000 in
theorem ggX0_readNumber_X0_addCell : GoodIn wsX0_readNumber wsX0_addCell := goodIn_r _ [17, 18, 19, 20, 10, 21, 22, 23, 24, 25, 26, 27] (by decide +kernel) (by decide +kernel)
set_option maxRecDepth 20000 in
theorem gX0_readNumber_X0_addCell : GoodIn wsX0_readNumber (wsV RX0 64 RX0 yX0_addCell wsX0_addCell) := goodIn_app (goodIn_of _ (by decide +kernel)) ggX0_readNumber_X0_addCell
theorem dX0_readNumber_0 : decode cX0_readNumber 0 = .ok (.iconst 0, 1) := by decide +kernel
theorem dX0_readNumber_1 : decode cX0_readNumber 1 = .ok (.istore_n 2, 1) := by decide +kernel
theorem dX0_readNumber_2 : decode cX0_readNumber 2 = .ok (.iconst 0, 1) := by decide +kernel
theorem dX0_readNumber_3 : decode cX0_readNumber 3 = .ok (.istore_n 3, 1) := by decide +kernel
theorem dX0_readNumber_4 : decode cX0_readNumber 4 = .ok (.iload_n 3, 1) := by decide +kernel
theorem dX0_readNumber_5 : decode cX0_readNumber 5 = .ok (.iload_n 1, 1) := by decide +kernel
theorem dX0_readNumber_6 : decode cX0_readNumber 6 = .ok (.if_icmp .ge 46, 3) := by decide +kernel
theorem dX0_readNumber_9 : decode cX0_readNumber 9 = .ok (.aload_n 0, 1) := by decide +kernel
theorem dX0_readNumber_10 : decode cX0_readNumber 10 = .ok (.invokevirtual 56, 3) := by decide +kernel
theorem dX0_readNumber_13 : decode cX0_readNumber 13 = .ok (.bipush 48, 2) := by decide +kernel
theorem dX0_readNumber_15 : decode cX0_readNumber 15 = .ok (.bipush 57, 2) := by decide +kernel
theorem dX0_readNumber_17 : decode cX0_readNumber 17 = .ok (.invokestatic 94, 3) := by decide +kernel
theorem dX0_readNumber_20 : decode cX0_readNumber 20 = .ok (.ifCond .eq 32, 3) := by decide +kernel
theorem dX0_readNumber_23 : decode cX0_readNumber 23 = .ok (.bipush 10, 2) := by decide +kernel
theorem dX0_readNumber_25 : decode cX0_readNumber 25 = .ok (.iload_n 2, 1) := by decide +kernel
theorem dX0_readNumber_26 : decode cX0_readNumber 26 = .ok (.imul, 1) := by decide +kernel
theorem dX0_readNumber_27 : decode cX0_readNumber 27 = .ok (.aload_n 0, 1) := by decide +kernel
theorem dX0_readNumber_28 : decode cX0_readNumber 28 = .ok (.invokevirtual 56, 3) := by decide +kernel
theorem dX0_readNumber_31 : decode cX0_readNumber 31 = .ok (.iadd, 1) := by decide +kernel
theorem dX0_readNumber_32 : decode cX0_readNumber 32 = .ok (.bipush 48, 2) := by decide +kernel
theorem dX0_readNumber_34 : decode cX0_readNumber 34 = .ok (.isub, 1) := by decide +kernel
theorem dX0_readNumber_35 : decode cX0_readNumber 35 = .ok (.istore_n 2, 1) := by decide +kernel
theorem dX0_readNumber_36 : decode cX0_readNumber 36 = .ok (.iinc 3 1, 3) := by decide +kernel
theorem dX0_readNumber_39 : decode cX0_readNumber 39 = .ok (.aload_n 0, 1) := by decide +kernel
theorem dX0_readNumber_40 : decode cX0_readNumber 40 = .ok (.dup, 1) := by decide +kernel
theorem dX0_readNumber_41 : decode cX0_readNumber 41 = .ok (.getfield 28, 3) := by decide +kernel
theorem dX0_readNumber_44 : decode cX0_readNumber 44 = .ok (.iconst 1, 1) := by decide +kernel
theorem dX0_readNumber_45 : decode cX0_readNumber 45 = .ok (.iadd, 1) := by decide +kernel
theorem dX0_readNumber_46 : decode cX0_readNumber 46 = .ok (.putfield 28, 3) := by decide +kernel
theorem dX0_readNumber_49 : decode cX0_readNumber 49 = .ok (.goto (-45), 3) := by decide +kernel
theorem dX0_readNumber_52 : decode cX0_readNumber 52 = .ok (.aload_n 0, 1) := by decide +kernel
theorem dX0_readNumber_53 : decode cX0_readNumber 53 = .ok (.iload_n 2, 1) := by decide +kernel
theorem dX0_readNumber_54 : decode cX0_readNumber 54 = .ok (.invokevirtual 64, 3) := by decide +kernel
theorem dX0_readNumber_57 : decode cX0_readNumber 57 = .ok (.iload_n 3, 1) := by decide +kernel
theorem dX0_readNumber_58 : decode cX0_readNumber 58 = .ok (.ifCond .le 7, 3) := by decide +kernel
theorem dX0_readNumber_61 : decode cX0_readNumber 61 = .ok (.iconst 1, 1) := by decide +kernel
theorem dX0_readNumber_62 : decode cX0_readNumber 62 = .ok (.goto 4, 3) := by decide +kernel
theorem dX0_readNumber_65 : decode cX0_readNumber 65 = .ok (.iconst 0, 1) := by decide +kernel
theorem dX0_readNumber_66 : decode cX0_readNumber 66 = .ok (.ireturn, 1) := by decide +kernel
set_option maxRecDepth 20000 in
theorem ggX0_readKind_X0_nextCode : GoodIn wsX0_readKind wsX0_nextCode := goodIn_r _ [6, 1, 7, 8, 9, 10, 11, 20, 21, 22, 23, 24, 25] (by decide +kernel) (by decide +kernel)
set_option maxRecDepth 20000 in
theorem gX0_readKind_X0_nextCode : GoodIn wsX0_readKind (wsV RX0 56 RX0 yX0_nextCode wsX0_nextCode) := goodIn_app (goodIn_of _ (by decide +kernel)) ggX0_readKind_X0_nextCode
set_option maxRecDepth 20000 in
theorem ggX0_readKind_X4_at : GoodIn wsX0_readKind wsX4_at := goodIn_r _ [11] (by decide +kernel) (by decide +kernel)
set_option maxRecDepth 20000 in
theorem gX0_readKind_X4_at_n35 : GoodIn wsX0_readKind (wsX4_at) := ggX0_readKind_X4_at
set_option maxRecDepth 20000 in
theorem ggX0_readKind_X0_addCell : GoodIn wsX0_readKind wsX0_addCell := goodIn_r _ [15, 16, 17, 18, 10, 19, 20, 21, 22, 23, 24, 25] (by decide +kernel) (by decide +kernel)
set_option maxRecDepth 20000 in
theorem gX0_readKind_X0_addCell : GoodIn wsX0_readKind (wsV RX0 64 RX0 yX0_addCell wsX0_addCell) := goodIn_app (goodIn_of _ (by decide +kernel)) ggX0_readKind_X0_addCell
theorem dX0_readKind_0 : decode cX0_readKind 0 = .ok (.iconst 0, 1) := by decide +kernel
theorem dX0_readKind_1 : decode cX0_readKind 1 = .ok (.istore_n 1, 1) := by decide +kernel
theorem dX0_readKind_2 : decode cX0_readKind 2 = .ok (.iload_n 1, 1) := by decide +kernel
theorem dX0_readKind_3 : decode cX0_readKind 3 = .ok (.iconst 4, 1) := by decide +kernel
theorem dX0_readKind_4 : decode cX0_readKind 4 = .ok (.if_icmp .ge 40, 3) := by decide +kernel
theorem dX0_readKind_7 : decode cX0_readKind 7 = .ok (.aload_n 0, 1) := by decide +kernel
theorem dX0_readKind_8 : decode cX0_readKind 8 = .ok (.invokevirtual 56, 3) := by decide +kernel
theorem dX0_readKind_11 : decode cX0_readKind 11 = .ok (.getstatic 98, 3) := by decide +kernel
theorem dX0_readKind_14 : decode cX0_readKind 14 = .ok (.iload_n 1, 1) := by decide +kernel
theorem dX0_readKind_15 : decode cX0_readKind 15 = .ok (.invokestatic 35, 3) := by decide +kernel
theorem dX0_readKind_18 : decode cX0_readKind 18 = .ok (.if_icmp .ne 20, 3) := by decide +kernel
theorem dX0_readKind_21 : decode cX0_readKind 21 = .ok (.aload_n 0, 1) := by decide +kernel
theorem dX0_readKind_22 : decode cX0_readKind 22 = .ok (.iload_n 1, 1) := by decide +kernel
theorem dX0_readKind_23 : decode cX0_readKind 23 = .ok (.invokevirtual 64, 3) := by decide +kernel
theorem dX0_readKind_26 : decode cX0_readKind 26 = .ok (.aload_n 0, 1) := by decide +kernel
theorem dX0_readKind_27 : decode cX0_readKind 27 = .ok (.dup, 1) := by decide +kernel
theorem dX0_readKind_28 : decode cX0_readKind 28 = .ok (.getfield 28, 3) := by decide +kernel
theorem dX0_readKind_31 : decode cX0_readKind 31 = .ok (.iconst 1, 1) := by decide +kernel
theorem dX0_readKind_32 : decode cX0_readKind 32 = .ok (.iadd, 1) := by decide +kernel
theorem dX0_readKind_33 : decode cX0_readKind 33 = .ok (.putfield 28, 3) := by decide +kernel
theorem dX0_readKind_36 : decode cX0_readKind 36 = .ok (.iconst 1, 1) := by decide +kernel
theorem dX0_readKind_37 : decode cX0_readKind 37 = .ok (.ireturn, 1) := by decide +kernel
theorem dX0_readKind_38 : decode cX0_readKind 38 = .ok (.iinc 1 1, 3) := by decide +kernel
theorem dX0_readKind_41 : decode cX0_readKind 41 = .ok (.goto (-39), 3) := by decide +kernel
theorem dX0_readKind_44 : decode cX0_readKind 44 = .ok (.iconst 0, 1) := by decide +kernel
theorem dX0_readKind_45 : decode cX0_readKind 45 = .ok (.ireturn, 1) := by decide +kernel
set_option maxRecDepth 20000 in
theorem ggX0_readCode_X0_nextCode : GoodIn wsX0_readCode wsX0_nextCode := goodIn_r _ [6, 1, 7, 8, 9, 10, 11, 12, 13, 14, 15, 16, 17] (by decide +kernel) (by decide +kernel)
set_option maxRecDepth 20000 in
theorem gX0_readCode_X0_nextCode : GoodIn wsX0_readCode (wsV RX0 56 RX0 yX0_nextCode wsX0_nextCode) := goodIn_app (goodIn_of _ (by decide +kernel)) ggX0_readCode_X0_nextCode
theorem dX0_readCode_0 : decode cX0_readCode 0 = .ok (.aload_n 0, 1) := by decide +kernel
theorem dX0_readCode_1 : decode cX0_readCode 1 = .ok (.invokevirtual 56, 3) := by decide +kernel
theorem dX0_readCode_4 : decode cX0_readCode 4 = .ok (.iload_n 1, 1) := by decide +kernel
theorem dX0_readCode_5 : decode cX0_readCode 5 = .ok (.if_icmp .eq 5, 3) := by decide +kernel
theorem dX0_readCode_8 : decode cX0_readCode 8 = .ok (.iconst 0, 1) := by decide +kernel
theorem dX0_readCode_9 : decode cX0_readCode 9 = .ok (.ireturn, 1) := by decide +kernel
theorem dX0_readCode_10 : decode cX0_readCode 10 = .ok (.aload_n 0, 1) := by decide +kernel
theorem dX0_readCode_11 : decode cX0_readCode 11 = .ok (.dup, 1) := by decide +kernel
theorem dX0_readCode_12 : decode cX0_readCode 12 = .ok (.getfield 28, 3) := by decide +kernel
theorem dX0_readCode_15 : decode cX0_readCode 15 = .ok (.iconst 1, 1) := by decide +kernel
theorem dX0_readCode_16 : decode cX0_readCode 16 = .ok (.iadd, 1) := by decide +kernel
theorem dX0_readCode_17 : decode cX0_readCode 17 = .ok (.putfield 28, 3) := by decide +kernel
theorem dX0_readCode_20 : decode cX0_readCode 20 = .ok (.iconst 1, 1) := by decide +kernel
theorem dX0_readCode_21 : decode cX0_readCode 21 = .ok (.ireturn, 1) := by decide +kernel
set_option maxRecDepth 20000 in
theorem ggX0_nextCode_X4_at : GoodIn wsX0_nextCode wsX4_at := goodIn_r _ [6] (by decide +kernel) (by decide +kernel)
set_option maxRecDepth 20000 in
theorem gX0_nextCode_X4_at_n35 : GoodIn wsX0_nextCode (wsX4_at) := ggX0_nextCode_X4_at
theorem dX0_nextCode_0 : decode cX0_nextCode 0 = .ok (.aload_n 0, 1) := by decide +kernel
theorem dX0_nextCode_1 : decode cX0_nextCode 1 = .ok (.getfield 28, 3) := by decide +kernel
theorem dX0_nextCode_4 : decode cX0_nextCode 4 = .ok (.aload_n 0, 1) := by decide +kernel
theorem dX0_nextCode_5 : decode cX0_nextCode 5 = .ok (.getfield 15, 3) := by decide +kernel
theorem dX0_nextCode_8 : decode cX0_nextCode 8 = .ok (.if_icmp .ge 17, 3) := by decide +kernel
theorem dX0_nextCode_11 : decode cX0_nextCode 11 = .ok (.aload_n 0, 1) := by decide +kernel
theorem dX0_nextCode_12 : decode cX0_nextCode 12 = .ok (.getfield 9, 3) := by decide +kernel
theorem dX0_nextCode_15 : decode cX0_nextCode 15 = .ok (.aload_n 0, 1) := by decide +kernel
theorem dX0_nextCode_16 : decode cX0_nextCode 16 = .ok (.getfield 28, 3) := by decide +kernel
theorem dX0_nextCode_19 : decode cX0_nextCode 19 = .ok (.invokestatic 35, 3) := by decide +kernel
theorem dX0_nextCode_22 : decode cX0_nextCode 22 = .ok (.goto 5, 3) := by decide +kernel
theorem dX0_nextCode_25 : decode cX0_nextCode 25 = .ok (.bipush (-11), 2) := by decide +kernel
theorem dX0_nextCode_27 : decode cX0_nextCode 27 = .ok (.ireturn, 1) := by decide +kernel
set_option maxRecDepth 20000 in
theorem ggX0_addCell_X4_put : GoodIn wsX0_addCell wsX4_put := goodIn_r _ [5] (by decide +kernel) (by decide +kernel)
set_option maxRecDepth 20000 in
theorem gX0_addCell_X4_put_n31 : GoodIn wsX0_addCell (wsX4_put) := ggX0_addCell_X4_put
theorem dX0_addCell_0 : decode cX0_addCell 0 = .ok (.aload_n 0, 1) := by decide +kernel
theorem dX0_addCell_1 : decode cX0_addCell 1 = .ok (.getfield 19, 3) := by decide +kernel
theorem dX0_addCell_4 : decode cX0_addCell 4 = .ok (.aload_n 0, 1) := by decide +kernel
theorem dX0_addCell_5 : decode cX0_addCell 5 = .ok (.getfield 25, 3) := by decide +kernel
theorem dX0_addCell_8 : decode cX0_addCell 8 = .ok (.iload_n 1, 1) := by decide +kernel
theorem dX0_addCell_9 : decode cX0_addCell 9 = .ok (.invokestatic 31, 3) := by decide +kernel
theorem dX0_addCell_12 : decode cX0_addCell 12 = .ok (.aload_n 0, 1) := by decide +kernel
theorem dX0_addCell_13 : decode cX0_addCell 13 = .ok (.dup, 1) := by decide +kernel
theorem dX0_addCell_14 : decode cX0_addCell 14 = .ok (.getfield 25, 3) := by decide +kernel
theorem dX0_addCell_17 : decode cX0_addCell 17 = .ok (.iconst 1, 1) := by decide +kernel
theorem dX0_addCell_18 : decode cX0_addCell 18 = .ok (.iadd, 1) := by decide +kernel
theorem dX0_addCell_19 : decode cX0_addCell 19 = .ok (.putfield 25, 3) := by decide +kernel
theorem dX0_addCell_22 : decode cX0_addCell 22 = .ok (.return_, 1) := by decide +kernel
theorem dX1_init_0 : decode cX1_init 0 = .ok (.aload_n 0, 1) := by decide +kernel
theorem dX1_init_1 : decode cX1_init 1 = .ok (.invokespecial 3, 3) := by decide +kernel
theorem dX1_init_4 : decode cX1_init 4 = .ok (.aload_n 0, 1) := by decide +kernel
theorem dX1_init_5 : decode cX1_init 5 = .ok (.bipush 39, 2) := by decide +kernel
theorem dX1_init_7 : decode cX1_init 7 = .ok (.newarray .int, 2) := by decide +kernel
theorem dX1_init_9 : decode cX1_init 9 = .ok (.putfield 9, 3) := by decide +kernel
theorem dX1_init_12 : decode cX1_init 12 = .ok (.aload_n 0, 1) := by decide +kernel
theorem dX1_init_13 : decode cX1_init 13 = .ok (.iconst 0, 1) := by decide +kernel
theorem dX1_init_14 : decode cX1_init 14 = .ok (.putfield 15, 3) := by decide +kernel
theorem dX1_init_17 : decode cX1_init 17 = .ok (.return_, 1) := by decide +kernel
theorem dX1_size_0 : decode cX1_size 0 = .ok (.aload_n 0, 1) := by decide +kernel
theorem dX1_size_1 : decode cX1_size 1 = .ok (.getfield 15, 3) := by decide +kernel
theorem dX1_size_4 : decode cX1_size 4 = .ok (.ireturn, 1) := by decide +kernel
theorem dX1_becomeEmpty_0 : decode cX1_becomeEmpty 0 = .ok (.aload_n 0, 1) := by decide +kernel
theorem dX1_becomeEmpty_1 : decode cX1_becomeEmpty 1 = .ok (.iconst 0, 1) := by decide +kernel
theorem dX1_becomeEmpty_2 : decode cX1_becomeEmpty 2 = .ok (.putfield 15, 3) := by decide +kernel
theorem dX1_becomeEmpty_5 : decode cX1_becomeEmpty 5 = .ok (.return_, 1) := by decide +kernel
set_option maxRecDepth 20000 in
theorem ggX1_addCode_X4_put : GoodIn wsX1_addCode wsX4_put := goodIn_r _ [5] (by decide +kernel) (by decide +kernel)
set_option maxRecDepth 20000 in
theorem gX1_addCode_X4_put_n19 : GoodIn wsX1_addCode (wsX4_put) := ggX1_addCode_X4_put
theorem dX1_addCode_0 : decode cX1_addCode 0 = .ok (.aload_n 0, 1) := by decide +kernel
theorem dX1_addCode_1 : decode cX1_addCode 1 = .ok (.getfield 15, 3) := by decide +kernel
theorem dX1_addCode_4 : decode cX1_addCode 4 = .ok (.bipush 39, 2) := by decide +kernel
theorem dX1_addCode_6 : decode cX1_addCode 6 = .ok (.if_icmp .ge 25, 3) := by decide +kernel
theorem dX1_addCode_9 : decode cX1_addCode 9 = .ok (.aload_n 0, 1) := by decide +kernel
theorem dX1_addCode_10 : decode cX1_addCode 10 = .ok (.getfield 9, 3) := by decide +kernel
theorem dX1_addCode_13 : decode cX1_addCode 13 = .ok (.aload_n 0, 1) := by decide +kernel
theorem dX1_addCode_14 : decode cX1_addCode 14 = .ok (.getfield 15, 3) := by decide +kernel
theorem dX1_addCode_17 : decode cX1_addCode 17 = .ok (.iload_n 1, 1) := by decide +kernel
theorem dX1_addCode_18 : decode cX1_addCode 18 = .ok (.invokestatic 19, 3) := by decide +kernel
theorem dX1_addCode_21 : decode cX1_addCode 21 = .ok (.aload_n 0, 1) := by decide +kernel
theorem dX1_addCode_22 : decode cX1_addCode 22 = .ok (.dup, 1) := by decide +kernel
theorem dX1_addCode_23 : decode cX1_addCode 23 = .ok (.getfield 15, 3) := by decide +kernel
theorem dX1_addCode_26 : decode cX1_addCode 26 = .ok (.iconst 1, 1) := by decide +kernel
theorem dX1_addCode_27 : decode cX1_addCode 27 = .ok (.iadd, 1) := by decide +kernel
theorem dX1_addCode_28 : decode cX1_addCode 28 = .ok (.putfield 15, 3) := by decide +kernel
theorem dX1_addCode_31 : decode cX1_addCode 31 = .ok (.return_, 1) := by decide +kernel
set_option maxRecDepth 20000 in
theorem ggX1_addNumber_X1_addCode : GoodIn wsX1_addNumber wsX1_addCode := goodIn_r _ [5, 6, 7, 8, 9, 10, 11, 12] (by decide +kernel) (by decide +kernel)
set_option maxRecDepth 20000 in
theorem gX1_addNumber_X1_addCode : GoodIn wsX1_addNumber (wsV RX1 23 RX1 yX1_addCode wsX1_addCode) := goodIn_app (goodIn_of _ (by decide +kernel)) ggX1_addNumber_X1_addCode
theorem dX1_addNumber_0 : decode cX1_addNumber 0 = .ok (.sipush 1000, 3) := by decide +kernel
theorem dX1_addNumber_3 : decode cX1_addNumber 3 = .ok (.istore_n 2, 1) := by decide +kernel
theorem dX1_addNumber_4 : decode cX1_addNumber 4 = .ok (.iload_n 2, 1) := by decide +kernel
theorem dX1_addNumber_5 : decode cX1_addNumber 5 = .ok (.iconst 1, 1) := by decide +kernel
theorem dX1_addNumber_6 : decode cX1_addNumber 6 = .ok (.if_icmp .lt 34, 3) := by decide +kernel
theorem dX1_addNumber_9 : decode cX1_addNumber 9 = .ok (.iload_n 1, 1) := by decide +kernel
theorem dX1_addNumber_10 : decode cX1_addNumber 10 = .ok (.iload_n 2, 1) := by decide +kernel
theorem dX1_addNumber_11 : decode cX1_addNumber 11 = .ok (.if_icmp .ge 8, 3) := by decide +kernel
theorem dX1_addNumber_14 : decode cX1_addNumber 14 = .ok (.iload_n 2, 1) := by decide +kernel
theorem dX1_addNumber_15 : decode cX1_addNumber 15 = .ok (.iconst 1, 1) := by decide +kernel
theorem dX1_addNumber_16 : decode cX1_addNumber 16 = .ok (.if_icmp .ne 16, 3) := by decide +kernel
theorem dX1_addNumber_19 : decode cX1_addNumber 19 = .ok (.aload_n 0, 1) := by decide +kernel
theorem dX1_addNumber_20 : decode cX1_addNumber 20 = .ok (.bipush 48, 2) := by decide +kernel
theorem dX1_addNumber_22 : decode cX1_addNumber 22 = .ok (.iload_n 1, 1) := by decide +kernel
theorem dX1_addNumber_23 : decode cX1_addNumber 23 = .ok (.iload_n 2, 1) := by decide +kernel
theorem dX1_addNumber_24 : decode cX1_addNumber 24 = .ok (.idiv, 1) := by decide +kernel
theorem dX1_addNumber_25 : decode cX1_addNumber 25 = .ok (.bipush 10, 2) := by decide +kernel
theorem dX1_addNumber_27 : decode cX1_addNumber 27 = .ok (.irem, 1) := by decide +kernel
theorem dX1_addNumber_28 : decode cX1_addNumber 28 = .ok (.iadd, 1) := by decide +kernel
theorem dX1_addNumber_29 : decode cX1_addNumber 29 = .ok (.invokevirtual 23, 3) := by decide +kernel
theorem dX1_addNumber_32 : decode cX1_addNumber 32 = .ok (.iload_n 2, 1) := by decide +kernel
theorem dX1_addNumber_33 : decode cX1_addNumber 33 = .ok (.bipush 10, 2) := by decide +kernel
theorem dX1_addNumber_35 : decode cX1_addNumber 35 = .ok (.idiv, 1) := by decide +kernel
theorem dX1_addNumber_36 : decode cX1_addNumber 36 = .ok (.istore_n 2, 1) := by decide +kernel
theorem dX1_addNumber_37 : decode cX1_addNumber 37 = .ok (.goto (-33), 3) := by decide +kernel
theorem dX1_addNumber_40 : decode cX1_addNumber 40 = .ok (.return_, 1) := by decide +kernel
set_option maxRecDepth 20000 in
theorem ggX1_codeAt_X4_isWithin : GoodIn wsX1_codeAt wsX4_isWithin := goodIn_r _ [5] (by decide +kernel) (by decide +kernel)
set_option maxRecDepth 20000 in
theorem gX1_codeAt_X4_isWithin_n27 : GoodIn wsX1_codeAt (wsX4_isWithin) := ggX1_codeAt_X4_isWithin
set_option maxRecDepth 20000 in
theorem ggX1_codeAt_X4_at : GoodIn wsX1_codeAt wsX4_at := goodIn_r _ [7] (by decide +kernel) (by decide +kernel)
set_option maxRecDepth 20000 in
theorem gX1_codeAt_X4_at_n31 : GoodIn wsX1_codeAt (wsX4_at) := ggX1_codeAt_X4_at
theorem dX1_codeAt_0 : decode cX1_codeAt 0 = .ok (.iload_n 1, 1) := by decide +kernel
theorem dX1_codeAt_1 : decode cX1_codeAt 1 = .ok (.iconst 0, 1) := by decide +kernel
theorem dX1_codeAt_2 : decode cX1_codeAt 2 = .ok (.aload_n 0, 1) := by decide +kernel
theorem dX1_codeAt_3 : decode cX1_codeAt 3 = .ok (.getfield 15, 3) := by decide +kernel
theorem dX1_codeAt_6 : decode cX1_codeAt 6 = .ok (.iconst 1, 1) := by decide +kernel
theorem dX1_codeAt_7 : decode cX1_codeAt 7 = .ok (.isub, 1) := by decide +kernel
theorem dX1_codeAt_8 : decode cX1_codeAt 8 = .ok (.invokestatic 27, 3) := by decide +kernel
theorem dX1_codeAt_11 : decode cX1_codeAt 11 = .ok (.ifCond .eq 14, 3) := by decide +kernel
theorem dX1_codeAt_14 : decode cX1_codeAt 14 = .ok (.aload_n 0, 1) := by decide +kernel
theorem dX1_codeAt_15 : decode cX1_codeAt 15 = .ok (.getfield 9, 3) := by decide +kernel
theorem dX1_codeAt_18 : decode cX1_codeAt 18 = .ok (.iload_n 1, 1) := by decide +kernel
theorem dX1_codeAt_19 : decode cX1_codeAt 19 = .ok (.invokestatic 31, 3) := by decide +kernel
theorem dX1_codeAt_22 : decode cX1_codeAt 22 = .ok (.goto 5, 3) := by decide +kernel
theorem dX1_codeAt_25 : decode cX1_codeAt 25 = .ok (.bipush (-11), 2) := by decide +kernel
theorem dX1_codeAt_27 : decode cX1_codeAt 27 = .ok (.ireturn, 1) := by decide +kernel
set_option maxRecDepth 20000 in
theorem ggX2_init_X3_init : GoodIn wsX2_init wsX3_init := goodIn_r _ [12, 13, 2, 3, 14, 15, 16, 17, 18, 19, 20, 24, 25, 26, 27, 28, 29] (by decide +kernel) (by decide +kernel)
set_option maxRecDepth 20000 in
theorem gX2_init_X3_init : GoodIn wsX2_init (wsX3_init) := ggX2_init_X3_init
theorem dX2_init_0 : decode cX2_init 0 = .ok (.aload_n 0, 1) := by decide +kernel
theorem dX2_init_1 : decode cX2_init 1 = .ok (.invokespecial 3, 3) := by decide +kernel
theorem dX2_init_4 : decode cX2_init 4 = .ok (.aload_n 0, 1) := by decide +kernel
theorem dX2_init_5 : decode cX2_init 5 = .ok (.bipush 8, 2) := by decide +kernel
theorem dX2_init_7 : decode cX2_init 7 = .ok (.anewarray 9, 3) := by decide +kernel
theorem dX2_init_10 : decode cX2_init 10 = .ok (.putfield 11, 3) := by decide +kernel
theorem dX2_init_13 : decode cX2_init 13 = .ok (.aload_n 0, 1) := by decide +kernel
theorem dX2_init_14 : decode cX2_init 14 = .ok (.iconst 0, 1) := by decide +kernel
theorem dX2_init_15 : decode cX2_init 15 = .ok (.putfield 17, 3) := by decide +kernel
theorem dX2_init_18 : decode cX2_init 18 = .ok (.aload_n 0, 1) := by decide +kernel
theorem dX2_init_19 : decode cX2_init 19 = .ok (.iconst 0, 1) := by decide +kernel
theorem dX2_init_20 : decode cX2_init 20 = .ok (.putfield 21, 3) := by decide +kernel
theorem dX2_init_23 : decode cX2_init 23 = .ok (.iconst 0, 1) := by decide +kernel
theorem dX2_init_24 : decode cX2_init 24 = .ok (.istore_n 1, 1) := by decide +kernel
theorem dX2_init_25 : decode cX2_init 25 = .ok (.iload_n 1, 1) := by decide +kernel
theorem dX2_init_26 : decode cX2_init 26 = .ok (.aload_n 0, 1) := by decide +kernel
theorem dX2_init_27 : decode cX2_init 27 = .ok (.getfield 11, 3) := by decide +kernel
theorem dX2_init_30 : decode cX2_init 30 = .ok (.arraylength, 1) := by decide +kernel
theorem dX2_init_31 : decode cX2_init 31 = .ok (.if_icmp .ge 22, 3) := by decide +kernel
theorem dX2_init_34 : decode cX2_init 34 = .ok (.aload_n 0, 1) := by decide +kernel
theorem dX2_init_35 : decode cX2_init 35 = .ok (.getfield 11, 3) := by decide +kernel
theorem dX2_init_38 : decode cX2_init 38 = .ok (.iload_n 1, 1) := by decide +kernel
theorem dX2_init_39 : decode cX2_init 39 = .ok (.new 9, 3) := by decide +kernel
theorem dX2_init_42 : decode cX2_init 42 = .ok (.dup, 1) := by decide +kernel
theorem dX2_init_43 : decode cX2_init 43 = .ok (.invokespecial 24, 3) := by decide +kernel
theorem dX2_init_46 : decode cX2_init 46 = .ok (.aastore, 1) := by decide +kernel
theorem dX2_init_47 : decode cX2_init 47 = .ok (.iinc 1 1, 3) := by decide +kernel
theorem dX2_init_50 : decode cX2_init 50 = .ok (.goto (-25), 3) := by decide +kernel
theorem dX2_init_53 : decode cX2_init 53 = .ok (.return_, 1) := by decide +kernel
theorem dX2_size_0 : decode cX2_size 0 = .ok (.aload_n 0, 1) := by decide +kernel
theorem dX2_size_1 : decode cX2_size 1 = .ok (.getfield 21, 3) := by decide +kernel
theorem dX2_size_4 : decode cX2_size 4 = .ok (.ireturn, 1) := by decide +kernel
set_option maxRecDepth 20000 in
theorem ggX2_keep_X3_copyFrom : GoodIn wsX2_keep wsX3_copyFrom := goodIn_r _ [12, 13, 14, 15, 16, 17, 18, 19, 20, 21, 25, 26, 27, 28, 29, 30] (by decide +kernel) (by decide +kernel)
set_option maxRecDepth 20000 in
theorem gX2_keep_X3_copyFrom : GoodIn wsX2_keep (wsV RX2 25 RX3 yX3_copyFrom wsX3_copyFrom) := goodIn_app (goodIn_of _ (by decide +kernel)) ggX2_keep_X3_copyFrom
theorem dX2_keep_0 : decode cX2_keep 0 = .ok (.aload_n 0, 1) := by decide +kernel
theorem dX2_keep_1 : decode cX2_keep 1 = .ok (.getfield 17, 3) := by decide +kernel
theorem dX2_keep_4 : decode cX2_keep 4 = .ok (.ifCond .lt 40, 3) := by decide +kernel
theorem dX2_keep_7 : decode cX2_keep 7 = .ok (.aload_n 0, 1) := by decide +kernel
theorem dX2_keep_8 : decode cX2_keep 8 = .ok (.getfield 17, 3) := by decide +kernel
theorem dX2_keep_11 : decode cX2_keep 11 = .ok (.aload_n 0, 1) := by decide +kernel
theorem dX2_keep_12 : decode cX2_keep 12 = .ok (.getfield 11, 3) := by decide +kernel
theorem dX2_keep_15 : decode cX2_keep 15 = .ok (.arraylength, 1) := by decide +kernel
theorem dX2_keep_16 : decode cX2_keep 16 = .ok (.if_icmp .ge 28, 3) := by decide +kernel
theorem dX2_keep_19 : decode cX2_keep 19 = .ok (.aload_n 0, 1) := by decide +kernel
theorem dX2_keep_20 : decode cX2_keep 20 = .ok (.getfield 11, 3) := by decide +kernel
theorem dX2_keep_23 : decode cX2_keep 23 = .ok (.aload_n 0, 1) := by decide +kernel
theorem dX2_keep_24 : decode cX2_keep 24 = .ok (.getfield 17, 3) := by decide +kernel
theorem dX2_keep_27 : decode cX2_keep 27 = .ok (.aaload, 1) := by decide +kernel
theorem dX2_keep_28 : decode cX2_keep 28 = .ok (.ifnull 16, 3) := by decide +kernel
theorem dX2_keep_31 : decode cX2_keep 31 = .ok (.aload_n 0, 1) := by decide +kernel
theorem dX2_keep_32 : decode cX2_keep 32 = .ok (.getfield 11, 3) := by decide +kernel
theorem dX2_keep_35 : decode cX2_keep 35 = .ok (.aload_n 0, 1) := by decide +kernel
theorem dX2_keep_36 : decode cX2_keep 36 = .ok (.getfield 17, 3) := by decide +kernel
theorem dX2_keep_39 : decode cX2_keep 39 = .ok (.aaload, 1) := by decide +kernel
theorem dX2_keep_40 : decode cX2_keep 40 = .ok (.aload_n 1, 1) := by decide +kernel
theorem dX2_keep_41 : decode cX2_keep 41 = .ok (.invokevirtual 25, 3) := by decide +kernel
theorem dX2_keep_44 : decode cX2_keep 44 = .ok (.aload_n 0, 1) := by decide +kernel
theorem dX2_keep_45 : decode cX2_keep 45 = .ok (.aload_n 0, 1) := by decide +kernel
theorem dX2_keep_46 : decode cX2_keep 46 = .ok (.getfield 17, 3) := by decide +kernel
theorem dX2_keep_49 : decode cX2_keep 49 = .ok (.iconst 1, 1) := by decide +kernel
theorem dX2_keep_50 : decode cX2_keep 50 = .ok (.iadd, 1) := by decide +kernel
theorem dX2_keep_51 : decode cX2_keep 51 = .ok (.bipush 8, 2) := by decide +kernel
theorem dX2_keep_53 : decode cX2_keep 53 = .ok (.irem, 1) := by decide +kernel
theorem dX2_keep_54 : decode cX2_keep 54 = .ok (.putfield 17, 3) := by decide +kernel
theorem dX2_keep_57 : decode cX2_keep 57 = .ok (.aload_n 0, 1) := by decide +kernel
theorem dX2_keep_58 : decode cX2_keep 58 = .ok (.aload_n 0, 1) := by decide +kernel
theorem dX2_keep_59 : decode cX2_keep 59 = .ok (.getfield 21, 3) := by decide +kernel
theorem dX2_keep_62 : decode cX2_keep 62 = .ok (.iconst 1, 1) := by decide +kernel
theorem dX2_keep_63 : decode cX2_keep 63 = .ok (.iadd, 1) := by decide +kernel
theorem dX2_keep_64 : decode cX2_keep 64 = .ok (.bipush 8, 2) := by decide +kernel
theorem dX2_keep_66 : decode cX2_keep 66 = .ok (.invokestatic 29, 3) := by decide +kernel
theorem dX2_keep_69 : decode cX2_keep 69 = .ok (.putfield 21, 3) := by decide +kernel
theorem dX2_keep_72 : decode cX2_keep 72 = .ok (.return_, 1) := by decide +kernel
set_option maxRecDepth 20000 in
theorem ggX2_giveBack_X3_copyFrom : GoodIn wsX2_giveBack wsX3_copyFrom := goodIn_r _ [12, 13, 14, 15, 16, 17, 18, 19, 20, 21, 25, 26, 27, 28, 29, 30] (by decide +kernel) (by decide +kernel)
set_option maxRecDepth 20000 in
theorem gX2_giveBack_X3_copyFrom : GoodIn wsX2_giveBack (wsV RX2 25 RX3 yX3_copyFrom wsX3_copyFrom) := goodIn_app (goodIn_of _ (by decide +kernel)) ggX2_giveBack_X3_copyFrom
theorem dX2_giveBack_0 : decode cX2_giveBack 0 = .ok (.aload_n 0, 1) := by decide +kernel
theorem dX2_giveBack_1 : decode cX2_giveBack 1 = .ok (.aload_n 0, 1) := by decide +kernel
theorem dX2_giveBack_2 : decode cX2_giveBack 2 = .ok (.getfield 17, 3) := by decide +kernel
theorem dX2_giveBack_5 : decode cX2_giveBack 5 = .ok (.bipush 8, 2) := by decide +kernel
theorem dX2_giveBack_7 : decode cX2_giveBack 7 = .ok (.iadd, 1) := by decide +kernel
theorem dX2_giveBack_8 : decode cX2_giveBack 8 = .ok (.iconst 1, 1) := by decide +kernel
theorem dX2_giveBack_9 : decode cX2_giveBack 9 = .ok (.isub, 1) := by decide +kernel
theorem dX2_giveBack_10 : decode cX2_giveBack 10 = .ok (.bipush 8, 2) := by decide +kernel
theorem dX2_giveBack_12 : decode cX2_giveBack 12 = .ok (.irem, 1) := by decide +kernel
theorem dX2_giveBack_13 : decode cX2_giveBack 13 = .ok (.putfield 17, 3) := by decide +kernel
theorem dX2_giveBack_16 : decode cX2_giveBack 16 = .ok (.aload_n 0, 1) := by decide +kernel
theorem dX2_giveBack_17 : decode cX2_giveBack 17 = .ok (.aload_n 0, 1) := by decide +kernel
theorem dX2_giveBack_18 : decode cX2_giveBack 18 = .ok (.getfield 21, 3) := by decide +kernel
theorem dX2_giveBack_21 : decode cX2_giveBack 21 = .ok (.iconst 1, 1) := by decide +kernel
theorem dX2_giveBack_22 : decode cX2_giveBack 22 = .ok (.isub, 1) := by decide +kernel
theorem dX2_giveBack_23 : decode cX2_giveBack 23 = .ok (.iconst 0, 1) := by decide +kernel
theorem dX2_giveBack_24 : decode cX2_giveBack 24 = .ok (.invokestatic 35, 3) := by decide +kernel
theorem dX2_giveBack_27 : decode cX2_giveBack 27 = .ok (.putfield 21, 3) := by decide +kernel
theorem dX2_giveBack_30 : decode cX2_giveBack 30 = .ok (.aload_n 0, 1) := by decide +kernel
theorem dX2_giveBack_31 : decode cX2_giveBack 31 = .ok (.getfield 17, 3) := by decide +kernel
theorem dX2_giveBack_34 : decode cX2_giveBack 34 = .ok (.ifCond .lt 40, 3) := by decide +kernel
theorem dX2_giveBack_37 : decode cX2_giveBack 37 = .ok (.aload_n 0, 1) := by decide +kernel
theorem dX2_giveBack_38 : decode cX2_giveBack 38 = .ok (.getfield 17, 3) := by decide +kernel
theorem dX2_giveBack_41 : decode cX2_giveBack 41 = .ok (.aload_n 0, 1) := by decide +kernel
theorem dX2_giveBack_42 : decode cX2_giveBack 42 = .ok (.getfield 11, 3) := by decide +kernel
theorem dX2_giveBack_45 : decode cX2_giveBack 45 = .ok (.arraylength, 1) := by decide +kernel
theorem dX2_giveBack_46 : decode cX2_giveBack 46 = .ok (.if_icmp .ge 28, 3) := by decide +kernel
theorem dX2_giveBack_49 : decode cX2_giveBack 49 = .ok (.aload_n 0, 1) := by decide +kernel
theorem dX2_giveBack_50 : decode cX2_giveBack 50 = .ok (.getfield 11, 3) := by decide +kernel
theorem dX2_giveBack_53 : decode cX2_giveBack 53 = .ok (.aload_n 0, 1) := by decide +kernel
theorem dX2_giveBack_54 : decode cX2_giveBack 54 = .ok (.getfield 17, 3) := by decide +kernel
theorem dX2_giveBack_57 : decode cX2_giveBack 57 = .ok (.aaload, 1) := by decide +kernel
theorem dX2_giveBack_58 : decode cX2_giveBack 58 = .ok (.ifnull 16, 3) := by decide +kernel
theorem dX2_giveBack_61 : decode cX2_giveBack 61 = .ok (.aload_n 1, 1) := by decide +kernel
theorem dX2_giveBack_62 : decode cX2_giveBack 62 = .ok (.aload_n 0, 1) := by decide +kernel
theorem dX2_giveBack_63 : decode cX2_giveBack 63 = .ok (.getfield 11, 3) := by decide +kernel
theorem dX2_giveBack_66 : decode cX2_giveBack 66 = .ok (.aload_n 0, 1) := by decide +kernel
theorem dX2_giveBack_67 : decode cX2_giveBack 67 = .ok (.getfield 17, 3) := by decide +kernel
theorem dX2_giveBack_70 : decode cX2_giveBack 70 = .ok (.aaload, 1) := by decide +kernel
theorem dX2_giveBack_71 : decode cX2_giveBack 71 = .ok (.invokevirtual 25, 3) := by decide +kernel
theorem dX2_giveBack_74 : decode cX2_giveBack 74 = .ok (.return_, 1) := by decide +kernel
theorem dX2_forget_0 : decode cX2_forget 0 = .ok (.aload_n 0, 1) := by decide +kernel
theorem dX2_forget_1 : decode cX2_forget 1 = .ok (.iconst 0, 1) := by decide +kernel
theorem dX2_forget_2 : decode cX2_forget 2 = .ok (.putfield 21, 3) := by decide +kernel
theorem dX2_forget_5 : decode cX2_forget 5 = .ok (.return_, 1) := by decide +kernel
theorem dX3_init_0 : decode cX3_init 0 = .ok (.aload_n 0, 1) := by decide +kernel
theorem dX3_init_1 : decode cX3_init 1 = .ok (.invokespecial 3, 3) := by decide +kernel
theorem dX3_init_4 : decode cX3_init 4 = .ok (.aload_n 0, 1) := by decide +kernel
theorem dX3_init_5 : decode cX3_init 5 = .ok (.bipush 32, 2) := by decide +kernel
theorem dX3_init_7 : decode cX3_init 7 = .ok (.newarray .int, 2) := by decide +kernel
theorem dX3_init_9 : decode cX3_init 9 = .ok (.putfield 9, 3) := by decide +kernel
theorem dX3_init_12 : decode cX3_init 12 = .ok (.aload_n 0, 1) := by decide +kernel
theorem dX3_init_13 : decode cX3_init 13 = .ok (.bipush 32, 2) := by decide +kernel
theorem dX3_init_15 : decode cX3_init 15 = .ok (.newarray .int, 2) := by decide +kernel
theorem dX3_init_17 : decode cX3_init 17 = .ok (.putfield 15, 3) := by decide +kernel
theorem dX3_init_20 : decode cX3_init 20 = .ok (.aload_n 0, 1) := by decide +kernel
theorem dX3_init_21 : decode cX3_init 21 = .ok (.bipush 32, 2) := by decide +kernel
theorem dX3_init_23 : decode cX3_init 23 = .ok (.newarray .int, 2) := by decide +kernel
theorem dX3_init_25 : decode cX3_init 25 = .ok (.putfield 18, 3) := by decide +kernel
theorem dX3_init_28 : decode cX3_init 28 = .ok (.aload_n 0, 1) := by decide +kernel
theorem dX3_init_29 : decode cX3_init 29 = .ok (.bipush 33, 2) := by decide +kernel
theorem dX3_init_31 : decode cX3_init 31 = .ok (.newarray .int, 2) := by decide +kernel
theorem dX3_init_33 : decode cX3_init 33 = .ok (.putfield 21, 3) := by decide +kernel
theorem dX3_init_36 : decode cX3_init 36 = .ok (.aload_n 0, 1) := by decide +kernel
theorem dX3_init_37 : decode cX3_init 37 = .ok (.bipush 33, 2) := by decide +kernel
theorem dX3_init_39 : decode cX3_init 39 = .ok (.newarray .int, 2) := by decide +kernel
theorem dX3_init_41 : decode cX3_init 41 = .ok (.putfield 24, 3) := by decide +kernel
theorem dX3_init_44 : decode cX3_init 44 = .ok (.aload_n 0, 1) := by decide +kernel
theorem dX3_init_45 : decode cX3_init 45 = .ok (.bipush 16, 2) := by decide +kernel
theorem dX3_init_47 : decode cX3_init 47 = .ok (.newarray .int, 2) := by decide +kernel
theorem dX3_init_49 : decode cX3_init 49 = .ok (.putfield 27, 3) := by decide +kernel
theorem dX3_init_52 : decode cX3_init 52 = .ok (.iconst 1, 1) := by decide +kernel
theorem dX3_init_53 : decode cX3_init 53 = .ok (.aload_n 0, 1) := by decide +kernel
theorem dX3_init_54 : decode cX3_init 54 = .ok (.getfield 27, 3) := by decide +kernel
theorem dX3_init_57 : decode cX3_init 57 = .ok (.arraylength, 1) := by decide +kernel
theorem dX3_init_58 : decode cX3_init 58 = .ok (.if_icmp .ge 11, 3) := by decide +kernel
theorem dX3_init_61 : decode cX3_init 61 = .ok (.aload_n 0, 1) := by decide +kernel
theorem dX3_init_62 : decode cX3_init 62 = .ok (.getfield 27, 3) := by decide +kernel
theorem dX3_init_65 : decode cX3_init 65 = .ok (.iconst 1, 1) := by decide +kernel
theorem dX3_init_66 : decode cX3_init 66 = .ok (.bipush 50, 2) := by decide +kernel
theorem dX3_init_68 : decode cX3_init 68 = .ok (.iastore, 1) := by decide +kernel
theorem dX3_init_69 : decode cX3_init 69 = .ok (.return_, 1) := by decide +kernel
set_option maxRecDepth 20000 in
theorem ggX3_copyFrom_X4_copyRow : GoodIn wsX3_copyFrom wsX4_copyRow := goodIn_r _ [9] (by decide +kernel) (by decide +kernel)
set_option maxRecDepth 20000 in
theorem gX3_copyFrom_X4_copyRow_n30 : GoodIn wsX3_copyFrom (wsX4_copyRow) := ggX3_copyFrom_X4_copyRow
theorem dX3_copyFrom_0 : decode cX3_copyFrom 0 = .ok (.aload_n 1, 1) := by decide +kernel
theorem dX3_copyFrom_1 : decode cX3_copyFrom 1 = .ok (.getfield 9, 3) := by decide +kernel
theorem dX3_copyFrom_4 : decode cX3_copyFrom 4 = .ok (.aload_n 0, 1) := by decide +kernel
theorem dX3_copyFrom_5 : decode cX3_copyFrom 5 = .ok (.getfield 9, 3) := by decide +kernel
theorem dX3_copyFrom_8 : decode cX3_copyFrom 8 = .ok (.invokestatic 30, 3) := by decide +kernel
theorem dX3_copyFrom_11 : decode cX3_copyFrom 11 = .ok (.aload_n 1, 1) := by decide +kernel
theorem dX3_copyFrom_12 : decode cX3_copyFrom 12 = .ok (.getfield 15, 3) := by decide +kernel
theorem dX3_copyFrom_15 : decode cX3_copyFrom 15 = .ok (.aload_n 0, 1) := by decide +kernel
theorem dX3_copyFrom_16 : decode cX3_copyFrom 16 = .ok (.getfield 15, 3) := by decide +kernel
theorem dX3_copyFrom_19 : decode cX3_copyFrom 19 = .ok (.invokestatic 30, 3) := by decide +kernel
theorem dX3_copyFrom_22 : decode cX3_copyFrom 22 = .ok (.aload_n 1, 1) := by decide +kernel
theorem dX3_copyFrom_23 : decode cX3_copyFrom 23 = .ok (.getfield 18, 3) := by decide +kernel
theorem dX3_copyFrom_26 : decode cX3_copyFrom 26 = .ok (.aload_n 0, 1) := by decide +kernel
theorem dX3_copyFrom_27 : decode cX3_copyFrom 27 = .ok (.getfield 18, 3) := by decide +kernel
theorem dX3_copyFrom_30 : decode cX3_copyFrom 30 = .ok (.invokestatic 30, 3) := by decide +kernel
theorem dX3_copyFrom_33 : decode cX3_copyFrom 33 = .ok (.aload_n 1, 1) := by decide +kernel
theorem dX3_copyFrom_34 : decode cX3_copyFrom 34 = .ok (.getfield 21, 3) := by decide +kernel
theorem dX3_copyFrom_37 : decode cX3_copyFrom 37 = .ok (.aload_n 0, 1) := by decide +kernel
theorem dX3_copyFrom_38 : decode cX3_copyFrom 38 = .ok (.getfield 21, 3) := by decide +kernel
theorem dX3_copyFrom_41 : decode cX3_copyFrom 41 = .ok (.invokestatic 30, 3) := by decide +kernel
theorem dX3_copyFrom_44 : decode cX3_copyFrom 44 = .ok (.aload_n 1, 1) := by decide +kernel
theorem dX3_copyFrom_45 : decode cX3_copyFrom 45 = .ok (.getfield 24, 3) := by decide +kernel
theorem dX3_copyFrom_48 : decode cX3_copyFrom 48 = .ok (.aload_n 0, 1) := by decide +kernel
theorem dX3_copyFrom_49 : decode cX3_copyFrom 49 = .ok (.getfield 24, 3) := by decide +kernel
theorem dX3_copyFrom_52 : decode cX3_copyFrom 52 = .ok (.invokestatic 30, 3) := by decide +kernel
theorem dX3_copyFrom_55 : decode cX3_copyFrom 55 = .ok (.aload_n 1, 1) := by decide +kernel
theorem dX3_copyFrom_56 : decode cX3_copyFrom 56 = .ok (.getfield 27, 3) := by decide +kernel
theorem dX3_copyFrom_59 : decode cX3_copyFrom 59 = .ok (.aload_n 0, 1) := by decide +kernel
theorem dX3_copyFrom_60 : decode cX3_copyFrom 60 = .ok (.getfield 27, 3) := by decide +kernel
theorem dX3_copyFrom_63 : decode cX3_copyFrom 63 = .ok (.invokestatic 30, 3) := by decide +kernel
theorem dX3_copyFrom_66 : decode cX3_copyFrom 66 = .ok (.return_, 1) := by decide +kernel
set_option maxRecDepth 20000 in
theorem ggX3_isEmpty_X4_at : GoodIn wsX3_isEmpty wsX4_at := goodIn_r _ [4] (by decide +kernel) (by decide +kernel)
set_option maxRecDepth 20000 in
theorem gX3_isEmpty_X4_at_n34 : GoodIn wsX3_isEmpty (wsX4_at) := ggX3_isEmpty_X4_at
theorem dX3_isEmpty_0 : decode cX3_isEmpty 0 = .ok (.aload_n 0, 1) := by decide +kernel
theorem dX3_isEmpty_1 : decode cX3_isEmpty 1 = .ok (.getfield 15, 3) := by decide +kernel
theorem dX3_isEmpty_4 : decode cX3_isEmpty 4 = .ok (.iload_n 1, 1) := by decide +kernel
theorem dX3_isEmpty_5 : decode cX3_isEmpty 5 = .ok (.invokestatic 34, 3) := by decide +kernel
theorem dX3_isEmpty_8 : decode cX3_isEmpty 8 = .ok (.ifCond .ne 7, 3) := by decide +kernel
theorem dX3_isEmpty_11 : decode cX3_isEmpty 11 = .ok (.iconst 1, 1) := by decide +kernel
theorem dX3_isEmpty_12 : decode cX3_isEmpty 12 = .ok (.goto 4, 3) := by decide +kernel
theorem dX3_isEmpty_15 : decode cX3_isEmpty 15 = .ok (.iconst 0, 1) := by decide +kernel
theorem dX3_isEmpty_16 : decode cX3_isEmpty 16 = .ok (.ireturn, 1) := by decide +kernel
set_option maxRecDepth 20000 in
theorem ggX3_kindIn_X4_at : GoodIn wsX3_kindIn wsX4_at := goodIn_r _ [4] (by decide +kernel) (by decide +kernel)
set_option maxRecDepth 20000 in
theorem gX3_kindIn_X4_at_n34 : GoodIn wsX3_kindIn (wsX4_at) := ggX3_kindIn_X4_at
theorem dX3_kindIn_0 : decode cX3_kindIn 0 = .ok (.aload_n 0, 1) := by decide +kernel
theorem dX3_kindIn_1 : decode cX3_kindIn 1 = .ok (.getfield 9, 3) := by decide +kernel
theorem dX3_kindIn_4 : decode cX3_kindIn 4 = .ok (.iload_n 1, 1) := by decide +kernel
theorem dX3_kindIn_5 : decode cX3_kindIn 5 = .ok (.invokestatic 34, 3) := by decide +kernel
theorem dX3_kindIn_8 : decode cX3_kindIn 8 = .ok (.ireturn, 1) := by decide +kernel
set_option maxRecDepth 20000 in
theorem ggX3_sacksIn_X4_at : GoodIn wsX3_sacksIn wsX4_at := goodIn_r _ [4] (by decide +kernel) (by decide +kernel)
set_option maxRecDepth 20000 in
theorem gX3_sacksIn_X4_at_n34 : GoodIn wsX3_sacksIn (wsX4_at) := ggX3_sacksIn_X4_at
theorem dX3_sacksIn_0 : decode cX3_sacksIn 0 = .ok (.aload_n 0, 1) := by decide +kernel
theorem dX3_sacksIn_1 : decode cX3_sacksIn 1 = .ok (.getfield 15, 3) := by decide +kernel
theorem dX3_sacksIn_4 : decode cX3_sacksIn 4 = .ok (.iload_n 1, 1) := by decide +kernel
theorem dX3_sacksIn_5 : decode cX3_sacksIn 5 = .ok (.invokestatic 34, 3) := by decide +kernel
theorem dX3_sacksIn_8 : decode cX3_sacksIn 8 = .ok (.ireturn, 1) := by decide +kernel
set_option maxRecDepth 20000 in
theorem ggX3_ageIn_X4_at : GoodIn wsX3_ageIn wsX4_at := goodIn_r _ [4] (by decide +kernel) (by decide +kernel)
set_option maxRecDepth 20000 in
theorem gX3_ageIn_X4_at_n34 : GoodIn wsX3_ageIn (wsX4_at) := ggX3_ageIn_X4_at
theorem dX3_ageIn_0 : decode cX3_ageIn 0 = .ok (.aload_n 0, 1) := by decide +kernel
theorem dX3_ageIn_1 : decode cX3_ageIn 1 = .ok (.getfield 18, 3) := by decide +kernel
theorem dX3_ageIn_4 : decode cX3_ageIn 4 = .ok (.iload_n 1, 1) := by decide +kernel
theorem dX3_ageIn_5 : decode cX3_ageIn 5 = .ok (.invokestatic 34, 3) := by decide +kernel
theorem dX3_ageIn_8 : decode cX3_ageIn 8 = .ok (.ireturn, 1) := by decide +kernel
set_option maxRecDepth 20000 in
theorem ggX3_sumOf_X4_at : GoodIn wsX3_sumOf wsX4_at := goodIn_r _ [4] (by decide +kernel) (by decide +kernel)
set_option maxRecDepth 20000 in
theorem gX3_sumOf_X4_at_n34 : GoodIn wsX3_sumOf (wsX4_at) := ggX3_sumOf_X4_at
theorem dX3_sumOf_0 : decode cX3_sumOf 0 = .ok (.aload_n 0, 1) := by decide +kernel
theorem dX3_sumOf_1 : decode cX3_sumOf 1 = .ok (.getfield 21, 3) := by decide +kernel
theorem dX3_sumOf_4 : decode cX3_sumOf 4 = .ok (.iload_n 1, 1) := by decide +kernel
theorem dX3_sumOf_5 : decode cX3_sumOf 5 = .ok (.invokestatic 34, 3) := by decide +kernel
theorem dX3_sumOf_8 : decode cX3_sumOf 8 = .ok (.ireturn, 1) := by decide +kernel
set_option maxRecDepth 20000 in
theorem ggX3_isCracked_X4_at : GoodIn wsX3_isCracked wsX4_at := goodIn_r _ [4] (by decide +kernel) (by decide +kernel)
set_option maxRecDepth 20000 in
theorem gX3_isCracked_X4_at_n34 : GoodIn wsX3_isCracked (wsX4_at) := ggX3_isCracked_X4_at
theorem dX3_isCracked_0 : decode cX3_isCracked 0 = .ok (.aload_n 0, 1) := by decide +kernel
theorem dX3_isCracked_1 : decode cX3_isCracked 1 = .ok (.getfield 24, 3) := by decide +kernel
theorem dX3_isCracked_4 : decode cX3_isCracked 4 = .ok (.iload_n 1, 1) := by decide +kernel
theorem dX3_isCracked_5 : decode cX3_isCracked 5 = .ok (.invokestatic 34, 3) := by decide +kernel
theorem dX3_isCracked_8 : decode cX3_isCracked 8 = .ok (.iconst 1, 1) := by decide +kernel
theorem dX3_isCracked_9 : decode cX3_isCracked 9 = .ok (.if_icmp .ne 7, 3) := by decide +kernel
theorem dX3_isCracked_12 : decode cX3_isCracked 12 = .ok (.iconst 1, 1) := by decide +kernel
theorem dX3_isCracked_13 : decode cX3_isCracked 13 = .ok (.goto 4, 3) := by decide +kernel
theorem dX3_isCracked_16 : decode cX3_isCracked 16 = .ok (.iconst 0, 1) := by decide +kernel
theorem dX3_isCracked_17 : decode cX3_isCracked 17 = .ok (.ireturn, 1) := by decide +kernel
set_option maxRecDepth 20000 in
theorem ggX3_makeSound_X4_put : GoodIn wsX3_makeSound wsX4_put := goodIn_r _ [4] (by decide +kernel) (by decide +kernel)
set_option maxRecDepth 20000 in
theorem gX3_makeSound_X4_put_n38 : GoodIn wsX3_makeSound (wsX4_put) := ggX3_makeSound_X4_put
theorem dX3_makeSound_0 : decode cX3_makeSound 0 = .ok (.aload_n 0, 1) := by decide +kernel
theorem dX3_makeSound_1 : decode cX3_makeSound 1 = .ok (.getfield 24, 3) := by decide +kernel
theorem dX3_makeSound_4 : decode cX3_makeSound 4 = .ok (.iload_n 1, 1) := by decide +kernel
theorem dX3_makeSound_5 : decode cX3_makeSound 5 = .ok (.iconst 0, 1) := by decide +kernel
theorem dX3_makeSound_6 : decode cX3_makeSound 6 = .ok (.invokestatic 38, 3) := by decide +kernel
theorem dX3_makeSound_9 : decode cX3_makeSound 9 = .ok (.return_, 1) := by decide +kernel
set_option maxRecDepth 20000 in
theorem ggX3_counted_X4_at : GoodIn wsX3_counted wsX4_at := goodIn_r _ [4] (by decide +kernel) (by decide +kernel)
set_option maxRecDepth 20000 in
theorem gX3_counted_X4_at_n34 : GoodIn wsX3_counted (wsX4_at) := ggX3_counted_X4_at
theorem dX3_counted_0 : decode cX3_counted 0 = .ok (.aload_n 0, 1) := by decide +kernel
theorem dX3_counted_1 : decode cX3_counted 1 = .ok (.getfield 27, 3) := by decide +kernel
theorem dX3_counted_4 : decode cX3_counted 4 = .ok (.iload_n 1, 1) := by decide +kernel
theorem dX3_counted_5 : decode cX3_counted 5 = .ok (.invokestatic 34, 3) := by decide +kernel
theorem dX3_counted_8 : decode cX3_counted 8 = .ok (.ireturn, 1) := by decide +kernel
set_option maxRecDepth 20000 in
theorem ggX3_count_X4_at : GoodIn wsX3_count wsX4_at := goodIn_r _ [4] (by decide +kernel) (by decide +kernel)
set_option maxRecDepth 20000 in
theorem gX3_count_X4_at_n34 : GoodIn wsX3_count (wsX4_at) := ggX3_count_X4_at
set_option maxRecDepth 20000 in
theorem ggX3_count_X4_put : GoodIn wsX3_count wsX4_put := goodIn_r _ [6] (by decide +kernel) (by decide +kernel)
set_option maxRecDepth 20000 in
theorem gX3_count_X4_put_n38 : GoodIn wsX3_count (wsX4_put) := ggX3_count_X4_put
theorem dX3_count_0 : decode cX3_count 0 = .ok (.aload_n 0, 1) := by decide +kernel
theorem dX3_count_1 : decode cX3_count 1 = .ok (.getfield 27, 3) := by decide +kernel
theorem dX3_count_4 : decode cX3_count 4 = .ok (.iload_n 1, 1) := by decide +kernel
theorem dX3_count_5 : decode cX3_count 5 = .ok (.aload_n 0, 1) := by decide +kernel
theorem dX3_count_6 : decode cX3_count 6 = .ok (.getfield 27, 3) := by decide +kernel
theorem dX3_count_9 : decode cX3_count 9 = .ok (.iload_n 1, 1) := by decide +kernel
theorem dX3_count_10 : decode cX3_count 10 = .ok (.invokestatic 34, 3) := by decide +kernel
theorem dX3_count_13 : decode cX3_count 13 = .ok (.iload_n 2, 1) := by decide +kernel
theorem dX3_count_14 : decode cX3_count 14 = .ok (.iadd, 1) := by decide +kernel
theorem dX3_count_15 : decode cX3_count 15 = .ok (.invokestatic 38, 3) := by decide +kernel
theorem dX3_count_18 : decode cX3_count 18 = .ok (.return_, 1) := by decide +kernel
set_option maxRecDepth 20000 in
theorem ggX3_bring_X4_put : GoodIn wsX3_bring wsX4_put := goodIn_r _ [5] (by decide +kernel) (by decide +kernel)
set_option maxRecDepth 20000 in
theorem gX3_bring_X4_put_n38 : GoodIn wsX3_bring (wsX4_put) := ggX3_bring_X4_put
set_option maxRecDepth 20000 in
theorem ggX3_bring_X3_changeSacks : GoodIn wsX3_bring wsX3_changeSacks := goodIn_r _ [10, 11, 12, 13, 4, 14, 3, 5, 15, 16, 38, 39, 40, 41, 42, 43] (by decide +kernel) (by decide +kernel)
set_option maxRecDepth 20000 in
theorem gX3_bring_X3_changeSacks : GoodIn wsX3_bring (wsV RX3 42 RX3 yX3_changeSacks wsX3_changeSacks) := goodIn_app (goodIn_of _ (by decide +kernel)) ggX3_bring_X3_changeSacks
set_option maxRecDepth 20000 in
theorem ggX3_bring_X3_crackOver : GoodIn wsX3_bring wsX3_crackOver := goodIn_r _ [20, 21, 22, 23, 24, 9, 25, 13, 4, 14, 26, 27, 28, 29, 12, 30, 31, 32, 15, 16, 3, 5, 33, 34, 35, 36, 37, 38, 39, 40, 41, 42, 43] (by decide +kernel) (by decide +kernel)
set_option maxRecDepth 20000 in
theorem gX3_bring_X3_crackOver : GoodIn wsX3_bring (wsV RX3 46 RX3 yX3_crackOver wsX3_crackOver) := goodIn_app (goodIn_of _ (by decide +kernel)) ggX3_bring_X3_crackOver
theorem dX3_bring_0 : decode cX3_bring 0 = .ok (.aload_n 0, 1) := by decide +kernel
theorem dX3_bring_1 : decode cX3_bring 1 = .ok (.getfield 9, 3) := by decide +kernel
theorem dX3_bring_4 : decode cX3_bring 4 = .ok (.iload_n 1, 1) := by decide +kernel
theorem dX3_bring_5 : decode cX3_bring 5 = .ok (.iload_n 2, 1) := by decide +kernel
theorem dX3_bring_6 : decode cX3_bring 6 = .ok (.invokestatic 38, 3) := by decide +kernel
theorem dX3_bring_9 : decode cX3_bring 9 = .ok (.aload_n 0, 1) := by decide +kernel
theorem dX3_bring_10 : decode cX3_bring 10 = .ok (.getfield 18, 3) := by decide +kernel
theorem dX3_bring_13 : decode cX3_bring 13 = .ok (.iload_n 1, 1) := by decide +kernel
theorem dX3_bring_14 : decode cX3_bring 14 = .ok (.iload 4, 2) := by decide +kernel
theorem dX3_bring_16 : decode cX3_bring 16 = .ok (.invokestatic 38, 3) := by decide +kernel
theorem dX3_bring_19 : decode cX3_bring 19 = .ok (.aload_n 0, 1) := by decide +kernel
theorem dX3_bring_20 : decode cX3_bring 20 = .ok (.iload_n 1, 1) := by decide +kernel
theorem dX3_bring_21 : decode cX3_bring 21 = .ok (.iload_n 3, 1) := by decide +kernel
theorem dX3_bring_22 : decode cX3_bring 22 = .ok (.invokevirtual 42, 3) := by decide +kernel
theorem dX3_bring_25 : decode cX3_bring 25 = .ok (.aload_n 0, 1) := by decide +kernel
theorem dX3_bring_26 : decode cX3_bring 26 = .ok (.iload_n 1, 1) := by decide +kernel
theorem dX3_bring_27 : decode cX3_bring 27 = .ok (.invokevirtual 46, 3) := by decide +kernel
theorem dX3_bring_30 : decode cX3_bring 30 = .ok (.ireturn, 1) := by decide +kernel
set_option maxRecDepth 20000 in
theorem ggX3_remove_X3_changeSacks : GoodIn wsX3_remove wsX3_changeSacks := goodIn_r _ [7, 8, 9, 10, 11, 12, 13, 14, 15, 16, 21, 22, 23, 24, 25, 26] (by decide +kernel) (by decide +kernel)
set_option maxRecDepth 20000 in
theorem gX3_remove_X3_changeSacks : GoodIn wsX3_remove (wsV RX3 42 RX3 yX3_changeSacks wsX3_changeSacks) := goodIn_app (goodIn_of _ (by decide +kernel)) ggX3_remove_X3_changeSacks
set_option maxRecDepth 20000 in
theorem ggX3_remove_X3_isEmpty : GoodIn wsX3_remove wsX3_isEmpty := goodIn_r _ [20, 8, 10, 11, 12, 21, 22, 23, 24, 25, 26] (by decide +kernel) (by decide +kernel)
set_option maxRecDepth 20000 in
theorem gX3_remove_X3_isEmpty : GoodIn wsX3_remove (wsV RX3 50 RX3 yX3_isEmpty wsX3_isEmpty) := goodIn_app (goodIn_of _ (by decide +kernel)) ggX3_remove_X3_isEmpty
set_option maxRecDepth 20000 in
theorem ggX3_remove_X4_put : GoodIn wsX3_remove wsX4_put := goodIn_r _ [14] (by decide +kernel) (by decide +kernel)
set_option maxRecDepth 20000 in
theorem gX3_remove_X4_put_n38 : GoodIn wsX3_remove (wsX4_put) := ggX3_remove_X4_put
theorem dX3_remove_0 : decode cX3_remove 0 = .ok (.aload_n 0, 1) := by decide +kernel
theorem dX3_remove_1 : decode cX3_remove 1 = .ok (.iload_n 1, 1) := by decide +kernel
theorem dX3_remove_2 : decode cX3_remove 2 = .ok (.iload_n 2, 1) := by decide +kernel
theorem dX3_remove_3 : decode cX3_remove 3 = .ok (.ineg, 1) := by decide +kernel
theorem dX3_remove_4 : decode cX3_remove 4 = .ok (.invokevirtual 42, 3) := by decide +kernel
theorem dX3_remove_7 : decode cX3_remove 7 = .ok (.aload_n 0, 1) := by decide +kernel
theorem dX3_remove_8 : decode cX3_remove 8 = .ok (.iload_n 1, 1) := by decide +kernel
theorem dX3_remove_9 : decode cX3_remove 9 = .ok (.invokevirtual 50, 3) := by decide +kernel
theorem dX3_remove_12 : decode cX3_remove 12 = .ok (.ifCond .eq 21, 3) := by decide +kernel
theorem dX3_remove_15 : decode cX3_remove 15 = .ok (.aload_n 0, 1) := by decide +kernel
theorem dX3_remove_16 : decode cX3_remove 16 = .ok (.getfield 9, 3) := by decide +kernel
theorem dX3_remove_19 : decode cX3_remove 19 = .ok (.iload_n 1, 1) := by decide +kernel
theorem dX3_remove_20 : decode cX3_remove 20 = .ok (.iconst 0, 1) := by decide +kernel
theorem dX3_remove_21 : decode cX3_remove 21 = .ok (.invokestatic 38, 3) := by decide +kernel
theorem dX3_remove_24 : decode cX3_remove 24 = .ok (.aload_n 0, 1) := by decide +kernel
theorem dX3_remove_25 : decode cX3_remove 25 = .ok (.getfield 18, 3) := by decide +kernel
theorem dX3_remove_28 : decode cX3_remove 28 = .ok (.iload_n 1, 1) := by decide +kernel
theorem dX3_remove_29 : decode cX3_remove 29 = .ok (.iconst 0, 1) := by decide +kernel
theorem dX3_remove_30 : decode cX3_remove 30 = .ok (.invokestatic 38, 3) := by decide +kernel
theorem dX3_remove_33 : decode cX3_remove 33 = .ok (.return_, 1) := by decide +kernel
set_option maxRecDepth 20000 in
theorem ggX3_changeSacks_X4_at : GoodIn wsX3_changeSacks wsX4_at := goodIn_r _ [5] (by decide +kernel) (by decide +kernel)
set_option maxRecDepth 20000 in
theorem gX3_changeSacks_X4_at_n34 : GoodIn wsX3_changeSacks (wsX4_at) := ggX3_changeSacks_X4_at
set_option maxRecDepth 20000 in
theorem ggX3_changeSacks_X4_put : GoodIn wsX3_changeSacks wsX4_put := goodIn_r _ [7] (by decide +kernel) (by decide +kernel)
set_option maxRecDepth 20000 in
theorem gX3_changeSacks_X4_put_n38 : GoodIn wsX3_changeSacks (wsX4_put) := ggX3_changeSacks_X4_put
set_option maxRecDepth 20000 in
theorem ggX3_changeSacks_X4_sizeOf : GoodIn wsX3_changeSacks wsX4_sizeOf := goodIn_r _ [9] (by decide +kernel) (by decide +kernel)
set_option maxRecDepth 20000 in
theorem gX3_changeSacks_X4_sizeOf_n54 : GoodIn wsX3_changeSacks (wsX4_sizeOf) := ggX3_changeSacks_X4_sizeOf
theorem dX3_changeSacks_0 : decode cX3_changeSacks 0 = .ok (.aload_n 0, 1) := by decide +kernel
theorem dX3_changeSacks_1 : decode cX3_changeSacks 1 = .ok (.getfield 15, 3) := by decide +kernel
theorem dX3_changeSacks_4 : decode cX3_changeSacks 4 = .ok (.iload_n 1, 1) := by decide +kernel
theorem dX3_changeSacks_5 : decode cX3_changeSacks 5 = .ok (.aload_n 0, 1) := by decide +kernel
theorem dX3_changeSacks_6 : decode cX3_changeSacks 6 = .ok (.getfield 15, 3) := by decide +kernel
theorem dX3_changeSacks_9 : decode cX3_changeSacks 9 = .ok (.iload_n 1, 1) := by decide +kernel
theorem dX3_changeSacks_10 : decode cX3_changeSacks 10 = .ok (.invokestatic 34, 3) := by decide +kernel
theorem dX3_changeSacks_13 : decode cX3_changeSacks 13 = .ok (.iload_n 2, 1) := by decide +kernel
theorem dX3_changeSacks_14 : decode cX3_changeSacks 14 = .ok (.iadd, 1) := by decide +kernel
theorem dX3_changeSacks_15 : decode cX3_changeSacks 15 = .ok (.invokestatic 38, 3) := by decide +kernel
theorem dX3_changeSacks_18 : decode cX3_changeSacks 18 = .ok (.iload_n 1, 1) := by decide +kernel
theorem dX3_changeSacks_19 : decode cX3_changeSacks 19 = .ok (.iconst 1, 1) := by decide +kernel
theorem dX3_changeSacks_20 : decode cX3_changeSacks 20 = .ok (.iadd, 1) := by decide +kernel
theorem dX3_changeSacks_21 : decode cX3_changeSacks 21 = .ok (.istore_n 3, 1) := by decide +kernel
theorem dX3_changeSacks_22 : decode cX3_changeSacks 22 = .ok (.iconst 0, 1) := by decide +kernel
theorem dX3_changeSacks_23 : decode cX3_changeSacks 23 = .ok (.istore 4, 2) := by decide +kernel
theorem dX3_changeSacks_25 : decode cX3_changeSacks 25 = .ok (.iload 4, 2) := by decide +kernel
theorem dX3_changeSacks_27 : decode cX3_changeSacks 27 = .ok (.bipush 32, 2) := by decide +kernel
theorem dX3_changeSacks_29 : decode cX3_changeSacks 29 = .ok (.if_icmp .ge 40, 3) := by decide +kernel
theorem dX3_changeSacks_32 : decode cX3_changeSacks 32 = .ok (.iload_n 3, 1) := by decide +kernel
theorem dX3_changeSacks_33 : decode cX3_changeSacks 33 = .ok (.bipush 32, 2) := by decide +kernel
theorem dX3_changeSacks_35 : decode cX3_changeSacks 35 = .ok (.if_icmp .gt 34, 3) := by decide +kernel
theorem dX3_changeSacks_38 : decode cX3_changeSacks 38 = .ok (.aload_n 0, 1) := by decide +kernel
theorem dX3_changeSacks_39 : decode cX3_changeSacks 39 = .ok (.getfield 21, 3) := by decide +kernel
theorem dX3_changeSacks_42 : decode cX3_changeSacks 42 = .ok (.iload_n 3, 1) := by decide +kernel
theorem dX3_changeSacks_43 : decode cX3_changeSacks 43 = .ok (.aload_n 0, 1) := by decide +kernel
theorem dX3_changeSacks_44 : decode cX3_changeSacks 44 = .ok (.getfield 21, 3) := by decide +kernel
theorem dX3_changeSacks_47 : decode cX3_changeSacks 47 = .ok (.iload_n 3, 1) := by decide +kernel
theorem dX3_changeSacks_48 : decode cX3_changeSacks 48 = .ok (.invokestatic 34, 3) := by decide +kernel
theorem dX3_changeSacks_51 : decode cX3_changeSacks 51 = .ok (.iload_n 2, 1) := by decide +kernel
theorem dX3_changeSacks_52 : decode cX3_changeSacks 52 = .ok (.iadd, 1) := by decide +kernel
theorem dX3_changeSacks_53 : decode cX3_changeSacks 53 = .ok (.invokestatic 38, 3) := by decide +kernel
theorem dX3_changeSacks_56 : decode cX3_changeSacks 56 = .ok (.iload_n 3, 1) := by decide +kernel
theorem dX3_changeSacks_57 : decode cX3_changeSacks 57 = .ok (.iload_n 3, 1) := by decide +kernel
theorem dX3_changeSacks_58 : decode cX3_changeSacks 58 = .ok (.invokestatic 54, 3) := by decide +kernel
theorem dX3_changeSacks_61 : decode cX3_changeSacks 61 = .ok (.iadd, 1) := by decide +kernel
theorem dX3_changeSacks_62 : decode cX3_changeSacks 62 = .ok (.istore_n 3, 1) := by decide +kernel
theorem dX3_changeSacks_63 : decode cX3_changeSacks 63 = .ok (.iinc 4 1, 3) := by decide +kernel
theorem dX3_changeSacks_66 : decode cX3_changeSacks 66 = .ok (.goto (-41), 3) := by decide +kernel
theorem dX3_changeSacks_69 : decode cX3_changeSacks 69 = .ok (.return_, 1) := by decide +kernel
set_option maxRecDepth 20000 in
theorem ggX3_crackOver_X3_isCracked : GoodIn wsX3_crackOver wsX3_isCracked := goodIn_r _ [6, 1, 7, 8, 9, 27, 28, 29, 30, 31, 32] (by decide +kernel) (by decide +kernel)
set_option maxRecDepth 20000 in
theorem gX3_crackOver_X3_isCracked : GoodIn wsX3_crackOver (wsV RX3 57 RX3 yX3_isCracked wsX3_isCracked) := goodIn_app (goodIn_of _ (by decide +kernel)) ggX3_crackOver_X3_isCracked
set_option maxRecDepth 20000 in
theorem ggX3_crackOver_X3_sumOf : GoodIn wsX3_crackOver wsX3_sumOf := goodIn_r _ [13, 14, 7, 8, 9, 27, 28, 29, 30, 31, 32] (by decide +kernel) (by decide +kernel)
set_option maxRecDepth 20000 in
theorem gX3_crackOver_X3_sumOf : GoodIn wsX3_crackOver (wsV RX3 60 RX3 yX3_sumOf wsX3_sumOf) := goodIn_app (goodIn_of _ (by decide +kernel)) ggX3_crackOver_X3_sumOf
set_option maxRecDepth 20000 in
theorem ggX3_crackOver_X4_loadOf : GoodIn wsX3_crackOver wsX4_loadOf := goodIn_r _ [16, 17, 18, 8, 19] (by decide +kernel) (by decide +kernel)
set_option maxRecDepth 20000 in
theorem gX3_crackOver_X4_loadOf_n63 : GoodIn wsX3_crackOver (wsX4_loadOf) := ggX3_crackOver_X4_loadOf
set_option maxRecDepth 20000 in
theorem ggX3_crackOver_X4_put : GoodIn wsX3_crackOver wsX4_put := goodIn_r _ [21] (by decide +kernel) (by decide +kernel)
set_option maxRecDepth 20000 in
theorem gX3_crackOver_X4_put_n38 : GoodIn wsX3_crackOver (wsX4_put) := ggX3_crackOver_X4_put
set_option maxRecDepth 20000 in
theorem ggX3_crackOver_X4_sizeOf : GoodIn wsX3_crackOver wsX4_sizeOf := goodIn_r _ [19] (by decide +kernel) (by decide +kernel)
set_option maxRecDepth 20000 in
theorem gX3_crackOver_X4_sizeOf_n54 : GoodIn wsX3_crackOver (wsX4_sizeOf) := ggX3_crackOver_X4_sizeOf
set_option maxRecDepth 20000 in
theorem ggX3_crackOver_X3_count : GoodIn wsX3_crackOver wsX3_count := goodIn_r _ [25, 26, 7, 8, 9, 20, 21, 27, 28, 29, 30, 31, 32] (by decide +kernel) (by decide +kernel)
set_option maxRecDepth 20000 in
theorem gX3_crackOver_X3_count : GoodIn wsX3_crackOver (wsV RX3 66 RX3 yX3_count wsX3_count) := goodIn_app (goodIn_of _ (by decide +kernel)) ggX3_crackOver_X3_count
theorem dX3_crackOver_0 : decode cX3_crackOver 0 = .ok (.iconst 0, 1) := by decide +kernel
theorem dX3_crackOver_1 : decode cX3_crackOver 1 = .ok (.istore_n 2, 1) := by decide +kernel
theorem dX3_crackOver_2 : decode cX3_crackOver 2 = .ok (.iload_n 1, 1) := by decide +kernel
theorem dX3_crackOver_3 : decode cX3_crackOver 3 = .ok (.iconst 1, 1) := by decide +kernel
theorem dX3_crackOver_4 : decode cX3_crackOver 4 = .ok (.iadd, 1) := by decide +kernel
theorem dX3_crackOver_5 : decode cX3_crackOver 5 = .ok (.istore_n 3, 1) := by decide +kernel
theorem dX3_crackOver_6 : decode cX3_crackOver 6 = .ok (.iconst 0, 1) := by decide +kernel
theorem dX3_crackOver_7 : decode cX3_crackOver 7 = .ok (.istore 4, 2) := by decide +kernel
theorem dX3_crackOver_9 : decode cX3_crackOver 9 = .ok (.iload 4, 2) := by decide +kernel
theorem dX3_crackOver_11 : decode cX3_crackOver 11 = .ok (.bipush 32, 2) := by decide +kernel
theorem dX3_crackOver_13 : decode cX3_crackOver 13 = .ok (.if_icmp .ge 54, 3) := by decide +kernel
theorem dX3_crackOver_16 : decode cX3_crackOver 16 = .ok (.iload_n 3, 1) := by decide +kernel
theorem dX3_crackOver_17 : decode cX3_crackOver 17 = .ok (.bipush 32, 2) := by decide +kernel
theorem dX3_crackOver_19 : decode cX3_crackOver 19 = .ok (.if_icmp .gt 48, 3) := by decide +kernel
theorem dX3_crackOver_22 : decode cX3_crackOver 22 = .ok (.aload_n 0, 1) := by decide +kernel
theorem dX3_crackOver_23 : decode cX3_crackOver 23 = .ok (.iload_n 3, 1) := by decide +kernel
theorem dX3_crackOver_24 : decode cX3_crackOver 24 = .ok (.invokevirtual 57, 3) := by decide +kernel
theorem dX3_crackOver_27 : decode cX3_crackOver 27 = .ok (.ifCond .ne 27, 3) := by decide +kernel
theorem dX3_crackOver_30 : decode cX3_crackOver 30 = .ok (.aload_n 0, 1) := by decide +kernel
theorem dX3_crackOver_31 : decode cX3_crackOver 31 = .ok (.iload_n 3, 1) := by decide +kernel
theorem dX3_crackOver_32 : decode cX3_crackOver 32 = .ok (.invokevirtual 60, 3) := by decide +kernel
theorem dX3_crackOver_35 : decode cX3_crackOver 35 = .ok (.iload_n 3, 1) := by decide +kernel
theorem dX3_crackOver_36 : decode cX3_crackOver 36 = .ok (.invokestatic 63, 3) := by decide +kernel
theorem dX3_crackOver_39 : decode cX3_crackOver 39 = .ok (.if_icmp .le 15, 3) := by decide +kernel
theorem dX3_crackOver_42 : decode cX3_crackOver 42 = .ok (.aload_n 0, 1) := by decide +kernel
theorem dX3_crackOver_43 : decode cX3_crackOver 43 = .ok (.getfield 24, 3) := by decide +kernel
theorem dX3_crackOver_46 : decode cX3_crackOver 46 = .ok (.iload_n 3, 1) := by decide +kernel
theorem dX3_crackOver_47 : decode cX3_crackOver 47 = .ok (.iconst 1, 1) := by decide +kernel
theorem dX3_crackOver_48 : decode cX3_crackOver 48 = .ok (.invokestatic 38, 3) := by decide +kernel
theorem dX3_crackOver_51 : decode cX3_crackOver 51 = .ok (.iinc 2 1, 3) := by decide +kernel
theorem dX3_crackOver_54 : decode cX3_crackOver 54 = .ok (.iload_n 3, 1) := by decide +kernel
theorem dX3_crackOver_55 : decode cX3_crackOver 55 = .ok (.iload_n 3, 1) := by decide +kernel
theorem dX3_crackOver_56 : decode cX3_crackOver 56 = .ok (.invokestatic 54, 3) := by decide +kernel
theorem dX3_crackOver_59 : decode cX3_crackOver 59 = .ok (.iadd, 1) := by decide +kernel
theorem dX3_crackOver_60 : decode cX3_crackOver 60 = .ok (.istore_n 3, 1) := by decide +kernel
theorem dX3_crackOver_61 : decode cX3_crackOver 61 = .ok (.iinc 4 1, 3) := by decide +kernel
theorem dX3_crackOver_64 : decode cX3_crackOver 64 = .ok (.goto (-55), 3) := by decide +kernel
theorem dX3_crackOver_67 : decode cX3_crackOver 67 = .ok (.aload_n 0, 1) := by decide +kernel
theorem dX3_crackOver_68 : decode cX3_crackOver 68 = .ok (.bipush 14, 2) := by decide +kernel
theorem dX3_crackOver_70 : decode cX3_crackOver 70 = .ok (.iload_n 2, 1) := by decide +kernel
theorem dX3_crackOver_71 : decode cX3_crackOver 71 = .ok (.invokevirtual 66, 3) := by decide +kernel
theorem dX3_crackOver_74 : decode cX3_crackOver 74 = .ok (.iload_n 2, 1) := by decide +kernel
theorem dX3_crackOver_75 : decode cX3_crackOver 75 = .ok (.ireturn, 1) := by decide +kernel
set_option maxRecDepth 20000 in
theorem ggX3_cracksUnder_X3_isCracked : GoodIn wsX3_cracksUnder wsX3_isCracked := goodIn_r _ [5, 6, 7, 8, 9, 20, 21, 22, 23, 24, 25] (by decide +kernel) (by decide +kernel)
set_option maxRecDepth 20000 in
theorem gX3_cracksUnder_X3_isCracked : GoodIn wsX3_cracksUnder (wsV RX3 57 RX3 yX3_isCracked wsX3_isCracked) := goodIn_app (goodIn_of _ (by decide +kernel)) ggX3_cracksUnder_X3_isCracked
set_option maxRecDepth 20000 in
theorem ggX3_cracksUnder_X3_sumOf : GoodIn wsX3_cracksUnder wsX3_sumOf := goodIn_r _ [13, 14, 7, 8, 9, 20, 21, 22, 23, 24, 25] (by decide +kernel) (by decide +kernel)
set_option maxRecDepth 20000 in
theorem gX3_cracksUnder_X3_sumOf : GoodIn wsX3_cracksUnder (wsV RX3 60 RX3 yX3_sumOf wsX3_sumOf) := goodIn_app (goodIn_of _ (by decide +kernel)) ggX3_cracksUnder_X3_sumOf
set_option maxRecDepth 20000 in
theorem ggX3_cracksUnder_X4_loadOf : GoodIn wsX3_cracksUnder wsX4_loadOf := goodIn_r _ [16, 17, 18, 8, 19] (by decide +kernel) (by decide +kernel)
set_option maxRecDepth 20000 in
theorem gX3_cracksUnder_X4_loadOf_n63 : GoodIn wsX3_cracksUnder (wsX4_loadOf) := ggX3_cracksUnder_X4_loadOf
set_option maxRecDepth 20000 in
theorem ggX3_cracksUnder_X4_sizeOf : GoodIn wsX3_cracksUnder wsX4_sizeOf := goodIn_r _ [19] (by decide +kernel) (by decide +kernel)
set_option maxRecDepth 20000 in
theorem gX3_cracksUnder_X4_sizeOf_n54 : GoodIn wsX3_cracksUnder (wsX4_sizeOf) := ggX3_cracksUnder_X4_sizeOf
theorem dX3_cracksUnder_0 : decode cX3_cracksUnder 0 = .ok (.iload_n 1, 1) := by decide +kernel
theorem dX3_cracksUnder_1 : decode cX3_cracksUnder 1 = .ok (.iconst 1, 1) := by decide +kernel
theorem dX3_cracksUnder_2 : decode cX3_cracksUnder 2 = .ok (.iadd, 1) := by decide +kernel
theorem dX3_cracksUnder_3 : decode cX3_cracksUnder 3 = .ok (.istore_n 3, 1) := by decide +kernel
theorem dX3_cracksUnder_4 : decode cX3_cracksUnder 4 = .ok (.iconst 0, 1) := by decide +kernel
theorem dX3_cracksUnder_5 : decode cX3_cracksUnder 5 = .ok (.istore 4, 2) := by decide +kernel
theorem dX3_cracksUnder_7 : decode cX3_cracksUnder 7 = .ok (.iload 4, 2) := by decide +kernel
theorem dX3_cracksUnder_9 : decode cX3_cracksUnder 9 = .ok (.bipush 32, 2) := by decide +kernel
theorem dX3_cracksUnder_11 : decode cX3_cracksUnder 11 = .ok (.if_icmp .ge 46, 3) := by decide +kernel
theorem dX3_cracksUnder_14 : decode cX3_cracksUnder 14 = .ok (.iload_n 3, 1) := by decide +kernel
theorem dX3_cracksUnder_15 : decode cX3_cracksUnder 15 = .ok (.bipush 32, 2) := by decide +kernel
theorem dX3_cracksUnder_17 : decode cX3_cracksUnder 17 = .ok (.if_icmp .gt 40, 3) := by decide +kernel
theorem dX3_cracksUnder_20 : decode cX3_cracksUnder 20 = .ok (.aload_n 0, 1) := by decide +kernel
theorem dX3_cracksUnder_21 : decode cX3_cracksUnder 21 = .ok (.iload_n 3, 1) := by decide +kernel
theorem dX3_cracksUnder_22 : decode cX3_cracksUnder 22 = .ok (.invokevirtual 57, 3) := by decide +kernel
theorem dX3_cracksUnder_25 : decode cX3_cracksUnder 25 = .ok (.ifCond .ne 19, 3) := by decide +kernel
theorem dX3_cracksUnder_28 : decode cX3_cracksUnder 28 = .ok (.aload_n 0, 1) := by decide +kernel
theorem dX3_cracksUnder_29 : decode cX3_cracksUnder 29 = .ok (.iload_n 3, 1) := by decide +kernel
theorem dX3_cracksUnder_30 : decode cX3_cracksUnder 30 = .ok (.invokevirtual 60, 3) := by decide +kernel
theorem dX3_cracksUnder_33 : decode cX3_cracksUnder 33 = .ok (.iload_n 2, 1) := by decide +kernel
theorem dX3_cracksUnder_34 : decode cX3_cracksUnder 34 = .ok (.iadd, 1) := by decide +kernel
theorem dX3_cracksUnder_35 : decode cX3_cracksUnder 35 = .ok (.iload_n 3, 1) := by decide +kernel
theorem dX3_cracksUnder_36 : decode cX3_cracksUnder 36 = .ok (.invokestatic 63, 3) := by decide +kernel
theorem dX3_cracksUnder_39 : decode cX3_cracksUnder 39 = .ok (.if_icmp .le 5, 3) := by decide +kernel
theorem dX3_cracksUnder_42 : decode cX3_cracksUnder 42 = .ok (.iconst 1, 1) := by decide +kernel
theorem dX3_cracksUnder_43 : decode cX3_cracksUnder 43 = .ok (.ireturn, 1) := by decide +kernel
theorem dX3_cracksUnder_44 : decode cX3_cracksUnder 44 = .ok (.iload_n 3, 1) := by decide +kernel
theorem dX3_cracksUnder_45 : decode cX3_cracksUnder 45 = .ok (.iload_n 3, 1) := by decide +kernel
theorem dX3_cracksUnder_46 : decode cX3_cracksUnder 46 = .ok (.invokestatic 54, 3) := by decide +kernel
theorem dX3_cracksUnder_49 : decode cX3_cracksUnder 49 = .ok (.iadd, 1) := by decide +kernel
theorem dX3_cracksUnder_50 : decode cX3_cracksUnder 50 = .ok (.istore_n 3, 1) := by decide +kernel
theorem dX3_cracksUnder_51 : decode cX3_cracksUnder 51 = .ok (.iinc 4 1, 3) := by decide +kernel
theorem dX3_cracksUnder_54 : decode cX3_cracksUnder 54 = .ok (.goto (-47), 3) := by decide +kernel
theorem dX3_cracksUnder_57 : decode cX3_cracksUnder 57 = .ok (.iconst 0, 1) := by decide +kernel
theorem dX3_cracksUnder_58 : decode cX3_cracksUnder 58 = .ok (.ireturn, 1) := by decide +kernel
set_option maxRecDepth 20000 in
theorem ggX3_rungsOver_X4_sizeOf : GoodIn wsX3_rungsOver wsX4_sizeOf := goodIn_r _ [3] (by decide +kernel) (by decide +kernel)
set_option maxRecDepth 20000 in
theorem gX3_rungsOver_X4_sizeOf_n54 : GoodIn wsX3_rungsOver (wsX4_sizeOf) := ggX3_rungsOver_X4_sizeOf
theorem dX3_rungsOver_0 : decode cX3_rungsOver 0 = .ok (.iconst 0, 1) := by decide +kernel
theorem dX3_rungsOver_1 : decode cX3_rungsOver 1 = .ok (.istore_n 2, 1) := by decide +kernel
theorem dX3_rungsOver_2 : decode cX3_rungsOver 2 = .ok (.iload_n 1, 1) := by decide +kernel
theorem dX3_rungsOver_3 : decode cX3_rungsOver 3 = .ok (.iconst 1, 1) := by decide +kernel
theorem dX3_rungsOver_4 : decode cX3_rungsOver 4 = .ok (.iadd, 1) := by decide +kernel
theorem dX3_rungsOver_5 : decode cX3_rungsOver 5 = .ok (.istore_n 3, 1) := by decide +kernel
theorem dX3_rungsOver_6 : decode cX3_rungsOver 6 = .ok (.iconst 0, 1) := by decide +kernel
theorem dX3_rungsOver_7 : decode cX3_rungsOver 7 = .ok (.istore 4, 2) := by decide +kernel
theorem dX3_rungsOver_9 : decode cX3_rungsOver 9 = .ok (.iload 4, 2) := by decide +kernel
theorem dX3_rungsOver_11 : decode cX3_rungsOver 11 = .ok (.bipush 32, 2) := by decide +kernel
theorem dX3_rungsOver_13 : decode cX3_rungsOver 13 = .ok (.if_icmp .ge 25, 3) := by decide +kernel
theorem dX3_rungsOver_16 : decode cX3_rungsOver 16 = .ok (.iload_n 3, 1) := by decide +kernel
theorem dX3_rungsOver_17 : decode cX3_rungsOver 17 = .ok (.bipush 32, 2) := by decide +kernel
theorem dX3_rungsOver_19 : decode cX3_rungsOver 19 = .ok (.if_icmp .gt 19, 3) := by decide +kernel
theorem dX3_rungsOver_22 : decode cX3_rungsOver 22 = .ok (.iinc 2 1, 3) := by decide +kernel
theorem dX3_rungsOver_25 : decode cX3_rungsOver 25 = .ok (.iload_n 3, 1) := by decide +kernel
theorem dX3_rungsOver_26 : decode cX3_rungsOver 26 = .ok (.iload_n 3, 1) := by decide +kernel
theorem dX3_rungsOver_27 : decode cX3_rungsOver 27 = .ok (.invokestatic 54, 3) := by decide +kernel
theorem dX3_rungsOver_30 : decode cX3_rungsOver 30 = .ok (.iadd, 1) := by decide +kernel
theorem dX3_rungsOver_31 : decode cX3_rungsOver 31 = .ok (.istore_n 3, 1) := by decide +kernel
theorem dX3_rungsOver_32 : decode cX3_rungsOver 32 = .ok (.iinc 4 1, 3) := by decide +kernel
theorem dX3_rungsOver_35 : decode cX3_rungsOver 35 = .ok (.goto (-26), 3) := by decide +kernel
theorem dX3_rungsOver_38 : decode cX3_rungsOver 38 = .ok (.iload_n 2, 1) := by decide +kernel
theorem dX3_rungsOver_39 : decode cX3_rungsOver 39 = .ok (.ireturn, 1) := by decide +kernel
set_option maxRecDepth 20000 in
theorem ggX3_crackedOver_X3_isCracked : GoodIn wsX3_crackedOver wsX3_isCracked := goodIn_r _ [5, 6, 7, 8, 9, 12, 13, 14, 15, 16, 17] (by decide +kernel) (by decide +kernel)
set_option maxRecDepth 20000 in
theorem gX3_crackedOver_X3_isCracked : GoodIn wsX3_crackedOver (wsV RX3 57 RX3 yX3_isCracked wsX3_isCracked) := goodIn_app (goodIn_of _ (by decide +kernel)) ggX3_crackedOver_X3_isCracked
set_option maxRecDepth 20000 in
theorem ggX3_crackedOver_X4_sizeOf : GoodIn wsX3_crackedOver wsX4_sizeOf := goodIn_r _ [11] (by decide +kernel) (by decide +kernel)
set_option maxRecDepth 20000 in
theorem gX3_crackedOver_X4_sizeOf_n54 : GoodIn wsX3_crackedOver (wsX4_sizeOf) := ggX3_crackedOver_X4_sizeOf
theorem dX3_crackedOver_0 : decode cX3_crackedOver 0 = .ok (.iconst 0, 1) := by decide +kernel
theorem dX3_crackedOver_1 : decode cX3_crackedOver 1 = .ok (.istore_n 2, 1) := by decide +kernel
theorem dX3_crackedOver_2 : decode cX3_crackedOver 2 = .ok (.iload_n 1, 1) := by decide +kernel
theorem dX3_crackedOver_3 : decode cX3_crackedOver 3 = .ok (.iconst 1, 1) := by decide +kernel
theorem dX3_crackedOver_4 : decode cX3_crackedOver 4 = .ok (.iadd, 1) := by decide +kernel
theorem dX3_crackedOver_5 : decode cX3_crackedOver 5 = .ok (.istore_n 3, 1) := by decide +kernel
theorem dX3_crackedOver_6 : decode cX3_crackedOver 6 = .ok (.iconst 0, 1) := by decide +kernel
theorem dX3_crackedOver_7 : decode cX3_crackedOver 7 = .ok (.istore 4, 2) := by decide +kernel
theorem dX3_crackedOver_9 : decode cX3_crackedOver 9 = .ok (.iload 4, 2) := by decide +kernel
theorem dX3_crackedOver_11 : decode cX3_crackedOver 11 = .ok (.bipush 32, 2) := by decide +kernel
theorem dX3_crackedOver_13 : decode cX3_crackedOver 13 = .ok (.if_icmp .ge 37, 3) := by decide +kernel
theorem dX3_crackedOver_16 : decode cX3_crackedOver 16 = .ok (.iload_n 3, 1) := by decide +kernel
theorem dX3_crackedOver_17 : decode cX3_crackedOver 17 = .ok (.bipush 32, 2) := by decide +kernel
theorem dX3_crackedOver_19 : decode cX3_crackedOver 19 = .ok (.if_icmp .gt 31, 3) := by decide +kernel
theorem dX3_crackedOver_22 : decode cX3_crackedOver 22 = .ok (.aload_n 0, 1) := by decide +kernel
theorem dX3_crackedOver_23 : decode cX3_crackedOver 23 = .ok (.iload_n 3, 1) := by decide +kernel
theorem dX3_crackedOver_24 : decode cX3_crackedOver 24 = .ok (.invokevirtual 57, 3) := by decide +kernel
theorem dX3_crackedOver_27 : decode cX3_crackedOver 27 = .ok (.ifCond .eq 10, 3) := by decide +kernel
theorem dX3_crackedOver_30 : decode cX3_crackedOver 30 = .ok (.iload_n 2, 1) := by decide +kernel
theorem dX3_crackedOver_31 : decode cX3_crackedOver 31 = .ok (.iload_n 3, 1) := by decide +kernel
theorem dX3_crackedOver_32 : decode cX3_crackedOver 32 = .ok (.invokestatic 54, 3) := by decide +kernel
theorem dX3_crackedOver_35 : decode cX3_crackedOver 35 = .ok (.iadd, 1) := by decide +kernel
theorem dX3_crackedOver_36 : decode cX3_crackedOver 36 = .ok (.istore_n 2, 1) := by decide +kernel
theorem dX3_crackedOver_37 : decode cX3_crackedOver 37 = .ok (.iload_n 3, 1) := by decide +kernel
theorem dX3_crackedOver_38 : decode cX3_crackedOver 38 = .ok (.iload_n 3, 1) := by decide +kernel
theorem dX3_crackedOver_39 : decode cX3_crackedOver 39 = .ok (.invokestatic 54, 3) := by decide +kernel
theorem dX3_crackedOver_42 : decode cX3_crackedOver 42 = .ok (.iadd, 1) := by decide +kernel
theorem dX3_crackedOver_43 : decode cX3_crackedOver 43 = .ok (.istore_n 3, 1) := by decide +kernel
theorem dX3_crackedOver_44 : decode cX3_crackedOver 44 = .ok (.iinc 4 1, 3) := by decide +kernel
theorem dX3_crackedOver_47 : decode cX3_crackedOver 47 = .ok (.goto (-38), 3) := by decide +kernel
theorem dX3_crackedOver_50 : decode cX3_crackedOver 50 = .ok (.iload_n 2, 1) := by decide +kernel
theorem dX3_crackedOver_51 : decode cX3_crackedOver 51 = .ok (.ireturn, 1) := by decide +kernel
set_option maxRecDepth 20000 in
theorem ggX3_sumByClimbing_X3_sumOf : GoodIn wsX3_sumByClimbing wsX3_sumOf := goodIn_r _ [5, 6, 7, 8, 9, 12, 13, 14, 15, 16, 17] (by decide +kernel) (by decide +kernel)
set_option maxRecDepth 20000 in
theorem gX3_sumByClimbing_X3_sumOf : GoodIn wsX3_sumByClimbing (wsV RX3 60 RX3 yX3_sumOf wsX3_sumOf) := goodIn_app (goodIn_of _ (by decide +kernel)) ggX3_sumByClimbing_X3_sumOf
set_option maxRecDepth 20000 in
theorem ggX3_sumByClimbing_X4_sizeOf : GoodIn wsX3_sumByClimbing wsX4_sizeOf := goodIn_r _ [11] (by decide +kernel) (by decide +kernel)
set_option maxRecDepth 20000 in
theorem gX3_sumByClimbing_X4_sizeOf_n54 : GoodIn wsX3_sumByClimbing (wsX4_sizeOf) := ggX3_sumByClimbing_X4_sizeOf
theorem dX3_sumByClimbing_0 : decode cX3_sumByClimbing 0 = .ok (.iconst 0, 1) := by decide +kernel
theorem dX3_sumByClimbing_1 : decode cX3_sumByClimbing 1 = .ok (.istore_n 2, 1) := by decide +kernel
theorem dX3_sumByClimbing_2 : decode cX3_sumByClimbing 2 = .ok (.iload_n 1, 1) := by decide +kernel
theorem dX3_sumByClimbing_3 : decode cX3_sumByClimbing 3 = .ok (.iconst 1, 1) := by decide +kernel
theorem dX3_sumByClimbing_4 : decode cX3_sumByClimbing 4 = .ok (.iadd, 1) := by decide +kernel
theorem dX3_sumByClimbing_5 : decode cX3_sumByClimbing 5 = .ok (.istore_n 3, 1) := by decide +kernel
theorem dX3_sumByClimbing_6 : decode cX3_sumByClimbing 6 = .ok (.iconst 0, 1) := by decide +kernel
theorem dX3_sumByClimbing_7 : decode cX3_sumByClimbing 7 = .ok (.istore 4, 2) := by decide +kernel
theorem dX3_sumByClimbing_9 : decode cX3_sumByClimbing 9 = .ok (.iload 4, 2) := by decide +kernel
theorem dX3_sumByClimbing_11 : decode cX3_sumByClimbing 11 = .ok (.bipush 32, 2) := by decide +kernel
theorem dX3_sumByClimbing_13 : decode cX3_sumByClimbing 13 = .ok (.if_icmp .ge 28, 3) := by decide +kernel
theorem dX3_sumByClimbing_16 : decode cX3_sumByClimbing 16 = .ok (.iload_n 3, 1) := by decide +kernel
theorem dX3_sumByClimbing_17 : decode cX3_sumByClimbing 17 = .ok (.ifCond .le 24, 3) := by decide +kernel
theorem dX3_sumByClimbing_20 : decode cX3_sumByClimbing 20 = .ok (.iload_n 2, 1) := by decide +kernel
theorem dX3_sumByClimbing_21 : decode cX3_sumByClimbing 21 = .ok (.aload_n 0, 1) := by decide +kernel
theorem dX3_sumByClimbing_22 : decode cX3_sumByClimbing 22 = .ok (.iload_n 3, 1) := by decide +kernel
theorem dX3_sumByClimbing_23 : decode cX3_sumByClimbing 23 = .ok (.invokevirtual 60, 3) := by decide +kernel
theorem dX3_sumByClimbing_26 : decode cX3_sumByClimbing 26 = .ok (.iadd, 1) := by decide +kernel
theorem dX3_sumByClimbing_27 : decode cX3_sumByClimbing 27 = .ok (.istore_n 2, 1) := by decide +kernel
theorem dX3_sumByClimbing_28 : decode cX3_sumByClimbing 28 = .ok (.iload_n 3, 1) := by decide +kernel
theorem dX3_sumByClimbing_29 : decode cX3_sumByClimbing 29 = .ok (.iload_n 3, 1) := by decide +kernel
theorem dX3_sumByClimbing_30 : decode cX3_sumByClimbing 30 = .ok (.invokestatic 54, 3) := by decide +kernel
theorem dX3_sumByClimbing_33 : decode cX3_sumByClimbing 33 = .ok (.isub, 1) := by decide +kernel
theorem dX3_sumByClimbing_34 : decode cX3_sumByClimbing 34 = .ok (.istore_n 3, 1) := by decide +kernel
theorem dX3_sumByClimbing_35 : decode cX3_sumByClimbing 35 = .ok (.iinc 4 1, 3) := by decide +kernel
theorem dX3_sumByClimbing_38 : decode cX3_sumByClimbing 38 = .ok (.goto (-29), 3) := by decide +kernel
theorem dX3_sumByClimbing_41 : decode cX3_sumByClimbing 41 = .ok (.iload_n 2, 1) := by decide +kernel
theorem dX3_sumByClimbing_42 : decode cX3_sumByClimbing 42 = .ok (.ireturn, 1) := by decide +kernel
set_option maxRecDepth 20000 in
theorem ggX3_sumByBays_X3_sacksIn : GoodIn wsX3_sumByBays wsX3_sacksIn := goodIn_r _ [5, 6, 7, 8, 9, 10, 11, 12, 13, 14, 15] (by decide +kernel) (by decide +kernel)
set_option maxRecDepth 20000 in
theorem gX3_sumByBays_X3_sacksIn : GoodIn wsX3_sumByBays (wsV RX3 69 RX3 yX3_sacksIn wsX3_sacksIn) := goodIn_app (goodIn_of _ (by decide +kernel)) ggX3_sumByBays_X3_sacksIn
theorem dX3_sumByBays_0 : decode cX3_sumByBays 0 = .ok (.iconst 0, 1) := by decide +kernel
theorem dX3_sumByBays_1 : decode cX3_sumByBays 1 = .ok (.istore_n 3, 1) := by decide +kernel
theorem dX3_sumByBays_2 : decode cX3_sumByBays 2 = .ok (.iconst 0, 1) := by decide +kernel
theorem dX3_sumByBays_3 : decode cX3_sumByBays 3 = .ok (.istore 4, 2) := by decide +kernel
theorem dX3_sumByBays_5 : decode cX3_sumByBays 5 = .ok (.iload 4, 2) := by decide +kernel
theorem dX3_sumByBays_7 : decode cX3_sumByBays 7 = .ok (.bipush 32, 2) := by decide +kernel
theorem dX3_sumByBays_9 : decode cX3_sumByBays 9 = .ok (.if_icmp .ge 30, 3) := by decide +kernel
theorem dX3_sumByBays_12 : decode cX3_sumByBays 12 = .ok (.iload 4, 2) := by decide +kernel
theorem dX3_sumByBays_14 : decode cX3_sumByBays 14 = .ok (.iload_n 1, 1) := by decide +kernel
theorem dX3_sumByBays_15 : decode cX3_sumByBays 15 = .ok (.if_icmp .lt 18, 3) := by decide +kernel
theorem dX3_sumByBays_18 : decode cX3_sumByBays 18 = .ok (.iload 4, 2) := by decide +kernel
theorem dX3_sumByBays_20 : decode cX3_sumByBays 20 = .ok (.iload_n 2, 1) := by decide +kernel
theorem dX3_sumByBays_21 : decode cX3_sumByBays 21 = .ok (.if_icmp .gt 12, 3) := by decide +kernel
theorem dX3_sumByBays_24 : decode cX3_sumByBays 24 = .ok (.iload_n 3, 1) := by decide +kernel
theorem dX3_sumByBays_25 : decode cX3_sumByBays 25 = .ok (.aload_n 0, 1) := by decide +kernel
theorem dX3_sumByBays_26 : decode cX3_sumByBays 26 = .ok (.iload 4, 2) := by decide +kernel
theorem dX3_sumByBays_28 : decode cX3_sumByBays 28 = .ok (.invokevirtual 69, 3) := by decide +kernel
theorem dX3_sumByBays_31 : decode cX3_sumByBays 31 = .ok (.iadd, 1) := by decide +kernel
theorem dX3_sumByBays_32 : decode cX3_sumByBays 32 = .ok (.istore_n 3, 1) := by decide +kernel
theorem dX3_sumByBays_33 : decode cX3_sumByBays 33 = .ok (.iinc 4 1, 3) := by decide +kernel
theorem dX3_sumByBays_36 : decode cX3_sumByBays 36 = .ok (.goto (-31), 3) := by decide +kernel
theorem dX3_sumByBays_39 : decode cX3_sumByBays 39 = .ok (.iload_n 3, 1) := by decide +kernel
theorem dX3_sumByBays_40 : decode cX3_sumByBays 40 = .ok (.ireturn, 1) := by decide +kernel
set_option maxRecDepth 20000 in
theorem ggX3_allSacks_X3_sumByBays : GoodIn wsX3_allSacks wsX3_sumByBays := goodIn_r _ [5, 6, 7, 8, 4, 9, 10, 11, 12, 13, 14, 15, 16, 17, 18, 19] (by decide +kernel) (by decide +kernel)
set_option maxRecDepth 20000 in
theorem gX3_allSacks_X3_sumByBays : GoodIn wsX3_allSacks (wsV RX3 72 RX3 yX3_sumByBays wsX3_sumByBays) := goodIn_app (goodIn_of _ (by decide +kernel)) ggX3_allSacks_X3_sumByBays
theorem dX3_allSacks_0 : decode cX3_allSacks 0 = .ok (.aload_n 0, 1) := by decide +kernel
theorem dX3_allSacks_1 : decode cX3_allSacks 1 = .ok (.iconst 0, 1) := by decide +kernel
theorem dX3_allSacks_2 : decode cX3_allSacks 2 = .ok (.bipush 31, 2) := by decide +kernel
theorem dX3_allSacks_4 : decode cX3_allSacks 4 = .ok (.invokevirtual 72, 3) := by decide +kernel
theorem dX3_allSacks_7 : decode cX3_allSacks 7 = .ok (.ireturn, 1) := by decide +kernel
set_option maxRecDepth 20000 in
theorem ggX3_sacksOfKind_X3_kindIn : GoodIn wsX3_sacksOfKind wsX3_kindIn := goodIn_r _ [5, 6, 7, 8, 9, 15, 16, 17, 18, 19, 20] (by decide +kernel) (by decide +kernel)
set_option maxRecDepth 20000 in
theorem gX3_sacksOfKind_X3_kindIn : GoodIn wsX3_sacksOfKind (wsV RX3 76 RX3 yX3_kindIn wsX3_kindIn) := goodIn_app (goodIn_of _ (by decide +kernel)) ggX3_sacksOfKind_X3_kindIn
set_option maxRecDepth 20000 in
theorem ggX3_sacksOfKind_X3_sacksIn : GoodIn wsX3_sacksOfKind wsX3_sacksIn := goodIn_r _ [13, 14, 7, 8, 9, 15, 16, 17, 18, 19, 20] (by decide +kernel) (by decide +kernel)
set_option maxRecDepth 20000 in
theorem gX3_sacksOfKind_X3_sacksIn : GoodIn wsX3_sacksOfKind (wsV RX3 69 RX3 yX3_sacksIn wsX3_sacksIn) := goodIn_app (goodIn_of _ (by decide +kernel)) ggX3_sacksOfKind_X3_sacksIn
theorem dX3_sacksOfKind_0 : decode cX3_sacksOfKind 0 = .ok (.iconst 0, 1) := by decide +kernel
theorem dX3_sacksOfKind_1 : decode cX3_sacksOfKind 1 = .ok (.istore_n 2, 1) := by decide +kernel
theorem dX3_sacksOfKind_2 : decode cX3_sacksOfKind 2 = .ok (.iconst 0, 1) := by decide +kernel
theorem dX3_sacksOfKind_3 : decode cX3_sacksOfKind 3 = .ok (.istore_n 3, 1) := by decide +kernel
theorem dX3_sacksOfKind_4 : decode cX3_sacksOfKind 4 = .ok (.iload_n 3, 1) := by decide +kernel
theorem dX3_sacksOfKind_5 : decode cX3_sacksOfKind 5 = .ok (.bipush 32, 2) := by decide +kernel
theorem dX3_sacksOfKind_7 : decode cX3_sacksOfKind 7 = .ok (.if_icmp .ge 26, 3) := by decide +kernel
theorem dX3_sacksOfKind_10 : decode cX3_sacksOfKind 10 = .ok (.aload_n 0, 1) := by decide +kernel
theorem dX3_sacksOfKind_11 : decode cX3_sacksOfKind 11 = .ok (.iload_n 3, 1) := by decide +kernel
theorem dX3_sacksOfKind_12 : decode cX3_sacksOfKind 12 = .ok (.invokevirtual 76, 3) := by decide +kernel
theorem dX3_sacksOfKind_15 : decode cX3_sacksOfKind 15 = .ok (.iload_n 1, 1) := by decide +kernel
theorem dX3_sacksOfKind_16 : decode cX3_sacksOfKind 16 = .ok (.if_icmp .ne 11, 3) := by decide +kernel
theorem dX3_sacksOfKind_19 : decode cX3_sacksOfKind 19 = .ok (.iload_n 2, 1) := by decide +kernel
theorem dX3_sacksOfKind_20 : decode cX3_sacksOfKind 20 = .ok (.aload_n 0, 1) := by decide +kernel
theorem dX3_sacksOfKind_21 : decode cX3_sacksOfKind 21 = .ok (.iload_n 3, 1) := by decide +kernel
theorem dX3_sacksOfKind_22 : decode cX3_sacksOfKind 22 = .ok (.invokevirtual 69, 3) := by decide +kernel
theorem dX3_sacksOfKind_25 : decode cX3_sacksOfKind 25 = .ok (.iadd, 1) := by decide +kernel
theorem dX3_sacksOfKind_26 : decode cX3_sacksOfKind 26 = .ok (.istore_n 2, 1) := by decide +kernel
theorem dX3_sacksOfKind_27 : decode cX3_sacksOfKind 27 = .ok (.iinc 3 1, 3) := by decide +kernel
theorem dX3_sacksOfKind_30 : decode cX3_sacksOfKind 30 = .ok (.goto (-26), 3) := by decide +kernel
theorem dX3_sacksOfKind_33 : decode cX3_sacksOfKind 33 = .ok (.iload_n 2, 1) := by decide +kernel
theorem dX3_sacksOfKind_34 : decode cX3_sacksOfKind 34 = .ok (.ireturn, 1) := by decide +kernel
set_option maxRecDepth 20000 in
theorem ggX3_sacksAsOldAs_X3_ageIn : GoodIn wsX3_sacksAsOldAs wsX3_ageIn := goodIn_r _ [5, 6, 7, 8, 9, 15, 16, 17, 18, 19, 20] (by decide +kernel) (by decide +kernel)
set_option maxRecDepth 20000 in
theorem gX3_sacksAsOldAs_X3_ageIn : GoodIn wsX3_sacksAsOldAs (wsV RX3 79 RX3 yX3_ageIn wsX3_ageIn) := goodIn_app (goodIn_of _ (by decide +kernel)) ggX3_sacksAsOldAs_X3_ageIn
set_option maxRecDepth 20000 in
theorem ggX3_sacksAsOldAs_X3_sacksIn : GoodIn wsX3_sacksAsOldAs wsX3_sacksIn := goodIn_r _ [13, 14, 7, 8, 9, 15, 16, 17, 18, 19, 20] (by decide +kernel) (by decide +kernel)
set_option maxRecDepth 20000 in
theorem gX3_sacksAsOldAs_X3_sacksIn : GoodIn wsX3_sacksAsOldAs (wsV RX3 69 RX3 yX3_sacksIn wsX3_sacksIn) := goodIn_app (goodIn_of _ (by decide +kernel)) ggX3_sacksAsOldAs_X3_sacksIn
theorem dX3_sacksAsOldAs_0 : decode cX3_sacksAsOldAs 0 = .ok (.iconst 0, 1) := by decide +kernel
theorem dX3_sacksAsOldAs_1 : decode cX3_sacksAsOldAs 1 = .ok (.istore_n 2, 1) := by decide +kernel
theorem dX3_sacksAsOldAs_2 : decode cX3_sacksAsOldAs 2 = .ok (.iconst 0, 1) := by decide +kernel
theorem dX3_sacksAsOldAs_3 : decode cX3_sacksAsOldAs 3 = .ok (.istore_n 3, 1) := by decide +kernel
theorem dX3_sacksAsOldAs_4 : decode cX3_sacksAsOldAs 4 = .ok (.iload_n 3, 1) := by decide +kernel
theorem dX3_sacksAsOldAs_5 : decode cX3_sacksAsOldAs 5 = .ok (.bipush 32, 2) := by decide +kernel
theorem dX3_sacksAsOldAs_7 : decode cX3_sacksAsOldAs 7 = .ok (.if_icmp .ge 26, 3) := by decide +kernel
theorem dX3_sacksAsOldAs_10 : decode cX3_sacksAsOldAs 10 = .ok (.aload_n 0, 1) := by decide +kernel
theorem dX3_sacksAsOldAs_11 : decode cX3_sacksAsOldAs 11 = .ok (.iload_n 3, 1) := by decide +kernel
theorem dX3_sacksAsOldAs_12 : decode cX3_sacksAsOldAs 12 = .ok (.invokevirtual 79, 3) := by decide +kernel
theorem dX3_sacksAsOldAs_15 : decode cX3_sacksAsOldAs 15 = .ok (.iload_n 1, 1) := by decide +kernel
theorem dX3_sacksAsOldAs_16 : decode cX3_sacksAsOldAs 16 = .ok (.if_icmp .ne 11, 3) := by decide +kernel
theorem dX3_sacksAsOldAs_19 : decode cX3_sacksAsOldAs 19 = .ok (.iload_n 2, 1) := by decide +kernel
theorem dX3_sacksAsOldAs_20 : decode cX3_sacksAsOldAs 20 = .ok (.aload_n 0, 1) := by decide +kernel
theorem dX3_sacksAsOldAs_21 : decode cX3_sacksAsOldAs 21 = .ok (.iload_n 3, 1) := by decide +kernel
theorem dX3_sacksAsOldAs_22 : decode cX3_sacksAsOldAs 22 = .ok (.invokevirtual 69, 3) := by decide +kernel
theorem dX3_sacksAsOldAs_25 : decode cX3_sacksAsOldAs 25 = .ok (.iadd, 1) := by decide +kernel
theorem dX3_sacksAsOldAs_26 : decode cX3_sacksAsOldAs 26 = .ok (.istore_n 2, 1) := by decide +kernel
theorem dX3_sacksAsOldAs_27 : decode cX3_sacksAsOldAs 27 = .ok (.iinc 3 1, 3) := by decide +kernel
theorem dX3_sacksAsOldAs_30 : decode cX3_sacksAsOldAs 30 = .ok (.goto (-26), 3) := by decide +kernel
theorem dX3_sacksAsOldAs_33 : decode cX3_sacksAsOldAs 33 = .ok (.iload_n 2, 1) := by decide +kernel
theorem dX3_sacksAsOldAs_34 : decode cX3_sacksAsOldAs 34 = .ok (.ireturn, 1) := by decide +kernel
set_option maxRecDepth 20000 in
theorem ggX3_filledBays_X3_isEmpty : GoodIn wsX3_filledBays wsX3_isEmpty := goodIn_r _ [5, 6, 7, 8, 9, 10, 11, 12, 13, 14, 15] (by decide +kernel) (by decide +kernel)
set_option maxRecDepth 20000 in
theorem gX3_filledBays_X3_isEmpty : GoodIn wsX3_filledBays (wsV RX3 50 RX3 yX3_isEmpty wsX3_isEmpty) := goodIn_app (goodIn_of _ (by decide +kernel)) ggX3_filledBays_X3_isEmpty
theorem dX3_filledBays_0 : decode cX3_filledBays 0 = .ok (.iconst 0, 1) := by decide +kernel
theorem dX3_filledBays_1 : decode cX3_filledBays 1 = .ok (.istore_n 1, 1) := by decide +kernel
theorem dX3_filledBays_2 : decode cX3_filledBays 2 = .ok (.iconst 0, 1) := by decide +kernel
theorem dX3_filledBays_3 : decode cX3_filledBays 3 = .ok (.istore_n 2, 1) := by decide +kernel
theorem dX3_filledBays_4 : decode cX3_filledBays 4 = .ok (.iload_n 2, 1) := by decide +kernel
theorem dX3_filledBays_5 : decode cX3_filledBays 5 = .ok (.bipush 32, 2) := by decide +kernel
theorem dX3_filledBays_7 : decode cX3_filledBays 7 = .ok (.if_icmp .ge 20, 3) := by decide +kernel
theorem dX3_filledBays_10 : decode cX3_filledBays 10 = .ok (.aload_n 0, 1) := by decide +kernel
theorem dX3_filledBays_11 : decode cX3_filledBays 11 = .ok (.iload_n 2, 1) := by decide +kernel
theorem dX3_filledBays_12 : decode cX3_filledBays 12 = .ok (.invokevirtual 50, 3) := by decide +kernel
theorem dX3_filledBays_15 : decode cX3_filledBays 15 = .ok (.ifCond .ne 6, 3) := by decide +kernel
theorem dX3_filledBays_18 : decode cX3_filledBays 18 = .ok (.iinc 1 1, 3) := by decide +kernel
theorem dX3_filledBays_21 : decode cX3_filledBays 21 = .ok (.iinc 2 1, 3) := by decide +kernel
theorem dX3_filledBays_24 : decode cX3_filledBays 24 = .ok (.goto (-20), 3) := by decide +kernel
theorem dX3_filledBays_27 : decode cX3_filledBays 27 = .ok (.iload_n 1, 1) := by decide +kernel
theorem dX3_filledBays_28 : decode cX3_filledBays 28 = .ok (.ireturn, 1) := by decide +kernel
set_option maxRecDepth 20000 in
theorem ggX3_crackedRungs_X3_isCracked : GoodIn wsX3_crackedRungs wsX3_isCracked := goodIn_r _ [5, 6, 7, 8, 9, 10, 11, 12, 13, 14, 15] (by decide +kernel) (by decide +kernel)
set_option maxRecDepth 20000 in
theorem gX3_crackedRungs_X3_isCracked : GoodIn wsX3_crackedRungs (wsV RX3 57 RX3 yX3_isCracked wsX3_isCracked) := goodIn_app (goodIn_of _ (by decide +kernel)) ggX3_crackedRungs_X3_isCracked
theorem dX3_crackedRungs_0 : decode cX3_crackedRungs 0 = .ok (.iconst 0, 1) := by decide +kernel
theorem dX3_crackedRungs_1 : decode cX3_crackedRungs 1 = .ok (.istore_n 1, 1) := by decide +kernel
theorem dX3_crackedRungs_2 : decode cX3_crackedRungs 2 = .ok (.iconst 1, 1) := by decide +kernel
theorem dX3_crackedRungs_3 : decode cX3_crackedRungs 3 = .ok (.istore_n 2, 1) := by decide +kernel
theorem dX3_crackedRungs_4 : decode cX3_crackedRungs 4 = .ok (.iload_n 2, 1) := by decide +kernel
theorem dX3_crackedRungs_5 : decode cX3_crackedRungs 5 = .ok (.bipush 32, 2) := by decide +kernel
theorem dX3_crackedRungs_7 : decode cX3_crackedRungs 7 = .ok (.if_icmp .gt 20, 3) := by decide +kernel
theorem dX3_crackedRungs_10 : decode cX3_crackedRungs 10 = .ok (.aload_n 0, 1) := by decide +kernel
theorem dX3_crackedRungs_11 : decode cX3_crackedRungs 11 = .ok (.iload_n 2, 1) := by decide +kernel
theorem dX3_crackedRungs_12 : decode cX3_crackedRungs 12 = .ok (.invokevirtual 57, 3) := by decide +kernel
theorem dX3_crackedRungs_15 : decode cX3_crackedRungs 15 = .ok (.ifCond .eq 6, 3) := by decide +kernel
theorem dX3_crackedRungs_18 : decode cX3_crackedRungs 18 = .ok (.iinc 1 1, 3) := by decide +kernel
theorem dX3_crackedRungs_21 : decode cX3_crackedRungs 21 = .ok (.iinc 2 1, 3) := by decide +kernel
theorem dX3_crackedRungs_24 : decode cX3_crackedRungs 24 = .ok (.goto (-20), 3) := by decide +kernel
theorem dX3_crackedRungs_27 : decode cX3_crackedRungs 27 = .ok (.iload_n 1, 1) := by decide +kernel
theorem dX3_crackedRungs_28 : decode cX3_crackedRungs 28 = .ok (.ireturn, 1) := by decide +kernel
set_option maxRecDepth 20000 in
theorem ggX3_placeOf_X3_isEmpty : GoodIn wsX3_placeOf wsX3_isEmpty := goodIn_r _ [5, 6, 7, 8, 9, 23, 24, 25, 26, 27, 28] (by decide +kernel) (by decide +kernel)
set_option maxRecDepth 20000 in
theorem gX3_placeOf_X3_isEmpty : GoodIn wsX3_placeOf (wsV RX3 50 RX3 yX3_isEmpty wsX3_isEmpty) := goodIn_app (goodIn_of _ (by decide +kernel)) ggX3_placeOf_X3_isEmpty
set_option maxRecDepth 20000 in
theorem ggX3_placeOf_X3_isAhead : GoodIn wsX3_placeOf wsX3_isAhead := goodIn_r _ [13, 14, 15, 16, 4, 17, 18, 7, 8, 9, 19, 20, 21, 22, 6, 23, 24, 25, 26, 27, 28] (by decide +kernel) (by decide +kernel)
set_option maxRecDepth 20000 in
theorem gX3_placeOf_X3_isAhead : GoodIn wsX3_placeOf (wsV RX3 82 RX3 yX3_isAhead wsX3_isAhead) := goodIn_app (goodIn_of _ (by decide +kernel)) ggX3_placeOf_X3_isAhead
theorem dX3_placeOf_0 : decode cX3_placeOf 0 = .ok (.iconst 0, 1) := by decide +kernel
theorem dX3_placeOf_1 : decode cX3_placeOf 1 = .ok (.istore_n 2, 1) := by decide +kernel
theorem dX3_placeOf_2 : decode cX3_placeOf 2 = .ok (.iconst 0, 1) := by decide +kernel
theorem dX3_placeOf_3 : decode cX3_placeOf 3 = .ok (.istore_n 3, 1) := by decide +kernel
theorem dX3_placeOf_4 : decode cX3_placeOf 4 = .ok (.iload_n 3, 1) := by decide +kernel
theorem dX3_placeOf_5 : decode cX3_placeOf 5 = .ok (.bipush 32, 2) := by decide +kernel
theorem dX3_placeOf_7 : decode cX3_placeOf 7 = .ok (.if_icmp .ge 29, 3) := by decide +kernel
theorem dX3_placeOf_10 : decode cX3_placeOf 10 = .ok (.aload_n 0, 1) := by decide +kernel
theorem dX3_placeOf_11 : decode cX3_placeOf 11 = .ok (.iload_n 3, 1) := by decide +kernel
theorem dX3_placeOf_12 : decode cX3_placeOf 12 = .ok (.invokevirtual 50, 3) := by decide +kernel
theorem dX3_placeOf_15 : decode cX3_placeOf 15 = .ok (.ifCond .ne 15, 3) := by decide +kernel
theorem dX3_placeOf_18 : decode cX3_placeOf 18 = .ok (.aload_n 0, 1) := by decide +kernel
theorem dX3_placeOf_19 : decode cX3_placeOf 19 = .ok (.iload_n 3, 1) := by decide +kernel
theorem dX3_placeOf_20 : decode cX3_placeOf 20 = .ok (.iload_n 1, 1) := by decide +kernel
theorem dX3_placeOf_21 : decode cX3_placeOf 21 = .ok (.invokevirtual 82, 3) := by decide +kernel
theorem dX3_placeOf_24 : decode cX3_placeOf 24 = .ok (.ifCond .eq 6, 3) := by decide +kernel
theorem dX3_placeOf_27 : decode cX3_placeOf 27 = .ok (.iinc 2 1, 3) := by decide +kernel
theorem dX3_placeOf_30 : decode cX3_placeOf 30 = .ok (.iinc 3 1, 3) := by decide +kernel
theorem dX3_placeOf_33 : decode cX3_placeOf 33 = .ok (.goto (-29), 3) := by decide +kernel
theorem dX3_placeOf_36 : decode cX3_placeOf 36 = .ok (.iload_n 2, 1) := by decide +kernel
theorem dX3_placeOf_37 : decode cX3_placeOf 37 = .ok (.ireturn, 1) := by decide +kernel
set_option maxRecDepth 20000 in
theorem ggX3_isAhead_X3_ageIn : GoodIn wsX3_isAhead wsX3_ageIn := goodIn_r _ [5, 6, 7, 8, 9, 15, 16, 17, 18, 19, 20] (by decide +kernel) (by decide +kernel)
set_option maxRecDepth 20000 in
theorem gX3_isAhead_X3_ageIn : GoodIn wsX3_isAhead (wsV RX3 79 RX3 yX3_ageIn wsX3_ageIn) := goodIn_app (goodIn_of _ (by decide +kernel)) ggX3_isAhead_X3_ageIn
set_option maxRecDepth 20000 in
theorem ggX3_isAhead_X3_sacksIn : GoodIn wsX3_isAhead wsX3_sacksIn := goodIn_r _ [13, 14, 7, 8, 9, 15, 16, 17, 18, 19, 20] (by decide +kernel) (by decide +kernel)
set_option maxRecDepth 20000 in
theorem gX3_isAhead_X3_sacksIn : GoodIn wsX3_isAhead (wsV RX3 69 RX3 yX3_sacksIn wsX3_sacksIn) := goodIn_app (goodIn_of _ (by decide +kernel)) ggX3_isAhead_X3_sacksIn
theorem dX3_isAhead_0 : decode cX3_isAhead 0 = .ok (.aload_n 0, 1) := by decide +kernel
theorem dX3_isAhead_1 : decode cX3_isAhead 1 = .ok (.iload_n 1, 1) := by decide +kernel
theorem dX3_isAhead_2 : decode cX3_isAhead 2 = .ok (.invokevirtual 79, 3) := by decide +kernel
theorem dX3_isAhead_5 : decode cX3_isAhead 5 = .ok (.aload_n 0, 1) := by decide +kernel
theorem dX3_isAhead_6 : decode cX3_isAhead 6 = .ok (.iload_n 2, 1) := by decide +kernel
theorem dX3_isAhead_7 : decode cX3_isAhead 7 = .ok (.invokevirtual 79, 3) := by decide +kernel
theorem dX3_isAhead_10 : decode cX3_isAhead 10 = .ok (.if_icmp .eq 22, 3) := by decide +kernel
theorem dX3_isAhead_13 : decode cX3_isAhead 13 = .ok (.aload_n 0, 1) := by decide +kernel
theorem dX3_isAhead_14 : decode cX3_isAhead 14 = .ok (.iload_n 1, 1) := by decide +kernel
theorem dX3_isAhead_15 : decode cX3_isAhead 15 = .ok (.invokevirtual 79, 3) := by decide +kernel
theorem dX3_isAhead_18 : decode cX3_isAhead 18 = .ok (.aload_n 0, 1) := by decide +kernel
theorem dX3_isAhead_19 : decode cX3_isAhead 19 = .ok (.iload_n 2, 1) := by decide +kernel
theorem dX3_isAhead_20 : decode cX3_isAhead 20 = .ok (.invokevirtual 79, 3) := by decide +kernel
theorem dX3_isAhead_23 : decode cX3_isAhead 23 = .ok (.if_icmp .le 7, 3) := by decide +kernel
theorem dX3_isAhead_26 : decode cX3_isAhead 26 = .ok (.iconst 1, 1) := by decide +kernel
theorem dX3_isAhead_27 : decode cX3_isAhead 27 = .ok (.goto 4, 3) := by decide +kernel
theorem dX3_isAhead_30 : decode cX3_isAhead 30 = .ok (.iconst 0, 1) := by decide +kernel
theorem dX3_isAhead_31 : decode cX3_isAhead 31 = .ok (.ireturn, 1) := by decide +kernel
theorem dX3_isAhead_32 : decode cX3_isAhead 32 = .ok (.aload_n 0, 1) := by decide +kernel
theorem dX3_isAhead_33 : decode cX3_isAhead 33 = .ok (.iload_n 1, 1) := by decide +kernel
theorem dX3_isAhead_34 : decode cX3_isAhead 34 = .ok (.invokevirtual 69, 3) := by decide +kernel
theorem dX3_isAhead_37 : decode cX3_isAhead 37 = .ok (.aload_n 0, 1) := by decide +kernel
theorem dX3_isAhead_38 : decode cX3_isAhead 38 = .ok (.iload_n 2, 1) := by decide +kernel
theorem dX3_isAhead_39 : decode cX3_isAhead 39 = .ok (.invokevirtual 69, 3) := by decide +kernel
theorem dX3_isAhead_42 : decode cX3_isAhead 42 = .ok (.if_icmp .eq 22, 3) := by decide +kernel
theorem dX3_isAhead_45 : decode cX3_isAhead 45 = .ok (.aload_n 0, 1) := by decide +kernel
theorem dX3_isAhead_46 : decode cX3_isAhead 46 = .ok (.iload_n 1, 1) := by decide +kernel
theorem dX3_isAhead_47 : decode cX3_isAhead 47 = .ok (.invokevirtual 69, 3) := by decide +kernel
theorem dX3_isAhead_50 : decode cX3_isAhead 50 = .ok (.aload_n 0, 1) := by decide +kernel
theorem dX3_isAhead_51 : decode cX3_isAhead 51 = .ok (.iload_n 2, 1) := by decide +kernel
theorem dX3_isAhead_52 : decode cX3_isAhead 52 = .ok (.invokevirtual 69, 3) := by decide +kernel
theorem dX3_isAhead_55 : decode cX3_isAhead 55 = .ok (.if_icmp .le 7, 3) := by decide +kernel
theorem dX3_isAhead_58 : decode cX3_isAhead 58 = .ok (.iconst 1, 1) := by decide +kernel
theorem dX3_isAhead_59 : decode cX3_isAhead 59 = .ok (.goto 4, 3) := by decide +kernel
theorem dX3_isAhead_62 : decode cX3_isAhead 62 = .ok (.iconst 0, 1) := by decide +kernel
theorem dX3_isAhead_63 : decode cX3_isAhead 63 = .ok (.ireturn, 1) := by decide +kernel
theorem dX3_isAhead_64 : decode cX3_isAhead 64 = .ok (.iload_n 1, 1) := by decide +kernel
theorem dX3_isAhead_65 : decode cX3_isAhead 65 = .ok (.iload_n 2, 1) := by decide +kernel
theorem dX3_isAhead_66 : decode cX3_isAhead 66 = .ok (.if_icmp .ge 7, 3) := by decide +kernel
theorem dX3_isAhead_69 : decode cX3_isAhead 69 = .ok (.iconst 1, 1) := by decide +kernel
theorem dX3_isAhead_70 : decode cX3_isAhead 70 = .ok (.goto 4, 3) := by decide +kernel
theorem dX3_isAhead_73 : decode cX3_isAhead 73 = .ok (.iconst 0, 1) := by decide +kernel
theorem dX3_isAhead_74 : decode cX3_isAhead 74 = .ok (.ireturn, 1) := by decide +kernel
set_option maxRecDepth 20000 in
theorem ggX3_oldestOfKind_X3_isEmpty : GoodIn wsX3_oldestOfKind wsX3_isEmpty := goodIn_r _ [5, 6, 7, 8, 9, 20, 21, 22, 23, 24, 25] (by decide +kernel) (by decide +kernel)
set_option maxRecDepth 20000 in
theorem gX3_oldestOfKind_X3_isEmpty : GoodIn wsX3_oldestOfKind (wsV RX3 50 RX3 yX3_isEmpty wsX3_isEmpty) := goodIn_app (goodIn_of _ (by decide +kernel)) ggX3_oldestOfKind_X3_isEmpty
set_option maxRecDepth 20000 in
theorem ggX3_oldestOfKind_X3_kindIn : GoodIn wsX3_oldestOfKind wsX3_kindIn := goodIn_r _ [13, 14, 7, 8, 9, 20, 21, 22, 23, 24, 25] (by decide +kernel) (by decide +kernel)
set_option maxRecDepth 20000 in
theorem gX3_oldestOfKind_X3_kindIn : GoodIn wsX3_oldestOfKind (wsV RX3 76 RX3 yX3_kindIn wsX3_kindIn) := goodIn_app (goodIn_of _ (by decide +kernel)) ggX3_oldestOfKind_X3_kindIn
set_option maxRecDepth 20000 in
theorem ggX3_oldestOfKind_X3_ageIn : GoodIn wsX3_oldestOfKind wsX3_ageIn := goodIn_r _ [18, 19, 7, 8, 9, 20, 21, 22, 23, 24, 25] (by decide +kernel) (by decide +kernel)
set_option maxRecDepth 20000 in
theorem gX3_oldestOfKind_X3_ageIn : GoodIn wsX3_oldestOfKind (wsV RX3 79 RX3 yX3_ageIn wsX3_ageIn) := goodIn_app (goodIn_of _ (by decide +kernel)) ggX3_oldestOfKind_X3_ageIn
theorem dX3_oldestOfKind_0 : decode cX3_oldestOfKind 0 = .ok (.bipush (-15), 2) := by decide +kernel
theorem dX3_oldestOfKind_2 : decode cX3_oldestOfKind 2 = .ok (.istore_n 2, 1) := by decide +kernel
theorem dX3_oldestOfKind_3 : decode cX3_oldestOfKind 3 = .ok (.iconst 0, 1) := by decide +kernel
theorem dX3_oldestOfKind_4 : decode cX3_oldestOfKind 4 = .ok (.istore_n 3, 1) := by decide +kernel
theorem dX3_oldestOfKind_5 : decode cX3_oldestOfKind 5 = .ok (.iload_n 3, 1) := by decide +kernel
theorem dX3_oldestOfKind_6 : decode cX3_oldestOfKind 6 = .ok (.bipush 32, 2) := by decide +kernel
theorem dX3_oldestOfKind_8 : decode cX3_oldestOfKind 8 = .ok (.if_icmp .ge 47, 3) := by decide +kernel
theorem dX3_oldestOfKind_11 : decode cX3_oldestOfKind 11 = .ok (.aload_n 0, 1) := by decide +kernel
theorem dX3_oldestOfKind_12 : decode cX3_oldestOfKind 12 = .ok (.iload_n 3, 1) := by decide +kernel
theorem dX3_oldestOfKind_13 : decode cX3_oldestOfKind 13 = .ok (.invokevirtual 50, 3) := by decide +kernel
theorem dX3_oldestOfKind_16 : decode cX3_oldestOfKind 16 = .ok (.ifCond .ne 33, 3) := by decide +kernel
theorem dX3_oldestOfKind_19 : decode cX3_oldestOfKind 19 = .ok (.aload_n 0, 1) := by decide +kernel
theorem dX3_oldestOfKind_20 : decode cX3_oldestOfKind 20 = .ok (.iload_n 3, 1) := by decide +kernel
theorem dX3_oldestOfKind_21 : decode cX3_oldestOfKind 21 = .ok (.invokevirtual 76, 3) := by decide +kernel
theorem dX3_oldestOfKind_24 : decode cX3_oldestOfKind 24 = .ok (.iload_n 1, 1) := by decide +kernel
theorem dX3_oldestOfKind_25 : decode cX3_oldestOfKind 25 = .ok (.if_icmp .ne 24, 3) := by decide +kernel
theorem dX3_oldestOfKind_28 : decode cX3_oldestOfKind 28 = .ok (.iload_n 2, 1) := by decide +kernel
theorem dX3_oldestOfKind_29 : decode cX3_oldestOfKind 29 = .ok (.bipush (-15), 2) := by decide +kernel
theorem dX3_oldestOfKind_31 : decode cX3_oldestOfKind 31 = .ok (.if_icmp .eq 16, 3) := by decide +kernel
theorem dX3_oldestOfKind_34 : decode cX3_oldestOfKind 34 = .ok (.aload_n 0, 1) := by decide +kernel
theorem dX3_oldestOfKind_35 : decode cX3_oldestOfKind 35 = .ok (.iload_n 3, 1) := by decide +kernel
theorem dX3_oldestOfKind_36 : decode cX3_oldestOfKind 36 = .ok (.invokevirtual 79, 3) := by decide +kernel
theorem dX3_oldestOfKind_39 : decode cX3_oldestOfKind 39 = .ok (.aload_n 0, 1) := by decide +kernel
theorem dX3_oldestOfKind_40 : decode cX3_oldestOfKind 40 = .ok (.iload_n 2, 1) := by decide +kernel
theorem dX3_oldestOfKind_41 : decode cX3_oldestOfKind 41 = .ok (.invokevirtual 79, 3) := by decide +kernel
theorem dX3_oldestOfKind_44 : decode cX3_oldestOfKind 44 = .ok (.if_icmp .le 5, 3) := by decide +kernel
theorem dX3_oldestOfKind_47 : decode cX3_oldestOfKind 47 = .ok (.iload_n 3, 1) := by decide +kernel
theorem dX3_oldestOfKind_48 : decode cX3_oldestOfKind 48 = .ok (.istore_n 2, 1) := by decide +kernel
theorem dX3_oldestOfKind_49 : decode cX3_oldestOfKind 49 = .ok (.iinc 3 1, 3) := by decide +kernel
theorem dX3_oldestOfKind_52 : decode cX3_oldestOfKind 52 = .ok (.goto (-47), 3) := by decide +kernel
theorem dX3_oldestOfKind_55 : decode cX3_oldestOfKind 55 = .ok (.iload_n 2, 1) := by decide +kernel
theorem dX3_oldestOfKind_56 : decode cX3_oldestOfKind 56 = .ok (.ireturn, 1) := by decide +kernel
set_option maxRecDepth 20000 in
theorem ggX3_spoilingAt_X3_kindIn : GoodIn wsX3_spoilingAt wsX3_kindIn := goodIn_r _ [5, 6, 7, 8, 9, 15, 16, 17, 18, 19, 20] (by decide +kernel) (by decide +kernel)
set_option maxRecDepth 20000 in
theorem gX3_spoilingAt_X3_kindIn : GoodIn wsX3_spoilingAt (wsV RX3 76 RX3 yX3_kindIn wsX3_kindIn) := goodIn_app (goodIn_of _ (by decide +kernel)) ggX3_spoilingAt_X3_kindIn
set_option maxRecDepth 20000 in
theorem ggX3_spoilingAt_X4_at : GoodIn wsX3_spoilingAt wsX4_at := goodIn_r _ [9] (by decide +kernel) (by decide +kernel)
set_option maxRecDepth 20000 in
theorem gX3_spoilingAt_X4_at_n34 : GoodIn wsX3_spoilingAt (wsX4_at) := ggX3_spoilingAt_X4_at
set_option maxRecDepth 20000 in
theorem ggX3_spoilingAt_X3_sacksIn : GoodIn wsX3_spoilingAt wsX3_sacksIn := goodIn_r _ [13, 14, 7, 8, 9, 15, 16, 17, 18, 19, 20] (by decide +kernel) (by decide +kernel)
set_option maxRecDepth 20000 in
theorem gX3_spoilingAt_X3_sacksIn : GoodIn wsX3_spoilingAt (wsV RX3 69 RX3 yX3_sacksIn wsX3_sacksIn) := goodIn_app (goodIn_of _ (by decide +kernel)) ggX3_spoilingAt_X3_sacksIn
theorem dX3_spoilingAt_0 : decode cX3_spoilingAt 0 = .ok (.iload_n 2, 1) := by decide +kernel
theorem dX3_spoilingAt_1 : decode cX3_spoilingAt 1 = .ok (.getstatic 86, 3) := by decide +kernel
theorem dX3_spoilingAt_4 : decode cX3_spoilingAt 4 = .ok (.aload_n 0, 1) := by decide +kernel
theorem dX3_spoilingAt_5 : decode cX3_spoilingAt 5 = .ok (.iload_n 1, 1) := by decide +kernel
theorem dX3_spoilingAt_6 : decode cX3_spoilingAt 6 = .ok (.invokevirtual 76, 3) := by decide +kernel
theorem dX3_spoilingAt_9 : decode cX3_spoilingAt 9 = .ok (.invokestatic 34, 3) := by decide +kernel
theorem dX3_spoilingAt_12 : decode cX3_spoilingAt 12 = .ok (.if_icmp .le 17, 3) := by decide +kernel
theorem dX3_spoilingAt_15 : decode cX3_spoilingAt 15 = .ok (.aload_n 0, 1) := by decide +kernel
theorem dX3_spoilingAt_16 : decode cX3_spoilingAt 16 = .ok (.iload_n 1, 1) := by decide +kernel
theorem dX3_spoilingAt_17 : decode cX3_spoilingAt 17 = .ok (.invokevirtual 69, 3) := by decide +kernel
theorem dX3_spoilingAt_20 : decode cX3_spoilingAt 20 = .ok (.bipush 9, 2) := by decide +kernel
theorem dX3_spoilingAt_22 : decode cX3_spoilingAt 22 = .ok (.iadd, 1) := by decide +kernel
theorem dX3_spoilingAt_23 : decode cX3_spoilingAt 23 = .ok (.bipush 10, 2) := by decide +kernel
theorem dX3_spoilingAt_25 : decode cX3_spoilingAt 25 = .ok (.idiv, 1) := by decide +kernel
theorem dX3_spoilingAt_26 : decode cX3_spoilingAt 26 = .ok (.goto 4, 3) := by decide +kernel
theorem dX3_spoilingAt_29 : decode cX3_spoilingAt 29 = .ok (.iconst 0, 1) := by decide +kernel
theorem dX3_spoilingAt_30 : decode cX3_spoilingAt 30 = .ok (.ireturn, 1) := by decide +kernel
set_option maxRecDepth 20000 in
theorem ggX3_growOlder_X3_isEmpty : GoodIn wsX3_growOlder wsX3_isEmpty := goodIn_r _ [6, 7, 8, 9, 10, 41, 42, 43, 44, 45, 46] (by decide +kernel) (by decide +kernel)
set_option maxRecDepth 20000 in
theorem gX3_growOlder_X3_isEmpty : GoodIn wsX3_growOlder (wsV RX3 50 RX3 yX3_isEmpty wsX3_isEmpty) := goodIn_app (goodIn_of _ (by decide +kernel)) ggX3_growOlder_X3_isEmpty
set_option maxRecDepth 20000 in
theorem ggX3_growOlder_X3_ageIn : GoodIn wsX3_growOlder wsX3_ageIn := goodIn_r _ [14, 1, 8, 9, 10, 41, 42, 43, 44, 45, 46] (by decide +kernel) (by decide +kernel)
set_option maxRecDepth 20000 in
theorem gX3_growOlder_X3_ageIn : GoodIn wsX3_growOlder (wsV RX3 79 RX3 yX3_ageIn wsX3_ageIn) := goodIn_app (goodIn_of _ (by decide +kernel)) ggX3_growOlder_X3_ageIn
set_option maxRecDepth 20000 in
theorem ggX3_growOlder_X4_put : GoodIn wsX3_growOlder wsX4_put := goodIn_r _ [16] (by decide +kernel) (by decide +kernel)
set_option maxRecDepth 20000 in
theorem gX3_growOlder_X4_put_n38 : GoodIn wsX3_growOlder (wsX4_put) := ggX3_growOlder_X4_put
set_option maxRecDepth 20000 in
theorem ggX3_growOlder_X3_spoilingAt : GoodIn wsX3_growOlder wsX3_spoilingAt := goodIn_r _ [20, 21, 22, 23, 5, 24, 25, 8, 9, 10, 26, 27, 28, 29, 7, 41, 42, 43, 44, 45, 46] (by decide +kernel) (by decide +kernel)
set_option maxRecDepth 20000 in
theorem gX3_growOlder_X3_spoilingAt : GoodIn wsX3_growOlder (wsV RX3 89 RX3 yX3_spoilingAt wsX3_spoilingAt) := goodIn_app (goodIn_of _ (by decide +kernel)) ggX3_growOlder_X3_spoilingAt
set_option maxRecDepth 20000 in
theorem ggX3_growOlder_X3_remove : GoodIn wsX3_growOlder wsX3_remove := goodIn_r _ [33, 25, 1, 34, 35, 36, 5, 37, 7, 38, 8, 9, 10, 15, 16, 39, 40, 2, 3, 4, 6, 41, 42, 43, 44, 45, 46] (by decide +kernel) (by decide +kernel)
set_option maxRecDepth 20000 in
theorem gX3_growOlder_X3_remove : GoodIn wsX3_growOlder (wsV RX3 92 RX3 yX3_remove wsX3_remove) := goodIn_app (goodIn_of _ (by decide +kernel)) ggX3_growOlder_X3_remove
theorem dX3_growOlder_0 : decode cX3_growOlder 0 = .ok (.iconst 0, 1) := by decide +kernel
theorem dX3_growOlder_1 : decode cX3_growOlder 1 = .ok (.istore_n 1, 1) := by decide +kernel
theorem dX3_growOlder_2 : decode cX3_growOlder 2 = .ok (.iconst 0, 1) := by decide +kernel
theorem dX3_growOlder_3 : decode cX3_growOlder 3 = .ok (.istore_n 2, 1) := by decide +kernel
theorem dX3_growOlder_4 : decode cX3_growOlder 4 = .ok (.iload_n 2, 1) := by decide +kernel
theorem dX3_growOlder_5 : decode cX3_growOlder 5 = .ok (.bipush 32, 2) := by decide +kernel
theorem dX3_growOlder_7 : decode cX3_growOlder 7 = .ok (.if_icmp .ge 53, 3) := by decide +kernel
theorem dX3_growOlder_10 : decode cX3_growOlder 10 = .ok (.aload_n 0, 1) := by decide +kernel
theorem dX3_growOlder_11 : decode cX3_growOlder 11 = .ok (.iload_n 2, 1) := by decide +kernel
theorem dX3_growOlder_12 : decode cX3_growOlder 12 = .ok (.invokevirtual 50, 3) := by decide +kernel
theorem dX3_growOlder_15 : decode cX3_growOlder 15 = .ok (.ifCond .ne 39, 3) := by decide +kernel
theorem dX3_growOlder_18 : decode cX3_growOlder 18 = .ok (.aload_n 0, 1) := by decide +kernel
theorem dX3_growOlder_19 : decode cX3_growOlder 19 = .ok (.getfield 18, 3) := by decide +kernel
theorem dX3_growOlder_22 : decode cX3_growOlder 22 = .ok (.iload_n 2, 1) := by decide +kernel
theorem dX3_growOlder_23 : decode cX3_growOlder 23 = .ok (.aload_n 0, 1) := by decide +kernel
theorem dX3_growOlder_24 : decode cX3_growOlder 24 = .ok (.iload_n 2, 1) := by decide +kernel
theorem dX3_growOlder_25 : decode cX3_growOlder 25 = .ok (.invokevirtual 79, 3) := by decide +kernel
theorem dX3_growOlder_28 : decode cX3_growOlder 28 = .ok (.iconst 1, 1) := by decide +kernel
theorem dX3_growOlder_29 : decode cX3_growOlder 29 = .ok (.iadd, 1) := by decide +kernel
theorem dX3_growOlder_30 : decode cX3_growOlder 30 = .ok (.invokestatic 38, 3) := by decide +kernel
theorem dX3_growOlder_33 : decode cX3_growOlder 33 = .ok (.aload_n 0, 1) := by decide +kernel
theorem dX3_growOlder_34 : decode cX3_growOlder 34 = .ok (.iload_n 2, 1) := by decide +kernel
theorem dX3_growOlder_35 : decode cX3_growOlder 35 = .ok (.aload_n 0, 1) := by decide +kernel
theorem dX3_growOlder_36 : decode cX3_growOlder 36 = .ok (.iload_n 2, 1) := by decide +kernel
theorem dX3_growOlder_37 : decode cX3_growOlder 37 = .ok (.invokevirtual 79, 3) := by decide +kernel
theorem dX3_growOlder_40 : decode cX3_growOlder 40 = .ok (.invokevirtual 89, 3) := by decide +kernel
theorem dX3_growOlder_43 : decode cX3_growOlder 43 = .ok (.istore_n 3, 1) := by decide +kernel
theorem dX3_growOlder_44 : decode cX3_growOlder 44 = .ok (.aload_n 0, 1) := by decide +kernel
theorem dX3_growOlder_45 : decode cX3_growOlder 45 = .ok (.iload_n 2, 1) := by decide +kernel
theorem dX3_growOlder_46 : decode cX3_growOlder 46 = .ok (.iload_n 3, 1) := by decide +kernel
theorem dX3_growOlder_47 : decode cX3_growOlder 47 = .ok (.invokevirtual 92, 3) := by decide +kernel
theorem dX3_growOlder_50 : decode cX3_growOlder 50 = .ok (.iload_n 1, 1) := by decide +kernel
theorem dX3_growOlder_51 : decode cX3_growOlder 51 = .ok (.iload_n 3, 1) := by decide +kernel
theorem dX3_growOlder_52 : decode cX3_growOlder 52 = .ok (.iadd, 1) := by decide +kernel
theorem dX3_growOlder_53 : decode cX3_growOlder 53 = .ok (.istore_n 1, 1) := by decide +kernel
theorem dX3_growOlder_54 : decode cX3_growOlder 54 = .ok (.iinc 2 1, 3) := by decide +kernel
theorem dX3_growOlder_57 : decode cX3_growOlder 57 = .ok (.goto (-53), 3) := by decide +kernel
theorem dX3_growOlder_60 : decode cX3_growOlder 60 = .ok (.iload_n 1, 1) := by decide +kernel
theorem dX3_growOlder_61 : decode cX3_growOlder 61 = .ok (.ireturn, 1) := by decide +kernel
set_option maxRecDepth 20000 in
theorem ggX4_init_X3_init : GoodIn wsX4_init wsX3_init := goodIn_r _ [29, 30, 2, 3, 25, 31, 32, 33, 34, 35, 36, 60, 61, 62, 63, 64, 65] (by decide +kernel) (by decide +kernel)
set_option maxRecDepth 20000 in
theorem gX4_init_X3_init : GoodIn wsX4_init (wsX3_init) := ggX4_init_X3_init
set_option maxRecDepth 20000 in
theorem ggX4_init_X2_init : GoodIn wsX4_init wsX2_init := goodIn_r _ [39, 40, 2, 3, 41, 42, 43, 44, 5, 6, 45, 28, 29, 30, 25, 31, 32, 33, 34, 35, 36, 76, 77, 78, 60, 61, 62, 63, 64, 65] (by decide +kernel) (by decide +kernel)
set_option maxRecDepth 20000 in
theorem gX4_init_X2_init : GoodIn wsX4_init (wsX2_init) := ggX4_init_X2_init
set_option maxRecDepth 20000 in
theorem ggX4_init_X0_init : GoodIn wsX4_init wsX0_init := goodIn_r _ [47, 48, 2, 3, 25, 49, 50, 51, 52, 53, 54, 79, 80, 81, 82, 83, 84] (by decide +kernel) (by decide +kernel)
set_option maxRecDepth 20000 in
theorem gX4_init_X0_init_n35 : GoodIn wsX4_init (wsX0_init) := ggX4_init_X0_init
set_option maxRecDepth 20000 in
theorem ggX4_init_X1_init : GoodIn wsX4_init wsX1_init := goodIn_r _ [56, 57, 2, 3, 25, 58, 59, 85, 86] (by decide +kernel) (by decide +kernel)
set_option maxRecDepth 20000 in
theorem gX4_init_X1_init_n42 : GoodIn wsX4_init (wsX1_init) := ggX4_init_X1_init
theorem dX4_init_0 : decode cX4_init 0 = .ok (.aload_n 0, 1) := by decide +kernel
theorem dX4_init_1 : decode cX4_init 1 = .ok (.invokespecial 1, 3) := by decide +kernel
theorem dX4_init_4 : decode cX4_init 4 = .ok (.aload_n 0, 1) := by decide +kernel
theorem dX4_init_5 : decode cX4_init 5 = .ok (.new 7, 3) := by decide +kernel
theorem dX4_init_8 : decode cX4_init 8 = .ok (.dup, 1) := by decide +kernel
theorem dX4_init_9 : decode cX4_init 9 = .ok (.invokespecial 9, 3) := by decide +kernel
theorem dX4_init_12 : decode cX4_init 12 = .ok (.putfield 10, 3) := by decide +kernel
theorem dX4_init_15 : decode cX4_init 15 = .ok (.aload_n 0, 1) := by decide +kernel
theorem dX4_init_16 : decode cX4_init 16 = .ok (.new 7, 3) := by decide +kernel
theorem dX4_init_19 : decode cX4_init 19 = .ok (.dup, 1) := by decide +kernel
theorem dX4_init_20 : decode cX4_init 20 = .ok (.invokespecial 9, 3) := by decide +kernel
theorem dX4_init_23 : decode cX4_init 23 = .ok (.putfield 16, 3) := by decide +kernel
theorem dX4_init_26 : decode cX4_init 26 = .ok (.aload_n 0, 1) := by decide +kernel
theorem dX4_init_27 : decode cX4_init 27 = .ok (.new 7, 3) := by decide +kernel
theorem dX4_init_30 : decode cX4_init 30 = .ok (.dup, 1) := by decide +kernel
theorem dX4_init_31 : decode cX4_init 31 = .ok (.invokespecial 9, 3) := by decide +kernel
theorem dX4_init_34 : decode cX4_init 34 = .ok (.putfield 19, 3) := by decide +kernel
theorem dX4_init_37 : decode cX4_init 37 = .ok (.aload_n 0, 1) := by decide +kernel
theorem dX4_init_38 : decode cX4_init 38 = .ok (.iconst 0, 1) := by decide +kernel
theorem dX4_init_39 : decode cX4_init 39 = .ok (.putfield 22, 3) := by decide +kernel
theorem dX4_init_42 : decode cX4_init 42 = .ok (.aload_n 0, 1) := by decide +kernel
theorem dX4_init_43 : decode cX4_init 43 = .ok (.new 26, 3) := by decide +kernel
theorem dX4_init_46 : decode cX4_init 46 = .ok (.dup, 1) := by decide +kernel
theorem dX4_init_47 : decode cX4_init 47 = .ok (.invokespecial 28, 3) := by decide +kernel
theorem dX4_init_50 : decode cX4_init 50 = .ok (.putfield 29, 3) := by decide +kernel
theorem dX4_init_53 : decode cX4_init 53 = .ok (.aload_n 0, 1) := by decide +kernel
theorem dX4_init_54 : decode cX4_init 54 = .ok (.new 33, 3) := by decide +kernel
theorem dX4_init_57 : decode cX4_init 57 = .ok (.dup, 1) := by decide +kernel
theorem dX4_init_58 : decode cX4_init 58 = .ok (.invokespecial 35, 3) := by decide +kernel
theorem dX4_init_61 : decode cX4_init 61 = .ok (.putfield 36, 3) := by decide +kernel
theorem dX4_init_64 : decode cX4_init 64 = .ok (.aload_n 0, 1) := by decide +kernel
theorem dX4_init_65 : decode cX4_init 65 = .ok (.new 40, 3) := by decide +kernel
theorem dX4_init_68 : decode cX4_init 68 = .ok (.dup, 1) := by decide +kernel
theorem dX4_init_69 : decode cX4_init 69 = .ok (.invokespecial 42, 3) := by decide +kernel
theorem dX4_init_72 : decode cX4_init 72 = .ok (.putfield 43, 3) := by decide +kernel
theorem dX4_init_75 : decode cX4_init 75 = .ok (.aload_n 0, 1) := by decide +kernel
theorem dX4_init_76 : decode cX4_init 76 = .ok (.iconst 0, 1) := by decide +kernel
theorem dX4_init_77 : decode cX4_init 77 = .ok (.putfield 47, 3) := by decide +kernel
theorem dX4_init_80 : decode cX4_init 80 = .ok (.aload_n 0, 1) := by decide +kernel
theorem dX4_init_81 : decode cX4_init 81 = .ok (.iconst 0, 1) := by decide +kernel
theorem dX4_init_82 : decode cX4_init 82 = .ok (.putfield 51, 3) := by decide +kernel
theorem dX4_init_85 : decode cX4_init 85 = .ok (.aload_n 0, 1) := by decide +kernel
theorem dX4_init_86 : decode cX4_init 86 = .ok (.bipush 33, 2) := by decide +kernel
theorem dX4_init_88 : decode cX4_init 88 = .ok (.newarray .int, 2) := by decide +kernel
theorem dX4_init_90 : decode cX4_init 90 = .ok (.putfield 54, 3) := by decide +kernel
theorem dX4_init_93 : decode cX4_init 93 = .ok (.return_, 1) := by decide +kernel
set_option maxRecDepth 20000 in
theorem ggX4_store_X3_copyFrom : GoodIn wsX4_store wsX3_copyFrom := goodIn_r _ [7, 8, 9, 10, 11, 12, 13, 14, 15, 16, 122, 123, 124, 125, 126, 127] (by decide +kernel) (by decide +kernel)
set_option maxRecDepth 20000 in
theorem gX4_store_X3_copyFrom : GoodIn wsX4_store (wsV RX4 58 RX3 yX3_copyFrom wsX3_copyFrom) := goodIn_app (goodIn_of _ (by decide +kernel)) ggX4_store_X3_copyFrom
set_option maxRecDepth 20000 in
theorem ggX4_store_X4_storeSacks : GoodIn wsX4_store wsX4_storeSacks := goodIn_r _ [20, 2, 21, 22, 15, 23, 24, 25, 26, 27, 28, 29, 30, 31, 32, 33, 34, 35, 36, 6, 37, 9, 38, 39, 40, 41, 42, 43, 8, 44, 45, 46, 47, 48, 49, 50, 51, 52, 53, 54, 55, 56, 57, 58, 59, 60, 61, 13, 62, 63, 64, 65, 66, 67, 10, 68, 69, 70, 71, 72, 73, 74, 75, 11, 76, 77, 78, 79, 80, 81, 12, 82, 83, 84, 85, 86, 87, 88, 89, 90, 91, 92, 93, 112, 113, 114, 115, 116, 117, 118, 119, 120, 121, 122, 123, 124, 125, 126, 127] (by decide +kernel) (by decide +kernel)
set_option maxRecDepth 20000 in
theorem gX4_store_X4_storeSacks : GoodIn wsX4_store (wsV RX4 62 RX4 yX4_storeSacks wsX4_storeSacks) := goodIn_app (goodIn_of _ (by decide +kernel)) ggX4_store_X4_storeSacks
set_option maxRecDepth 20000 in
theorem ggX4_store_X4_remember : GoodIn wsX4_store wsX4_remember := goodIn_r _ [97, 98, 1, 99, 100, 101, 102, 103, 104, 105, 106, 107, 108, 109, 110, 111, 4, 5, 6, 7, 8, 9, 10, 11, 12, 13, 14, 15, 16, 112, 113, 114, 115, 116, 117, 118, 119, 120, 121, 128, 129, 130, 122, 123, 124, 125, 126, 127] (by decide +kernel) (by decide +kernel)
set_option maxRecDepth 20000 in
theorem gX4_store_X4_remember : GoodIn wsX4_store (wsV RX4 66 RX4 yX4_remember wsX4_remember) := goodIn_app (goodIn_of _ (by decide +kernel)) ggX4_store_X4_remember
theorem dX4_store_0 : decode cX4_store 0 = .ok (.aload_n 0, 1) := by decide +kernel
theorem dX4_store_1 : decode cX4_store 1 = .ok (.getfield 16, 3) := by decide +kernel
theorem dX4_store_4 : decode cX4_store 4 = .ok (.aload_n 0, 1) := by decide +kernel
theorem dX4_store_5 : decode cX4_store 5 = .ok (.getfield 10, 3) := by decide +kernel
theorem dX4_store_8 : decode cX4_store 8 = .ok (.invokevirtual 58, 3) := by decide +kernel
theorem dX4_store_11 : decode cX4_store 11 = .ok (.aload_n 0, 1) := by decide +kernel
theorem dX4_store_12 : decode cX4_store 12 = .ok (.aload_n 0, 1) := by decide +kernel
theorem dX4_store_13 : decode cX4_store 13 = .ok (.iload_n 1, 1) := by decide +kernel
theorem dX4_store_14 : decode cX4_store 14 = .ok (.iload_n 2, 1) := by decide +kernel
theorem dX4_store_15 : decode cX4_store 15 = .ok (.iload_n 3, 1) := by decide +kernel
theorem dX4_store_16 : decode cX4_store 16 = .ok (.invokevirtual 62, 3) := by decide +kernel
theorem dX4_store_19 : decode cX4_store 19 = .ok (.invokevirtual 66, 3) := by decide +kernel
theorem dX4_store_22 : decode cX4_store 22 = .ok (.ireturn, 1) := by decide +kernel
set_option maxRecDepth 20000 in
theorem ggX4_take_X3_copyFrom : GoodIn wsX4_take wsX3_copyFrom := goodIn_r _ [7, 8, 9, 10, 11, 12, 13, 14, 15, 16, 96, 97, 98, 99, 100, 101] (by decide +kernel) (by decide +kernel)
set_option maxRecDepth 20000 in
theorem gX4_take_X3_copyFrom : GoodIn wsX4_take (wsV RX4 58 RX3 yX3_copyFrom wsX3_copyFrom) := goodIn_app (goodIn_of _ (by decide +kernel)) ggX4_take_X3_copyFrom
set_option maxRecDepth 20000 in
theorem ggX4_take_X4_takeSacks : GoodIn wsX4_take wsX4_takeSacks := goodIn_r _ [20, 2, 21, 22, 15, 23, 24, 25, 26, 27, 28, 29, 30, 31, 32, 33, 6, 34, 9, 35, 36, 37, 38, 39, 40, 41, 42, 43, 44, 45, 46, 47, 48, 49, 50, 51, 52, 53, 54, 8, 10, 55, 56, 57, 58, 11, 59, 60, 61, 62, 63, 64, 65, 66, 67, 13, 86, 87, 88, 89, 90, 91, 92, 93, 94, 95, 96, 97, 98, 99, 100, 101] (by decide +kernel) (by decide +kernel)
set_option maxRecDepth 20000 in
theorem gX4_take_X4_takeSacks : GoodIn wsX4_take (wsV RX4 70 RX4 yX4_takeSacks wsX4_takeSacks) := goodIn_app (goodIn_of _ (by decide +kernel)) ggX4_take_X4_takeSacks
set_option maxRecDepth 20000 in
theorem ggX4_take_X4_remember : GoodIn wsX4_take wsX4_remember := goodIn_r _ [71, 72, 1, 73, 74, 75, 76, 77, 78, 79, 80, 81, 82, 83, 84, 85, 4, 5, 6, 7, 8, 9, 10, 11, 12, 13, 14, 15, 16, 86, 87, 88, 89, 90, 91, 92, 93, 94, 95, 102, 103, 104, 96, 97, 98, 99, 100, 101] (by decide +kernel) (by decide +kernel)
set_option maxRecDepth 20000 in
theorem gX4_take_X4_remember : GoodIn wsX4_take (wsV RX4 66 RX4 yX4_remember wsX4_remember) := goodIn_app (goodIn_of _ (by decide +kernel)) ggX4_take_X4_remember
theorem dX4_take_0 : decode cX4_take 0 = .ok (.aload_n 0, 1) := by decide +kernel
theorem dX4_take_1 : decode cX4_take 1 = .ok (.getfield 16, 3) := by decide +kernel
theorem dX4_take_4 : decode cX4_take 4 = .ok (.aload_n 0, 1) := by decide +kernel
theorem dX4_take_5 : decode cX4_take 5 = .ok (.getfield 10, 3) := by decide +kernel
theorem dX4_take_8 : decode cX4_take 8 = .ok (.invokevirtual 58, 3) := by decide +kernel
theorem dX4_take_11 : decode cX4_take 11 = .ok (.aload_n 0, 1) := by decide +kernel
theorem dX4_take_12 : decode cX4_take 12 = .ok (.aload_n 0, 1) := by decide +kernel
theorem dX4_take_13 : decode cX4_take 13 = .ok (.iload_n 1, 1) := by decide +kernel
theorem dX4_take_14 : decode cX4_take 14 = .ok (.iload_n 2, 1) := by decide +kernel
theorem dX4_take_15 : decode cX4_take 15 = .ok (.invokevirtual 70, 3) := by decide +kernel
theorem dX4_take_18 : decode cX4_take 18 = .ok (.invokevirtual 66, 3) := by decide +kernel
theorem dX4_take_21 : decode cX4_take 21 = .ok (.ireturn, 1) := by decide +kernel
set_option maxRecDepth 20000 in
theorem ggX4_move_X3_copyFrom : GoodIn wsX4_move wsX3_copyFrom := goodIn_r _ [7, 8, 9, 10, 11, 12, 13, 14, 15, 16, 135, 136, 137, 138, 139, 140] (by decide +kernel) (by decide +kernel)
set_option maxRecDepth 20000 in
theorem gX4_move_X3_copyFrom : GoodIn wsX4_move (wsV RX4 58 RX3 yX3_copyFrom wsX3_copyFrom) := goodIn_app (goodIn_of _ (by decide +kernel)) ggX4_move_X3_copyFrom
set_option maxRecDepth 20000 in
theorem ggX4_move_X4_moveSacks : GoodIn wsX4_move wsX4_moveSacks := goodIn_r _ [20, 2, 21, 22, 23, 24, 25, 26, 15, 27, 28, 29, 30, 31, 32, 33, 34, 35, 36, 37, 38, 39, 40, 41, 42, 43, 6, 44, 9, 45, 46, 47, 48, 49, 50, 51, 52, 53, 54, 55, 56, 57, 58, 8, 59, 60, 61, 62, 63, 64, 65, 66, 67, 68, 69, 70, 10, 71, 72, 73, 74, 75, 76, 77, 78, 11, 79, 80, 81, 82, 83, 84, 85, 86, 87, 13, 88, 89, 90, 91, 92, 93, 94, 95, 12, 96, 97, 98, 99, 100, 101, 102, 103, 104, 105, 106, 107, 125, 126, 127, 128, 129, 130, 131, 132, 133, 134, 135, 136, 137, 138, 139, 140] (by decide +kernel) (by decide +kernel)
set_option maxRecDepth 20000 in
theorem gX4_move_X4_moveSacks : GoodIn wsX4_move (wsV RX4 74 RX4 yX4_moveSacks wsX4_moveSacks) := goodIn_app (goodIn_of _ (by decide +kernel)) ggX4_move_X4_moveSacks
set_option maxRecDepth 20000 in
theorem ggX4_move_X4_remember : GoodIn wsX4_move wsX4_remember := goodIn_r _ [111, 112, 1, 113, 114, 115, 116, 117, 118, 119, 120, 121, 122, 23, 123, 124, 4, 5, 6, 7, 8, 9, 10, 11, 12, 13, 14, 15, 16, 125, 126, 127, 128, 129, 130, 131, 132, 133, 134, 141, 142, 143, 135, 136, 137, 138, 139, 140] (by decide +kernel) (by decide +kernel)
set_option maxRecDepth 20000 in
theorem gX4_move_X4_remember : GoodIn wsX4_move (wsV RX4 66 RX4 yX4_remember wsX4_remember) := goodIn_app (goodIn_of _ (by decide +kernel)) ggX4_move_X4_remember
theorem dX4_move_0 : decode cX4_move 0 = .ok (.aload_n 0, 1) := by decide +kernel
theorem dX4_move_1 : decode cX4_move 1 = .ok (.getfield 16, 3) := by decide +kernel
theorem dX4_move_4 : decode cX4_move 4 = .ok (.aload_n 0, 1) := by decide +kernel
theorem dX4_move_5 : decode cX4_move 5 = .ok (.getfield 10, 3) := by decide +kernel
theorem dX4_move_8 : decode cX4_move 8 = .ok (.invokevirtual 58, 3) := by decide +kernel
theorem dX4_move_11 : decode cX4_move 11 = .ok (.aload_n 0, 1) := by decide +kernel
theorem dX4_move_12 : decode cX4_move 12 = .ok (.aload_n 0, 1) := by decide +kernel
theorem dX4_move_13 : decode cX4_move 13 = .ok (.iload_n 1, 1) := by decide +kernel
theorem dX4_move_14 : decode cX4_move 14 = .ok (.iload_n 2, 1) := by decide +kernel
theorem dX4_move_15 : decode cX4_move 15 = .ok (.iload_n 3, 1) := by decide +kernel
theorem dX4_move_16 : decode cX4_move 16 = .ok (.invokevirtual 74, 3) := by decide +kernel
theorem dX4_move_19 : decode cX4_move 19 = .ok (.invokevirtual 66, 3) := by decide +kernel
theorem dX4_move_22 : decode cX4_move 22 = .ok (.ireturn, 1) := by decide +kernel
set_option maxRecDepth 20000 in
theorem ggX4_order_X3_copyFrom : GoodIn wsX4_order wsX3_copyFrom := goodIn_r _ [7, 8, 9, 10, 11, 12, 13, 14, 15, 16, 108, 109, 110, 111, 112, 113] (by decide +kernel) (by decide +kernel)
set_option maxRecDepth 20000 in
theorem gX4_order_X3_copyFrom : GoodIn wsX4_order (wsV RX4 58 RX3 yX3_copyFrom wsX3_copyFrom) := goodIn_app (goodIn_of _ (by decide +kernel)) ggX4_order_X3_copyFrom
set_option maxRecDepth 20000 in
theorem ggX4_order_X4_fillOrder : GoodIn wsX4_order wsX4_fillOrder := goodIn_r _ [20, 2, 21, 22, 23, 24, 25, 26, 15, 27, 28, 29, 30, 31, 32, 33, 6, 34, 35, 36, 37, 38, 8, 39, 40, 41, 42, 43, 44, 9, 45, 46, 47, 48, 49, 50, 51, 52, 53, 54, 55, 56, 57, 58, 59, 60, 61, 62, 10, 63, 64, 65, 66, 67, 68, 69, 70, 71, 11, 72, 73, 74, 75, 76, 77, 78, 79, 13, 80, 81, 82, 98, 99, 100, 101, 102, 103, 104, 105, 106, 107, 108, 109, 110, 111, 112, 113] (by decide +kernel) (by decide +kernel)
set_option maxRecDepth 20000 in
theorem gX4_order_X4_fillOrder : GoodIn wsX4_order (wsV RX4 77 RX4 yX4_fillOrder wsX4_fillOrder) := goodIn_app (goodIn_of _ (by decide +kernel)) ggX4_order_X4_fillOrder
set_option maxRecDepth 20000 in
theorem ggX4_order_X4_remember : GoodIn wsX4_order wsX4_remember := goodIn_r _ [86, 87, 1, 88, 89, 90, 91, 92, 93, 94, 95, 96, 22, 23, 24, 97, 4, 5, 6, 7, 8, 9, 10, 11, 12, 13, 14, 15, 16, 98, 99, 100, 101, 102, 103, 104, 105, 106, 107, 114, 115, 116, 108, 109, 110, 111, 112, 113] (by decide +kernel) (by decide +kernel)
set_option maxRecDepth 20000 in
theorem gX4_order_X4_remember : GoodIn wsX4_order (wsV RX4 66 RX4 yX4_remember wsX4_remember) := goodIn_app (goodIn_of _ (by decide +kernel)) ggX4_order_X4_remember
theorem dX4_order_0 : decode cX4_order 0 = .ok (.aload_n 0, 1) := by decide +kernel
theorem dX4_order_1 : decode cX4_order 1 = .ok (.getfield 16, 3) := by decide +kernel
theorem dX4_order_4 : decode cX4_order 4 = .ok (.aload_n 0, 1) := by decide +kernel
theorem dX4_order_5 : decode cX4_order 5 = .ok (.getfield 10, 3) := by decide +kernel
theorem dX4_order_8 : decode cX4_order 8 = .ok (.invokevirtual 58, 3) := by decide +kernel
theorem dX4_order_11 : decode cX4_order 11 = .ok (.aload_n 0, 1) := by decide +kernel
theorem dX4_order_12 : decode cX4_order 12 = .ok (.aload_n 0, 1) := by decide +kernel
theorem dX4_order_13 : decode cX4_order 13 = .ok (.iload_n 1, 1) := by decide +kernel
theorem dX4_order_14 : decode cX4_order 14 = .ok (.iload_n 2, 1) := by decide +kernel
theorem dX4_order_15 : decode cX4_order 15 = .ok (.invokevirtual 77, 3) := by decide +kernel
theorem dX4_order_18 : decode cX4_order 18 = .ok (.invokevirtual 66, 3) := by decide +kernel
theorem dX4_order_21 : decode cX4_order 21 = .ok (.ireturn, 1) := by decide +kernel
set_option maxRecDepth 20000 in
theorem ggX4_fix_X3_copyFrom : GoodIn wsX4_fix wsX3_copyFrom := goodIn_r _ [7, 8, 9, 10, 11, 12, 13, 14, 15, 16, 91, 92, 93, 94, 95, 96] (by decide +kernel) (by decide +kernel)
set_option maxRecDepth 20000 in
theorem gX4_fix_X3_copyFrom : GoodIn wsX4_fix (wsV RX4 58 RX3 yX3_copyFrom wsX3_copyFrom) := goodIn_app (goodIn_of _ (by decide +kernel)) ggX4_fix_X3_copyFrom
set_option maxRecDepth 20000 in
theorem ggX4_fix_X4_mend : GoodIn wsX4_fix wsX4_mend := goodIn_r _ [20, 2, 21, 22, 15, 23, 24, 25, 26, 27, 28, 29, 6, 30, 12, 31, 32, 33, 34, 35, 36, 37, 38, 39, 40, 41, 42, 11, 43, 44, 45, 46, 47, 48, 49, 50, 51, 52, 13, 53, 54, 55, 56, 57, 58, 59, 60, 61, 62, 81, 82, 83, 84, 85, 86, 87, 88, 89, 90, 91, 92, 93, 94, 95, 96] (by decide +kernel) (by decide +kernel)
set_option maxRecDepth 20000 in
theorem gX4_fix_X4_mend : GoodIn wsX4_fix (wsV RX4 80 RX4 yX4_mend wsX4_mend) := goodIn_app (goodIn_of _ (by decide +kernel)) ggX4_fix_X4_mend
set_option maxRecDepth 20000 in
theorem ggX4_fix_X4_remember : GoodIn wsX4_fix wsX4_remember := goodIn_r _ [66, 67, 1, 68, 69, 70, 71, 72, 73, 74, 75, 76, 77, 78, 79, 80, 4, 5, 6, 7, 8, 9, 10, 11, 12, 13, 14, 15, 16, 81, 82, 83, 84, 85, 86, 87, 88, 89, 90, 97, 98, 99, 91, 92, 93, 94, 95, 96] (by decide +kernel) (by decide +kernel)
set_option maxRecDepth 20000 in
theorem gX4_fix_X4_remember : GoodIn wsX4_fix (wsV RX4 66 RX4 yX4_remember wsX4_remember) := goodIn_app (goodIn_of _ (by decide +kernel)) ggX4_fix_X4_remember
theorem dX4_fix_0 : decode cX4_fix 0 = .ok (.aload_n 0, 1) := by decide +kernel
theorem dX4_fix_1 : decode cX4_fix 1 = .ok (.getfield 16, 3) := by decide +kernel
theorem dX4_fix_4 : decode cX4_fix 4 = .ok (.aload_n 0, 1) := by decide +kernel
theorem dX4_fix_5 : decode cX4_fix 5 = .ok (.getfield 10, 3) := by decide +kernel
theorem dX4_fix_8 : decode cX4_fix 8 = .ok (.invokevirtual 58, 3) := by decide +kernel
theorem dX4_fix_11 : decode cX4_fix 11 = .ok (.aload_n 0, 1) := by decide +kernel
theorem dX4_fix_12 : decode cX4_fix 12 = .ok (.aload_n 0, 1) := by decide +kernel
theorem dX4_fix_13 : decode cX4_fix 13 = .ok (.iload_n 1, 1) := by decide +kernel
theorem dX4_fix_14 : decode cX4_fix 14 = .ok (.invokevirtual 80, 3) := by decide +kernel
theorem dX4_fix_17 : decode cX4_fix 17 = .ok (.invokevirtual 66, 3) := by decide +kernel
theorem dX4_fix_20 : decode cX4_fix 20 = .ok (.ireturn, 1) := by decide +kernel
set_option maxRecDepth 20000 in
theorem ggX4_pass_X3_copyFrom : GoodIn wsX4_pass wsX3_copyFrom := goodIn_r _ [7, 8, 9, 10, 11, 12, 13, 14, 15, 16, 94, 95, 96, 97, 98, 99] (by decide +kernel) (by decide +kernel)
set_option maxRecDepth 20000 in
theorem gX4_pass_X3_copyFrom : GoodIn wsX4_pass (wsV RX4 58 RX3 yX3_copyFrom wsX3_copyFrom) := goodIn_app (goodIn_of _ (by decide +kernel)) ggX4_pass_X3_copyFrom
set_option maxRecDepth 20000 in
theorem ggX4_pass_X4_letWeeksPass : GoodIn wsX4_pass wsX4_letWeeksPass := goodIn_r _ [20, 2, 21, 22, 15, 23, 24, 25, 26, 6, 27, 10, 28, 29, 30, 31, 9, 32, 33, 34, 35, 36, 37, 38, 39, 40, 41, 42, 43, 44, 45, 46, 47, 8, 48, 49, 50, 51, 52, 53, 54, 55, 56, 57, 58, 59, 11, 60, 61, 62, 63, 64, 65, 13, 84, 85, 86, 87, 88, 89, 90, 91, 92, 93, 94, 95, 96, 97, 98, 99] (by decide +kernel) (by decide +kernel)
set_option maxRecDepth 20000 in
theorem gX4_pass_X4_letWeeksPass : GoodIn wsX4_pass (wsV RX4 83 RX4 yX4_letWeeksPass wsX4_letWeeksPass) := goodIn_app (goodIn_of _ (by decide +kernel)) ggX4_pass_X4_letWeeksPass
set_option maxRecDepth 20000 in
theorem ggX4_pass_X4_remember : GoodIn wsX4_pass wsX4_remember := goodIn_r _ [69, 70, 1, 71, 72, 73, 74, 75, 76, 77, 78, 79, 80, 81, 82, 83, 4, 5, 6, 7, 8, 9, 10, 11, 12, 13, 14, 15, 16, 84, 85, 86, 87, 88, 89, 90, 91, 92, 93, 100, 101, 102, 94, 95, 96, 97, 98, 99] (by decide +kernel) (by decide +kernel)
set_option maxRecDepth 20000 in
theorem gX4_pass_X4_remember : GoodIn wsX4_pass (wsV RX4 66 RX4 yX4_remember wsX4_remember) := goodIn_app (goodIn_of _ (by decide +kernel)) ggX4_pass_X4_remember
theorem dX4_pass_0 : decode cX4_pass 0 = .ok (.aload_n 0, 1) := by decide +kernel
theorem dX4_pass_1 : decode cX4_pass 1 = .ok (.getfield 16, 3) := by decide +kernel
theorem dX4_pass_4 : decode cX4_pass 4 = .ok (.aload_n 0, 1) := by decide +kernel
theorem dX4_pass_5 : decode cX4_pass 5 = .ok (.getfield 10, 3) := by decide +kernel
theorem dX4_pass_8 : decode cX4_pass 8 = .ok (.invokevirtual 58, 3) := by decide +kernel
theorem dX4_pass_11 : decode cX4_pass 11 = .ok (.aload_n 0, 1) := by decide +kernel
theorem dX4_pass_12 : decode cX4_pass 12 = .ok (.aload_n 0, 1) := by decide +kernel
theorem dX4_pass_13 : decode cX4_pass 13 = .ok (.iload_n 1, 1) := by decide +kernel
theorem dX4_pass_14 : decode cX4_pass 14 = .ok (.invokevirtual 83, 3) := by decide +kernel
theorem dX4_pass_17 : decode cX4_pass 17 = .ok (.invokevirtual 66, 3) := by decide +kernel
theorem dX4_pass_20 : decode cX4_pass 20 = .ok (.ireturn, 1) := by decide +kernel
set_option maxRecDepth 20000 in
theorem ggX4_bayOf_X4_isBay : GoodIn wsX4_bayOf wsX4_isBay := goodIn_r _ [5, 6, 7, 4, 8] (by decide +kernel) (by decide +kernel)
set_option maxRecDepth 20000 in
theorem gX4_bayOf_X4_isBay : GoodIn wsX4_bayOf (va_wsS RX4 86 yX4_isBay wsX4_isBay) := goodIn_app (goodIn_of _ (by decide +kernel)) ggX4_bayOf_X4_isBay
set_option maxRecDepth 20000 in
theorem ggX4_bayOf_X3_isEmpty : GoodIn wsX4_bayOf wsX3_isEmpty := goodIn_r _ [13, 14, 15, 4, 16, 62, 63, 64, 65, 66, 67] (by decide +kernel) (by decide +kernel)
set_option maxRecDepth 20000 in
theorem gX4_bayOf_X3_isEmpty : GoodIn wsX4_bayOf (wsV RX4 90 RX3 yX3_isEmpty wsX3_isEmpty) := goodIn_app (goodIn_of _ (by decide +kernel)) ggX4_bayOf_X3_isEmpty
set_option maxRecDepth 20000 in
theorem ggX4_bayOf_X3_kindIn : GoodIn wsX4_bayOf wsX3_kindIn := goodIn_r _ [20, 21, 15, 4, 16, 62, 63, 64, 65, 66, 67] (by decide +kernel) (by decide +kernel)
set_option maxRecDepth 20000 in
theorem gX4_bayOf_X3_kindIn : GoodIn wsX4_bayOf (wsV RX4 93 RX3 yX3_kindIn wsX3_kindIn) := goodIn_app (goodIn_of _ (by decide +kernel)) ggX4_bayOf_X3_kindIn
set_option maxRecDepth 20000 in
theorem ggX4_bayOf_X3_sacksIn : GoodIn wsX4_bayOf wsX3_sacksIn := goodIn_r _ [25, 14, 15, 4, 16, 62, 63, 64, 65, 66, 67] (by decide +kernel) (by decide +kernel)
set_option maxRecDepth 20000 in
theorem gX4_bayOf_X3_sacksIn : GoodIn wsX4_bayOf (wsV RX4 96 RX3 yX3_sacksIn wsX3_sacksIn) := goodIn_app (goodIn_of _ (by decide +kernel)) ggX4_bayOf_X3_sacksIn
set_option maxRecDepth 20000 in
theorem ggX4_bayOf_X3_ageIn : GoodIn wsX4_bayOf wsX3_ageIn := goodIn_r _ [29, 30, 15, 4, 16, 62, 63, 64, 65, 66, 67] (by decide +kernel) (by decide +kernel)
set_option maxRecDepth 20000 in
theorem gX4_bayOf_X3_ageIn : GoodIn wsX4_bayOf (wsV RX4 99 RX3 yX3_ageIn wsX3_ageIn) := goodIn_app (goodIn_of _ (by decide +kernel)) ggX4_bayOf_X3_ageIn
set_option maxRecDepth 20000 in
theorem ggX4_bayOf_X3_spoilingAt : GoodIn wsX4_bayOf wsX3_spoilingAt := goodIn_r _ [34, 35, 18, 19, 12, 20, 21, 15, 4, 16, 36, 23, 24, 25, 14, 62, 63, 64, 65, 66, 67] (by decide +kernel) (by decide +kernel)
set_option maxRecDepth 20000 in
theorem gX4_bayOf_X3_spoilingAt : GoodIn wsX4_bayOf (wsV RX4 102 RX3 yX3_spoilingAt wsX3_spoilingAt) := goodIn_app (goodIn_of _ (by decide +kernel)) ggX4_bayOf_X3_spoilingAt
set_option maxRecDepth 20000 in
theorem ggX4_bayOf_X3_rungsOver : GoodIn wsX4_bayOf wsX3_rungsOver := goodIn_r _ [40, 41, 4, 42] (by decide +kernel) (by decide +kernel)
set_option maxRecDepth 20000 in
theorem gX4_bayOf_X3_rungsOver : GoodIn wsX4_bayOf (wsV RX4 105 RX3 yX3_rungsOver wsX3_rungsOver) := goodIn_app (goodIn_of _ (by decide +kernel)) ggX4_bayOf_X3_rungsOver
set_option maxRecDepth 20000 in
theorem ggX4_bayOf_X3_crackedOver : GoodIn wsX4_bayOf wsX3_crackedOver := goodIn_r _ [46, 47, 48, 49, 12, 50, 51, 15, 4, 16, 41, 42, 62, 63, 64, 65, 66, 67] (by decide +kernel) (by decide +kernel)
set_option maxRecDepth 20000 in
theorem gX4_bayOf_X3_crackedOver : GoodIn wsX4_bayOf (wsV RX4 108 RX3 yX3_crackedOver wsX3_crackedOver) := goodIn_app (goodIn_of _ (by decide +kernel)) ggX4_bayOf_X3_crackedOver
theorem dX4_bayOf_0 : decode cX4_bayOf 0 = .ok (.iload_n 1, 1) := by decide +kernel
theorem dX4_bayOf_1 : decode cX4_bayOf 1 = .ok (.invokestatic 86, 3) := by decide +kernel
theorem dX4_bayOf_4 : decode cX4_bayOf 4 = .ok (.ifCond .ne 6, 3) := by decide +kernel
theorem dX4_bayOf_7 : decode cX4_bayOf 7 = .ok (.bipush (-11), 2) := by decide +kernel
theorem dX4_bayOf_9 : decode cX4_bayOf 9 = .ok (.ireturn, 1) := by decide +kernel
theorem dX4_bayOf_10 : decode cX4_bayOf 10 = .ok (.iload_n 2, 1) := by decide +kernel
theorem dX4_bayOf_11 : decode cX4_bayOf 11 = .ok (.tableswitch 117 0 5 #[37, 62, 71, 80, 99, 108], 37) := by decide +kernel
theorem dX4_bayOf_48 : decode cX4_bayOf 48 = .ok (.aload_n 0, 1) := by decide +kernel
theorem dX4_bayOf_49 : decode cX4_bayOf 49 = .ok (.getfield 10, 3) := by decide +kernel
theorem dX4_bayOf_52 : decode cX4_bayOf 52 = .ok (.iload_n 1, 1) := by decide +kernel
theorem dX4_bayOf_53 : decode cX4_bayOf 53 = .ok (.invokevirtual 90, 3) := by decide +kernel
theorem dX4_bayOf_56 : decode cX4_bayOf 56 = .ok (.ifCond .eq 8, 3) := by decide +kernel
theorem dX4_bayOf_59 : decode cX4_bayOf 59 = .ok (.bipush (-15), 2) := by decide +kernel
theorem dX4_bayOf_61 : decode cX4_bayOf 61 = .ok (.goto 11, 3) := by decide +kernel
theorem dX4_bayOf_64 : decode cX4_bayOf 64 = .ok (.aload_n 0, 1) := by decide +kernel
theorem dX4_bayOf_65 : decode cX4_bayOf 65 = .ok (.getfield 10, 3) := by decide +kernel
theorem dX4_bayOf_68 : decode cX4_bayOf 68 = .ok (.iload_n 1, 1) := by decide +kernel
theorem dX4_bayOf_69 : decode cX4_bayOf 69 = .ok (.invokevirtual 93, 3) := by decide +kernel
theorem dX4_bayOf_72 : decode cX4_bayOf 72 = .ok (.ireturn, 1) := by decide +kernel
theorem dX4_bayOf_73 : decode cX4_bayOf 73 = .ok (.aload_n 0, 1) := by decide +kernel
theorem dX4_bayOf_74 : decode cX4_bayOf 74 = .ok (.getfield 10, 3) := by decide +kernel
theorem dX4_bayOf_77 : decode cX4_bayOf 77 = .ok (.iload_n 1, 1) := by decide +kernel
theorem dX4_bayOf_78 : decode cX4_bayOf 78 = .ok (.invokevirtual 96, 3) := by decide +kernel
theorem dX4_bayOf_81 : decode cX4_bayOf 81 = .ok (.ireturn, 1) := by decide +kernel
theorem dX4_bayOf_82 : decode cX4_bayOf 82 = .ok (.aload_n 0, 1) := by decide +kernel
theorem dX4_bayOf_83 : decode cX4_bayOf 83 = .ok (.getfield 10, 3) := by decide +kernel
theorem dX4_bayOf_86 : decode cX4_bayOf 86 = .ok (.iload_n 1, 1) := by decide +kernel
theorem dX4_bayOf_87 : decode cX4_bayOf 87 = .ok (.invokevirtual 99, 3) := by decide +kernel
theorem dX4_bayOf_90 : decode cX4_bayOf 90 = .ok (.ireturn, 1) := by decide +kernel
theorem dX4_bayOf_91 : decode cX4_bayOf 91 = .ok (.aload_n 0, 1) := by decide +kernel
theorem dX4_bayOf_92 : decode cX4_bayOf 92 = .ok (.getfield 10, 3) := by decide +kernel
theorem dX4_bayOf_95 : decode cX4_bayOf 95 = .ok (.iload_n 1, 1) := by decide +kernel
theorem dX4_bayOf_96 : decode cX4_bayOf 96 = .ok (.aload_n 0, 1) := by decide +kernel
theorem dX4_bayOf_97 : decode cX4_bayOf 97 = .ok (.getfield 10, 3) := by decide +kernel
theorem dX4_bayOf_100 : decode cX4_bayOf 100 = .ok (.iload_n 1, 1) := by decide +kernel
theorem dX4_bayOf_101 : decode cX4_bayOf 101 = .ok (.invokevirtual 99, 3) := by decide +kernel
theorem dX4_bayOf_104 : decode cX4_bayOf 104 = .ok (.iconst 1, 1) := by decide +kernel
theorem dX4_bayOf_105 : decode cX4_bayOf 105 = .ok (.iadd, 1) := by decide +kernel
theorem dX4_bayOf_106 : decode cX4_bayOf 106 = .ok (.invokevirtual 102, 3) := by decide +kernel
theorem dX4_bayOf_109 : decode cX4_bayOf 109 = .ok (.ireturn, 1) := by decide +kernel
theorem dX4_bayOf_110 : decode cX4_bayOf 110 = .ok (.aload_n 0, 1) := by decide +kernel
theorem dX4_bayOf_111 : decode cX4_bayOf 111 = .ok (.getfield 10, 3) := by decide +kernel
theorem dX4_bayOf_114 : decode cX4_bayOf 114 = .ok (.iload_n 1, 1) := by decide +kernel
theorem dX4_bayOf_115 : decode cX4_bayOf 115 = .ok (.invokevirtual 105, 3) := by decide +kernel
theorem dX4_bayOf_118 : decode cX4_bayOf 118 = .ok (.ireturn, 1) := by decide +kernel
theorem dX4_bayOf_119 : decode cX4_bayOf 119 = .ok (.aload_n 0, 1) := by decide +kernel
theorem dX4_bayOf_120 : decode cX4_bayOf 120 = .ok (.getfield 10, 3) := by decide +kernel
theorem dX4_bayOf_123 : decode cX4_bayOf 123 = .ok (.iload_n 1, 1) := by decide +kernel
theorem dX4_bayOf_124 : decode cX4_bayOf 124 = .ok (.invokevirtual 108, 3) := by decide +kernel
theorem dX4_bayOf_127 : decode cX4_bayOf 127 = .ok (.ireturn, 1) := by decide +kernel
theorem dX4_bayOf_128 : decode cX4_bayOf 128 = .ok (.bipush (-12), 2) := by decide +kernel
theorem dX4_bayOf_130 : decode cX4_bayOf 130 = .ok (.ireturn, 1) := by decide +kernel
set_option maxRecDepth 20000 in
theorem ggX4_rungOf_X4_isRung : GoodIn wsX4_rungOf wsX4_isRung := goodIn_r _ [5, 6, 7, 4, 8] (by decide +kernel) (by decide +kernel)
set_option maxRecDepth 20000 in
theorem gX4_rungOf_X4_isRung : GoodIn wsX4_rungOf (va_wsS RX4 111 yX4_isRung wsX4_isRung) := goodIn_app (goodIn_of _ (by decide +kernel)) ggX4_rungOf_X4_isRung
set_option maxRecDepth 20000 in
theorem ggX4_rungOf_X4_sizeOf : GoodIn wsX4_rungOf wsX4_sizeOf := goodIn_r _ [11] (by decide +kernel) (by decide +kernel)
set_option maxRecDepth 20000 in
theorem gX4_rungOf_X4_sizeOf : GoodIn wsX4_rungOf (va_wsS RX4 114 yX4_sizeOf wsX4_sizeOf) := goodIn_app (goodIn_of _ (by decide +kernel)) ggX4_rungOf_X4_sizeOf
set_option maxRecDepth 20000 in
theorem ggX4_rungOf_X3_sumOf : GoodIn wsX4_rungOf wsX3_sumOf := goodIn_r _ [16, 17, 18, 4, 19, 44, 45, 46, 47, 48, 49] (by decide +kernel) (by decide +kernel)
set_option maxRecDepth 20000 in
theorem gX4_rungOf_X3_sumOf : GoodIn wsX4_rungOf (wsV RX4 117 RX3 yX3_sumOf wsX3_sumOf) := goodIn_app (goodIn_of _ (by decide +kernel)) ggX4_rungOf_X3_sumOf
set_option maxRecDepth 20000 in
theorem ggX4_rungOf_X4_loadOf : GoodIn wsX4_rungOf wsX4_loadOf := goodIn_r _ [22, 9, 10, 4, 11] (by decide +kernel) (by decide +kernel)
set_option maxRecDepth 20000 in
theorem gX4_rungOf_X4_loadOf : GoodIn wsX4_rungOf (va_wsS RX4 120 yX4_loadOf wsX4_loadOf) := goodIn_app (goodIn_of _ (by decide +kernel)) ggX4_rungOf_X4_loadOf
set_option maxRecDepth 20000 in
theorem ggX4_rungOf_X3_isCracked : GoodIn wsX4_rungOf wsX3_isCracked := goodIn_r _ [26, 27, 18, 4, 19, 44, 45, 46, 47, 48, 49] (by decide +kernel) (by decide +kernel)
set_option maxRecDepth 20000 in
theorem gX4_rungOf_X3_isCracked : GoodIn wsX4_rungOf (wsV RX4 123 RX3 yX3_isCracked wsX3_isCracked) := goodIn_app (goodIn_of _ (by decide +kernel)) ggX4_rungOf_X3_isCracked
set_option maxRecDepth 20000 in
theorem ggX4_rungOf_X4_firstBayOf : GoodIn wsX4_rungOf wsX4_firstBayOf := goodIn_r _ [30, 9, 10, 4, 11] (by decide +kernel) (by decide +kernel)
set_option maxRecDepth 20000 in
theorem gX4_rungOf_X4_firstBayOf : GoodIn wsX4_rungOf (va_wsS RX4 126 yX4_firstBayOf wsX4_firstBayOf) := goodIn_app (goodIn_of _ (by decide +kernel)) ggX4_rungOf_X4_firstBayOf
set_option maxRecDepth 20000 in
theorem ggX4_rungOf_X4_rungsBelow : GoodIn wsX4_rungOf wsX4_rungsBelow := goodIn_r _ [33, 28, 29, 4, 30, 9, 10, 11] (by decide +kernel) (by decide +kernel)
set_option maxRecDepth 20000 in
theorem gX4_rungOf_X4_rungsBelow : GoodIn wsX4_rungOf (va_wsS RX4 129 yX4_rungsBelow wsX4_rungsBelow) := goodIn_app (goodIn_of _ (by decide +kernel)) ggX4_rungOf_X4_rungsBelow
theorem dX4_rungOf_0 : decode cX4_rungOf 0 = .ok (.iload_n 1, 1) := by decide +kernel
theorem dX4_rungOf_1 : decode cX4_rungOf 1 = .ok (.invokestatic 111, 3) := by decide +kernel
theorem dX4_rungOf_4 : decode cX4_rungOf 4 = .ok (.ifCond .ne 6, 3) := by decide +kernel
theorem dX4_rungOf_7 : decode cX4_rungOf 7 = .ok (.bipush (-11), 2) := by decide +kernel
theorem dX4_rungOf_9 : decode cX4_rungOf 9 = .ok (.ireturn, 1) := by decide +kernel
theorem dX4_rungOf_10 : decode cX4_rungOf 10 = .ok (.iload_n 2, 1) := by decide +kernel
theorem dX4_rungOf_11 : decode cX4_rungOf 11 = .ok (.tableswitch 83 0 5 #[37, 42, 51, 56, 73, 78], 37) := by decide +kernel
theorem dX4_rungOf_48 : decode cX4_rungOf 48 = .ok (.iload_n 1, 1) := by decide +kernel
theorem dX4_rungOf_49 : decode cX4_rungOf 49 = .ok (.invokestatic 114, 3) := by decide +kernel
theorem dX4_rungOf_52 : decode cX4_rungOf 52 = .ok (.ireturn, 1) := by decide +kernel
theorem dX4_rungOf_53 : decode cX4_rungOf 53 = .ok (.aload_n 0, 1) := by decide +kernel
theorem dX4_rungOf_54 : decode cX4_rungOf 54 = .ok (.getfield 10, 3) := by decide +kernel
theorem dX4_rungOf_57 : decode cX4_rungOf 57 = .ok (.iload_n 1, 1) := by decide +kernel
theorem dX4_rungOf_58 : decode cX4_rungOf 58 = .ok (.invokevirtual 117, 3) := by decide +kernel
theorem dX4_rungOf_61 : decode cX4_rungOf 61 = .ok (.ireturn, 1) := by decide +kernel
theorem dX4_rungOf_62 : decode cX4_rungOf 62 = .ok (.iload_n 1, 1) := by decide +kernel
theorem dX4_rungOf_63 : decode cX4_rungOf 63 = .ok (.invokestatic 120, 3) := by decide +kernel
theorem dX4_rungOf_66 : decode cX4_rungOf 66 = .ok (.ireturn, 1) := by decide +kernel
theorem dX4_rungOf_67 : decode cX4_rungOf 67 = .ok (.aload_n 0, 1) := by decide +kernel
theorem dX4_rungOf_68 : decode cX4_rungOf 68 = .ok (.getfield 10, 3) := by decide +kernel
theorem dX4_rungOf_71 : decode cX4_rungOf 71 = .ok (.iload_n 1, 1) := by decide +kernel
theorem dX4_rungOf_72 : decode cX4_rungOf 72 = .ok (.invokevirtual 123, 3) := by decide +kernel
theorem dX4_rungOf_75 : decode cX4_rungOf 75 = .ok (.ifCond .eq 7, 3) := by decide +kernel
theorem dX4_rungOf_78 : decode cX4_rungOf 78 = .ok (.iconst 1, 1) := by decide +kernel
theorem dX4_rungOf_79 : decode cX4_rungOf 79 = .ok (.goto 4, 3) := by decide +kernel
theorem dX4_rungOf_82 : decode cX4_rungOf 82 = .ok (.iconst 0, 1) := by decide +kernel
theorem dX4_rungOf_83 : decode cX4_rungOf 83 = .ok (.ireturn, 1) := by decide +kernel
theorem dX4_rungOf_84 : decode cX4_rungOf 84 = .ok (.iload_n 1, 1) := by decide +kernel
theorem dX4_rungOf_85 : decode cX4_rungOf 85 = .ok (.invokestatic 126, 3) := by decide +kernel
theorem dX4_rungOf_88 : decode cX4_rungOf 88 = .ok (.ireturn, 1) := by decide +kernel
theorem dX4_rungOf_89 : decode cX4_rungOf 89 = .ok (.iload_n 1, 1) := by decide +kernel
theorem dX4_rungOf_90 : decode cX4_rungOf 90 = .ok (.invokestatic 129, 3) := by decide +kernel
theorem dX4_rungOf_93 : decode cX4_rungOf 93 = .ok (.ireturn, 1) := by decide +kernel
theorem dX4_rungOf_94 : decode cX4_rungOf 94 = .ok (.bipush (-12), 2) := by decide +kernel
theorem dX4_rungOf_96 : decode cX4_rungOf 96 = .ok (.ireturn, 1) := by decide +kernel
set_option maxRecDepth 20000 in
theorem ggX4_sum_X4_isBay : GoodIn wsX4_sum wsX4_isBay := goodIn_r _ [5, 6, 7, 4, 8] (by decide +kernel) (by decide +kernel)
set_option maxRecDepth 20000 in
theorem gX4_sum_X4_isBay : GoodIn wsX4_sum (va_wsS RX4 86 yX4_isBay wsX4_isBay) := goodIn_app (goodIn_of _ (by decide +kernel)) ggX4_sum_X4_isBay
set_option maxRecDepth 20000 in
theorem ggX4_sum_X3_sumByClimbing : GoodIn wsX4_sum wsX3_sumByClimbing := goodIn_r _ [13, 14, 15, 16, 12, 17, 18, 19, 4, 20, 21, 22, 33, 34, 35, 36, 37, 38] (by decide +kernel) (by decide +kernel)
set_option maxRecDepth 20000 in
theorem gX4_sum_X3_sumByClimbing : GoodIn wsX4_sum (wsV RX4 132 RX3 yX3_sumByClimbing wsX3_sumByClimbing) := goodIn_app (goodIn_of _ (by decide +kernel)) ggX4_sum_X3_sumByClimbing
theorem dX4_sum_0 : decode cX4_sum 0 = .ok (.iload_n 1, 1) := by decide +kernel
theorem dX4_sum_1 : decode cX4_sum 1 = .ok (.invokestatic 86, 3) := by decide +kernel
theorem dX4_sum_4 : decode cX4_sum 4 = .ok (.ifCond .eq 10, 3) := by decide +kernel
theorem dX4_sum_7 : decode cX4_sum 7 = .ok (.iload_n 2, 1) := by decide +kernel
theorem dX4_sum_8 : decode cX4_sum 8 = .ok (.invokestatic 86, 3) := by decide +kernel
theorem dX4_sum_11 : decode cX4_sum 11 = .ok (.ifCond .ne 6, 3) := by decide +kernel
theorem dX4_sum_14 : decode cX4_sum 14 = .ok (.bipush (-11), 2) := by decide +kernel
theorem dX4_sum_16 : decode cX4_sum 16 = .ok (.ireturn, 1) := by decide +kernel
theorem dX4_sum_17 : decode cX4_sum 17 = .ok (.iload_n 2, 1) := by decide +kernel
theorem dX4_sum_18 : decode cX4_sum 18 = .ok (.iload_n 1, 1) := by decide +kernel
theorem dX4_sum_19 : decode cX4_sum 19 = .ok (.if_icmp .ge 6, 3) := by decide +kernel
theorem dX4_sum_22 : decode cX4_sum 22 = .ok (.bipush (-12), 2) := by decide +kernel
theorem dX4_sum_24 : decode cX4_sum 24 = .ok (.ireturn, 1) := by decide +kernel
theorem dX4_sum_25 : decode cX4_sum 25 = .ok (.aload_n 0, 1) := by decide +kernel
theorem dX4_sum_26 : decode cX4_sum 26 = .ok (.getfield 10, 3) := by decide +kernel
theorem dX4_sum_29 : decode cX4_sum 29 = .ok (.iload_n 2, 1) := by decide +kernel
theorem dX4_sum_30 : decode cX4_sum 30 = .ok (.invokevirtual 132, 3) := by decide +kernel
theorem dX4_sum_33 : decode cX4_sum 33 = .ok (.aload_n 0, 1) := by decide +kernel
theorem dX4_sum_34 : decode cX4_sum 34 = .ok (.getfield 10, 3) := by decide +kernel
theorem dX4_sum_37 : decode cX4_sum 37 = .ok (.iload_n 1, 1) := by decide +kernel
theorem dX4_sum_38 : decode cX4_sum 38 = .ok (.iconst 1, 1) := by decide +kernel
theorem dX4_sum_39 : decode cX4_sum 39 = .ok (.isub, 1) := by decide +kernel
theorem dX4_sum_40 : decode cX4_sum 40 = .ok (.invokevirtual 132, 3) := by decide +kernel
theorem dX4_sum_43 : decode cX4_sum 43 = .ok (.isub, 1) := by decide +kernel
theorem dX4_sum_44 : decode cX4_sum 44 = .ok (.ireturn, 1) := by decide +kernel
set_option maxRecDepth 20000 in
theorem ggX4_sumAgain_X4_isBay : GoodIn wsX4_sumAgain wsX4_isBay := goodIn_r _ [5, 6, 7, 4, 8] (by decide +kernel) (by decide +kernel)
set_option maxRecDepth 20000 in
theorem gX4_sumAgain_X4_isBay : GoodIn wsX4_sumAgain (va_wsS RX4 86 yX4_isBay wsX4_isBay) := goodIn_app (goodIn_of _ (by decide +kernel)) ggX4_sumAgain_X4_isBay
set_option maxRecDepth 20000 in
theorem ggX4_sumAgain_X3_sumByBays : GoodIn wsX4_sumAgain wsX3_sumByBays := goodIn_r _ [13, 14, 15, 16, 12, 17, 18, 19, 4, 20, 31, 32, 33, 34, 35, 36] (by decide +kernel) (by decide +kernel)
set_option maxRecDepth 20000 in
theorem gX4_sumAgain_X3_sumByBays : GoodIn wsX4_sumAgain (wsV RX4 135 RX3 yX3_sumByBays wsX3_sumByBays) := goodIn_app (goodIn_of _ (by decide +kernel)) ggX4_sumAgain_X3_sumByBays
theorem dX4_sumAgain_0 : decode cX4_sumAgain 0 = .ok (.iload_n 1, 1) := by decide +kernel
theorem dX4_sumAgain_1 : decode cX4_sumAgain 1 = .ok (.invokestatic 86, 3) := by decide +kernel
theorem dX4_sumAgain_4 : decode cX4_sumAgain 4 = .ok (.ifCond .eq 10, 3) := by decide +kernel
theorem dX4_sumAgain_7 : decode cX4_sumAgain 7 = .ok (.iload_n 2, 1) := by decide +kernel
theorem dX4_sumAgain_8 : decode cX4_sumAgain 8 = .ok (.invokestatic 86, 3) := by decide +kernel
theorem dX4_sumAgain_11 : decode cX4_sumAgain 11 = .ok (.ifCond .ne 6, 3) := by decide +kernel
theorem dX4_sumAgain_14 : decode cX4_sumAgain 14 = .ok (.bipush (-11), 2) := by decide +kernel
theorem dX4_sumAgain_16 : decode cX4_sumAgain 16 = .ok (.ireturn, 1) := by decide +kernel
theorem dX4_sumAgain_17 : decode cX4_sumAgain 17 = .ok (.iload_n 2, 1) := by decide +kernel
theorem dX4_sumAgain_18 : decode cX4_sumAgain 18 = .ok (.iload_n 1, 1) := by decide +kernel
theorem dX4_sumAgain_19 : decode cX4_sumAgain 19 = .ok (.if_icmp .ge 6, 3) := by decide +kernel
theorem dX4_sumAgain_22 : decode cX4_sumAgain 22 = .ok (.bipush (-12), 2) := by decide +kernel
theorem dX4_sumAgain_24 : decode cX4_sumAgain 24 = .ok (.ireturn, 1) := by decide +kernel
theorem dX4_sumAgain_25 : decode cX4_sumAgain 25 = .ok (.aload_n 0, 1) := by decide +kernel
theorem dX4_sumAgain_26 : decode cX4_sumAgain 26 = .ok (.getfield 10, 3) := by decide +kernel
theorem dX4_sumAgain_29 : decode cX4_sumAgain 29 = .ok (.iload_n 1, 1) := by decide +kernel
theorem dX4_sumAgain_30 : decode cX4_sumAgain 30 = .ok (.iload_n 2, 1) := by decide +kernel
theorem dX4_sumAgain_31 : decode cX4_sumAgain 31 = .ok (.invokevirtual 135, 3) := by decide +kernel
theorem dX4_sumAgain_34 : decode cX4_sumAgain 34 = .ok (.ireturn, 1) := by decide +kernel
set_option maxRecDepth 20000 in
theorem ggX4_reach_X4_isWithin : GoodIn wsX4_reach wsX4_isWithin := goodIn_r _ [5] (by decide +kernel) (by decide +kernel)
set_option maxRecDepth 20000 in
theorem gX4_reach_X4_isWithin : GoodIn wsX4_reach (va_wsS RX4 138 yX4_isWithin wsX4_isWithin) := goodIn_app (goodIn_of _ (by decide +kernel)) ggX4_reach_X4_isWithin
set_option maxRecDepth 20000 in
theorem ggX4_reach_X3_sumOf : GoodIn wsX4_reach wsX3_sumOf := goodIn_r _ [10, 11, 12, 4, 13, 24, 25, 26, 27, 28, 29] (by decide +kernel) (by decide +kernel)
set_option maxRecDepth 20000 in
theorem gX4_reach_X3_sumOf : GoodIn wsX4_reach (wsV RX4 117 RX3 yX3_sumOf wsX3_sumOf) := goodIn_app (goodIn_of _ (by decide +kernel)) ggX4_reach_X3_sumOf
theorem dX4_reach_0 : decode cX4_reach 0 = .ok (.iload_n 1, 1) := by decide +kernel
theorem dX4_reach_1 : decode cX4_reach 1 = .ok (.iconst 1, 1) := by decide +kernel
theorem dX4_reach_2 : decode cX4_reach 2 = .ok (.sipush 9999, 3) := by decide +kernel
theorem dX4_reach_5 : decode cX4_reach 5 = .ok (.invokestatic 138, 3) := by decide +kernel
theorem dX4_reach_8 : decode cX4_reach 8 = .ok (.ifCond .ne 6, 3) := by decide +kernel
theorem dX4_reach_11 : decode cX4_reach 11 = .ok (.bipush (-12), 2) := by decide +kernel
theorem dX4_reach_13 : decode cX4_reach 13 = .ok (.ireturn, 1) := by decide +kernel
theorem dX4_reach_14 : decode cX4_reach 14 = .ok (.iconst 0, 1) := by decide +kernel
theorem dX4_reach_15 : decode cX4_reach 15 = .ok (.istore_n 2, 1) := by decide +kernel
theorem dX4_reach_16 : decode cX4_reach 16 = .ok (.iload_n 1, 1) := by decide +kernel
theorem dX4_reach_17 : decode cX4_reach 17 = .ok (.istore_n 3, 1) := by decide +kernel
theorem dX4_reach_18 : decode cX4_reach 18 = .ok (.bipush 32, 2) := by decide +kernel
theorem dX4_reach_20 : decode cX4_reach 20 = .ok (.istore 4, 2) := by decide +kernel
theorem dX4_reach_22 : decode cX4_reach 22 = .ok (.iload 4, 2) := by decide +kernel
theorem dX4_reach_24 : decode cX4_reach 24 = .ok (.iconst 1, 1) := by decide +kernel
theorem dX4_reach_25 : decode cX4_reach 25 = .ok (.if_icmp .lt 53, 3) := by decide +kernel
theorem dX4_reach_28 : decode cX4_reach 28 = .ok (.iload_n 2, 1) := by decide +kernel
theorem dX4_reach_29 : decode cX4_reach 29 = .ok (.iload 4, 2) := by decide +kernel
theorem dX4_reach_31 : decode cX4_reach 31 = .ok (.iadd, 1) := by decide +kernel
theorem dX4_reach_32 : decode cX4_reach 32 = .ok (.istore 5, 2) := by decide +kernel
theorem dX4_reach_34 : decode cX4_reach 34 = .ok (.iload 5, 2) := by decide +kernel
theorem dX4_reach_36 : decode cX4_reach 36 = .ok (.bipush 32, 2) := by decide +kernel
theorem dX4_reach_38 : decode cX4_reach 38 = .ok (.if_icmp .gt 31, 3) := by decide +kernel
theorem dX4_reach_41 : decode cX4_reach 41 = .ok (.aload_n 0, 1) := by decide +kernel
theorem dX4_reach_42 : decode cX4_reach 42 = .ok (.getfield 10, 3) := by decide +kernel
theorem dX4_reach_45 : decode cX4_reach 45 = .ok (.iload 5, 2) := by decide +kernel
theorem dX4_reach_47 : decode cX4_reach 47 = .ok (.invokevirtual 117, 3) := by decide +kernel
theorem dX4_reach_50 : decode cX4_reach 50 = .ok (.iload_n 3, 1) := by decide +kernel
theorem dX4_reach_51 : decode cX4_reach 51 = .ok (.if_icmp .ge 18, 3) := by decide +kernel
theorem dX4_reach_54 : decode cX4_reach 54 = .ok (.iload_n 3, 1) := by decide +kernel
theorem dX4_reach_55 : decode cX4_reach 55 = .ok (.aload_n 0, 1) := by decide +kernel
theorem dX4_reach_56 : decode cX4_reach 56 = .ok (.getfield 10, 3) := by decide +kernel
theorem dX4_reach_59 : decode cX4_reach 59 = .ok (.iload 5, 2) := by decide +kernel
theorem dX4_reach_61 : decode cX4_reach 61 = .ok (.invokevirtual 117, 3) := by decide +kernel
theorem dX4_reach_64 : decode cX4_reach 64 = .ok (.isub, 1) := by decide +kernel
theorem dX4_reach_65 : decode cX4_reach 65 = .ok (.istore_n 3, 1) := by decide +kernel
theorem dX4_reach_66 : decode cX4_reach 66 = .ok (.iload 5, 2) := by decide +kernel
theorem dX4_reach_68 : decode cX4_reach 68 = .ok (.istore_n 2, 1) := by decide +kernel
theorem dX4_reach_69 : decode cX4_reach 69 = .ok (.iload 4, 2) := by decide +kernel
theorem dX4_reach_71 : decode cX4_reach 71 = .ok (.iconst 2, 1) := by decide +kernel
theorem dX4_reach_72 : decode cX4_reach 72 = .ok (.idiv, 1) := by decide +kernel
theorem dX4_reach_73 : decode cX4_reach 73 = .ok (.istore 4, 2) := by decide +kernel
theorem dX4_reach_75 : decode cX4_reach 75 = .ok (.goto (-53), 3) := by decide +kernel
theorem dX4_reach_78 : decode cX4_reach 78 = .ok (.iload_n 2, 1) := by decide +kernel
theorem dX4_reach_79 : decode cX4_reach 79 = .ok (.bipush 32, 2) := by decide +kernel
theorem dX4_reach_81 : decode cX4_reach 81 = .ok (.if_icmp .ge 7, 3) := by decide +kernel
theorem dX4_reach_84 : decode cX4_reach 84 = .ok (.iload_n 2, 1) := by decide +kernel
theorem dX4_reach_85 : decode cX4_reach 85 = .ok (.goto 5, 3) := by decide +kernel
theorem dX4_reach_88 : decode cX4_reach 88 = .ok (.bipush (-15), 2) := by decide +kernel
theorem dX4_reach_90 : decode cX4_reach 90 = .ok (.ireturn, 1) := by decide +kernel
set_option maxRecDepth 20000 in
theorem ggX4_reachAgain_X4_isWithin : GoodIn wsX4_reachAgain wsX4_isWithin := goodIn_r _ [5] (by decide +kernel) (by decide +kernel)
set_option maxRecDepth 20000 in
theorem gX4_reachAgain_X4_isWithin : GoodIn wsX4_reachAgain (va_wsS RX4 138 yX4_isWithin wsX4_isWithin) := goodIn_app (goodIn_of _ (by decide +kernel)) ggX4_reachAgain_X4_isWithin
set_option maxRecDepth 20000 in
theorem ggX4_reachAgain_X3_sacksIn : GoodIn wsX4_reachAgain wsX3_sacksIn := goodIn_r _ [10, 11, 12, 4, 13, 24, 25, 26, 27, 28, 29] (by decide +kernel) (by decide +kernel)
set_option maxRecDepth 20000 in
theorem gX4_reachAgain_X3_sacksIn : GoodIn wsX4_reachAgain (wsV RX4 96 RX3 yX3_sacksIn wsX3_sacksIn) := goodIn_app (goodIn_of _ (by decide +kernel)) ggX4_reachAgain_X3_sacksIn
theorem dX4_reachAgain_0 : decode cX4_reachAgain 0 = .ok (.iload_n 1, 1) := by decide +kernel
theorem dX4_reachAgain_1 : decode cX4_reachAgain 1 = .ok (.iconst 1, 1) := by decide +kernel
theorem dX4_reachAgain_2 : decode cX4_reachAgain 2 = .ok (.sipush 9999, 3) := by decide +kernel
theorem dX4_reachAgain_5 : decode cX4_reachAgain 5 = .ok (.invokestatic 138, 3) := by decide +kernel
theorem dX4_reachAgain_8 : decode cX4_reachAgain 8 = .ok (.ifCond .ne 6, 3) := by decide +kernel
theorem dX4_reachAgain_11 : decode cX4_reachAgain 11 = .ok (.bipush (-12), 2) := by decide +kernel
theorem dX4_reachAgain_13 : decode cX4_reachAgain 13 = .ok (.ireturn, 1) := by decide +kernel
theorem dX4_reachAgain_14 : decode cX4_reachAgain 14 = .ok (.iconst 0, 1) := by decide +kernel
theorem dX4_reachAgain_15 : decode cX4_reachAgain 15 = .ok (.istore_n 2, 1) := by decide +kernel
theorem dX4_reachAgain_16 : decode cX4_reachAgain 16 = .ok (.iconst 0, 1) := by decide +kernel
theorem dX4_reachAgain_17 : decode cX4_reachAgain 17 = .ok (.istore_n 3, 1) := by decide +kernel
theorem dX4_reachAgain_18 : decode cX4_reachAgain 18 = .ok (.iload_n 3, 1) := by decide +kernel
theorem dX4_reachAgain_19 : decode cX4_reachAgain 19 = .ok (.bipush 32, 2) := by decide +kernel
theorem dX4_reachAgain_21 : decode cX4_reachAgain 21 = .ok (.if_icmp .ge 27, 3) := by decide +kernel
theorem dX4_reachAgain_24 : decode cX4_reachAgain 24 = .ok (.iload_n 2, 1) := by decide +kernel
theorem dX4_reachAgain_25 : decode cX4_reachAgain 25 = .ok (.aload_n 0, 1) := by decide +kernel
theorem dX4_reachAgain_26 : decode cX4_reachAgain 26 = .ok (.getfield 10, 3) := by decide +kernel
theorem dX4_reachAgain_29 : decode cX4_reachAgain 29 = .ok (.iload_n 3, 1) := by decide +kernel
theorem dX4_reachAgain_30 : decode cX4_reachAgain 30 = .ok (.invokevirtual 96, 3) := by decide +kernel
theorem dX4_reachAgain_33 : decode cX4_reachAgain 33 = .ok (.iadd, 1) := by decide +kernel
theorem dX4_reachAgain_34 : decode cX4_reachAgain 34 = .ok (.istore_n 2, 1) := by decide +kernel
theorem dX4_reachAgain_35 : decode cX4_reachAgain 35 = .ok (.iload_n 2, 1) := by decide +kernel
theorem dX4_reachAgain_36 : decode cX4_reachAgain 36 = .ok (.iload_n 1, 1) := by decide +kernel
theorem dX4_reachAgain_37 : decode cX4_reachAgain 37 = .ok (.if_icmp .lt 5, 3) := by decide +kernel
theorem dX4_reachAgain_40 : decode cX4_reachAgain 40 = .ok (.iload_n 3, 1) := by decide +kernel
theorem dX4_reachAgain_41 : decode cX4_reachAgain 41 = .ok (.ireturn, 1) := by decide +kernel
theorem dX4_reachAgain_42 : decode cX4_reachAgain 42 = .ok (.iinc 3 1, 3) := by decide +kernel
theorem dX4_reachAgain_45 : decode cX4_reachAgain 45 = .ok (.goto (-27), 3) := by decide +kernel
theorem dX4_reachAgain_48 : decode cX4_reachAgain 48 = .ok (.bipush (-15), 2) := by decide +kernel
theorem dX4_reachAgain_50 : decode cX4_reachAgain 50 = .ok (.ireturn, 1) := by decide +kernel
set_option maxRecDepth 20000 in
theorem ggX4_steps_X4_isBay : GoodIn wsX4_steps wsX4_isBay := goodIn_r _ [5, 6, 7, 4, 8] (by decide +kernel) (by decide +kernel)
set_option maxRecDepth 20000 in
theorem gX4_steps_X4_isBay : GoodIn wsX4_steps (va_wsS RX4 86 yX4_isBay wsX4_isBay) := goodIn_app (goodIn_of _ (by decide +kernel)) ggX4_steps_X4_isBay
set_option maxRecDepth 20000 in
theorem ggX4_steps_X4_stepsBelow : GoodIn wsX4_steps wsX4_stepsBelow := goodIn_r _ [11, 12, 13, 14, 15, 16, 17, 18, 4, 19, 20, 21, 22, 23, 24, 25, 9, 10, 36, 37, 38, 39, 40, 41] (by decide +kernel) (by decide +kernel)
set_option maxRecDepth 20000 in
theorem gX4_steps_X4_stepsBelow : GoodIn wsX4_steps (va_wsS RX4 142 yX4_stepsBelow wsX4_stepsBelow) := goodIn_app (goodIn_of _ (by decide +kernel)) ggX4_steps_X4_stepsBelow
set_option maxRecDepth 20000 in
theorem ggX4_steps_X4_sizeOf : GoodIn wsX4_steps wsX4_sizeOf := goodIn_r _ [25] (by decide +kernel) (by decide +kernel)
set_option maxRecDepth 20000 in
theorem gX4_steps_X4_sizeOf : GoodIn wsX4_steps (va_wsS RX4 114 yX4_sizeOf wsX4_sizeOf) := goodIn_app (goodIn_of _ (by decide +kernel)) ggX4_steps_X4_sizeOf
theorem dX4_steps_0 : decode cX4_steps 0 = .ok (.iload_n 1, 1) := by decide +kernel
theorem dX4_steps_1 : decode cX4_steps 1 = .ok (.invokestatic 86, 3) := by decide +kernel
theorem dX4_steps_4 : decode cX4_steps 4 = .ok (.ifCond .ne 6, 3) := by decide +kernel
theorem dX4_steps_7 : decode cX4_steps 7 = .ok (.bipush (-11), 2) := by decide +kernel
theorem dX4_steps_9 : decode cX4_steps 9 = .ok (.ireturn, 1) := by decide +kernel
theorem dX4_steps_10 : decode cX4_steps 10 = .ok (.iconst 0, 1) := by decide +kernel
theorem dX4_steps_11 : decode cX4_steps 11 = .ok (.istore_n 2, 1) := by decide +kernel
theorem dX4_steps_12 : decode cX4_steps 12 = .ok (.iload_n 1, 1) := by decide +kernel
theorem dX4_steps_13 : decode cX4_steps 13 = .ok (.iconst 1, 1) := by decide +kernel
theorem dX4_steps_14 : decode cX4_steps 14 = .ok (.iadd, 1) := by decide +kernel
theorem dX4_steps_15 : decode cX4_steps 15 = .ok (.istore_n 3, 1) := by decide +kernel
theorem dX4_steps_16 : decode cX4_steps 16 = .ok (.iconst 0, 1) := by decide +kernel
theorem dX4_steps_17 : decode cX4_steps 17 = .ok (.istore 4, 2) := by decide +kernel
theorem dX4_steps_19 : decode cX4_steps 19 = .ok (.iload 4, 2) := by decide +kernel
theorem dX4_steps_21 : decode cX4_steps 21 = .ok (.bipush 32, 2) := by decide +kernel
theorem dX4_steps_23 : decode cX4_steps 23 = .ok (.if_icmp .ge 32, 3) := by decide +kernel
theorem dX4_steps_26 : decode cX4_steps 26 = .ok (.iload_n 3, 1) := by decide +kernel
theorem dX4_steps_27 : decode cX4_steps 27 = .ok (.ifCond .le 28, 3) := by decide +kernel
theorem dX4_steps_30 : decode cX4_steps 30 = .ok (.iload_n 2, 1) := by decide +kernel
theorem dX4_steps_31 : decode cX4_steps 31 = .ok (.aload_n 0, 1) := by decide +kernel
theorem dX4_steps_32 : decode cX4_steps 32 = .ok (.getfield 10, 3) := by decide +kernel
theorem dX4_steps_35 : decode cX4_steps 35 = .ok (.iload_n 3, 1) := by decide +kernel
theorem dX4_steps_36 : decode cX4_steps 36 = .ok (.iconst 0, 1) := by decide +kernel
theorem dX4_steps_37 : decode cX4_steps 37 = .ok (.invokestatic 142, 3) := by decide +kernel
theorem dX4_steps_40 : decode cX4_steps 40 = .ok (.iadd, 1) := by decide +kernel
theorem dX4_steps_41 : decode cX4_steps 41 = .ok (.istore_n 2, 1) := by decide +kernel
theorem dX4_steps_42 : decode cX4_steps 42 = .ok (.iload_n 3, 1) := by decide +kernel
theorem dX4_steps_43 : decode cX4_steps 43 = .ok (.iload_n 3, 1) := by decide +kernel
theorem dX4_steps_44 : decode cX4_steps 44 = .ok (.invokestatic 114, 3) := by decide +kernel
theorem dX4_steps_47 : decode cX4_steps 47 = .ok (.isub, 1) := by decide +kernel
theorem dX4_steps_48 : decode cX4_steps 48 = .ok (.istore_n 3, 1) := by decide +kernel
theorem dX4_steps_49 : decode cX4_steps 49 = .ok (.iinc 4 1, 3) := by decide +kernel
theorem dX4_steps_52 : decode cX4_steps 52 = .ok (.goto (-33), 3) := by decide +kernel
theorem dX4_steps_55 : decode cX4_steps 55 = .ok (.iload_n 2, 1) := by decide +kernel
theorem dX4_steps_56 : decode cX4_steps 56 = .ok (.ireturn, 1) := by decide +kernel
set_option maxRecDepth 20000 in
theorem ggX4_stepsAgain_X4_isBay : GoodIn wsX4_stepsAgain wsX4_isBay := goodIn_r _ [5, 6, 7, 4, 8] (by decide +kernel) (by decide +kernel)
set_option maxRecDepth 20000 in
theorem gX4_stepsAgain_X4_isBay : GoodIn wsX4_stepsAgain (va_wsS RX4 86 yX4_isBay wsX4_isBay) := goodIn_app (goodIn_of _ (by decide +kernel)) ggX4_stepsAgain_X4_isBay
set_option maxRecDepth 20000 in
theorem ggX4_stepsAgain_X4_stepsByKnown : GoodIn wsX4_stepsAgain wsX4_stepsByKnown := goodIn_r _ [12, 13, 14, 15, 16, 17, 18, 19, 20, 4, 21, 22, 23, 24, 25, 26, 27, 28, 29, 30, 31, 1, 32, 36, 37, 38, 39, 40, 41, 42, 43, 44, 45, 46, 47, 48, 49, 50, 51] (by decide +kernel) (by decide +kernel)
set_option maxRecDepth 20000 in
theorem gX4_stepsAgain_X4_stepsByKnown : GoodIn wsX4_stepsAgain (wsV RX4 146 RX4 yX4_stepsByKnown wsX4_stepsByKnown) := goodIn_app (goodIn_of _ (by decide +kernel)) ggX4_stepsAgain_X4_stepsByKnown
set_option maxRecDepth 20000 in
theorem ggX4_stepsAgain_X4_put : GoodIn wsX4_stepsAgain wsX4_put := goodIn_r _ [35] (by decide +kernel) (by decide +kernel)
set_option maxRecDepth 20000 in
theorem gX4_stepsAgain_X4_put : GoodIn wsX4_stepsAgain (va_wsS RX4 149 yX4_put wsX4_put) := goodIn_app (goodIn_of _ (by decide +kernel)) ggX4_stepsAgain_X4_put
set_option maxRecDepth 20000 in
theorem ggX4_stepsAgain_X4_knownSteps : GoodIn wsX4_stepsAgain wsX4_knownSteps := goodIn_r _ [31, 1, 32, 20, 4, 21, 25, 26, 27, 36, 37, 38, 39, 40, 41, 42, 43, 44, 45] (by decide +kernel) (by decide +kernel)
set_option maxRecDepth 20000 in
theorem gX4_stepsAgain_X4_knownSteps : GoodIn wsX4_stepsAgain (wsV RX4 153 RX4 yX4_knownSteps wsX4_knownSteps) := goodIn_app (goodIn_of _ (by decide +kernel)) ggX4_stepsAgain_X4_knownSteps
theorem dX4_stepsAgain_0 : decode cX4_stepsAgain 0 = .ok (.iload_n 1, 1) := by decide +kernel
theorem dX4_stepsAgain_1 : decode cX4_stepsAgain 1 = .ok (.invokestatic 86, 3) := by decide +kernel
theorem dX4_stepsAgain_4 : decode cX4_stepsAgain 4 = .ok (.ifCond .ne 6, 3) := by decide +kernel
theorem dX4_stepsAgain_7 : decode cX4_stepsAgain 7 = .ok (.bipush (-11), 2) := by decide +kernel
theorem dX4_stepsAgain_9 : decode cX4_stepsAgain 9 = .ok (.ireturn, 1) := by decide +kernel
theorem dX4_stepsAgain_10 : decode cX4_stepsAgain 10 = .ok (.iconst 1, 1) := by decide +kernel
theorem dX4_stepsAgain_11 : decode cX4_stepsAgain 11 = .ok (.istore_n 2, 1) := by decide +kernel
theorem dX4_stepsAgain_12 : decode cX4_stepsAgain 12 = .ok (.iload_n 2, 1) := by decide +kernel
theorem dX4_stepsAgain_13 : decode cX4_stepsAgain 13 = .ok (.iload_n 1, 1) := by decide +kernel
theorem dX4_stepsAgain_14 : decode cX4_stepsAgain 14 = .ok (.iconst 1, 1) := by decide +kernel
theorem dX4_stepsAgain_15 : decode cX4_stepsAgain 15 = .ok (.iadd, 1) := by decide +kernel
theorem dX4_stepsAgain_16 : decode cX4_stepsAgain 16 = .ok (.if_icmp .gt 22, 3) := by decide +kernel
theorem dX4_stepsAgain_19 : decode cX4_stepsAgain 19 = .ok (.aload_n 0, 1) := by decide +kernel
theorem dX4_stepsAgain_20 : decode cX4_stepsAgain 20 = .ok (.getfield 54, 3) := by decide +kernel
theorem dX4_stepsAgain_23 : decode cX4_stepsAgain 23 = .ok (.iload_n 2, 1) := by decide +kernel
theorem dX4_stepsAgain_24 : decode cX4_stepsAgain 24 = .ok (.aload_n 0, 1) := by decide +kernel
theorem dX4_stepsAgain_25 : decode cX4_stepsAgain 25 = .ok (.iload_n 2, 1) := by decide +kernel
theorem dX4_stepsAgain_26 : decode cX4_stepsAgain 26 = .ok (.invokevirtual 146, 3) := by decide +kernel
theorem dX4_stepsAgain_29 : decode cX4_stepsAgain 29 = .ok (.invokestatic 149, 3) := by decide +kernel
theorem dX4_stepsAgain_32 : decode cX4_stepsAgain 32 = .ok (.iinc 2 1, 3) := by decide +kernel
theorem dX4_stepsAgain_35 : decode cX4_stepsAgain 35 = .ok (.goto (-23), 3) := by decide +kernel
theorem dX4_stepsAgain_38 : decode cX4_stepsAgain 38 = .ok (.aload_n 0, 1) := by decide +kernel
theorem dX4_stepsAgain_39 : decode cX4_stepsAgain 39 = .ok (.iload_n 1, 1) := by decide +kernel
theorem dX4_stepsAgain_40 : decode cX4_stepsAgain 40 = .ok (.iconst 1, 1) := by decide +kernel
theorem dX4_stepsAgain_41 : decode cX4_stepsAgain 41 = .ok (.iadd, 1) := by decide +kernel
theorem dX4_stepsAgain_42 : decode cX4_stepsAgain 42 = .ok (.iconst 0, 1) := by decide +kernel
theorem dX4_stepsAgain_43 : decode cX4_stepsAgain 43 = .ok (.invokevirtual 153, 3) := by decide +kernel
theorem dX4_stepsAgain_46 : decode cX4_stepsAgain 46 = .ok (.ireturn, 1) := by decide +kernel
set_option maxRecDepth 20000 in
theorem ggX4_oldest_X3_isEmpty : GoodIn wsX4_oldest wsX3_isEmpty := goodIn_r _ [6, 7, 8, 9, 10, 39, 40, 41, 42, 43, 44] (by decide +kernel) (by decide +kernel)
set_option maxRecDepth 20000 in
theorem gX4_oldest_X3_isEmpty : GoodIn wsX4_oldest (wsV RX4 90 RX3 yX3_isEmpty wsX3_isEmpty) := goodIn_app (goodIn_of _ (by decide +kernel)) ggX4_oldest_X3_isEmpty
set_option maxRecDepth 20000 in
theorem ggX4_oldest_X3_placeOf : GoodIn wsX4_oldest wsX3_placeOf := goodIn_r _ [14, 15, 3, 4, 5, 6, 7, 8, 9, 10, 16, 17, 18, 19, 20, 21, 22, 23, 24, 25, 26, 27, 28, 39, 40, 41, 42, 43, 44] (by decide +kernel) (by decide +kernel)
set_option maxRecDepth 20000 in
theorem gX4_oldest_X3_placeOf : GoodIn wsX4_oldest (wsV RX4 156 RX3 yX3_placeOf wsX3_placeOf) := goodIn_app (goodIn_of _ (by decide +kernel)) ggX4_oldest_X3_placeOf
theorem dX4_oldest_0 : decode cX4_oldest 0 = .ok (.iconst 0, 1) := by decide +kernel
theorem dX4_oldest_1 : decode cX4_oldest 1 = .ok (.istore_n 2, 1) := by decide +kernel
theorem dX4_oldest_2 : decode cX4_oldest 2 = .ok (.iload_n 2, 1) := by decide +kernel
theorem dX4_oldest_3 : decode cX4_oldest 3 = .ok (.bipush 32, 2) := by decide +kernel
theorem dX4_oldest_5 : decode cX4_oldest 5 = .ok (.if_icmp .ge 34, 3) := by decide +kernel
theorem dX4_oldest_8 : decode cX4_oldest 8 = .ok (.aload_n 0, 1) := by decide +kernel
theorem dX4_oldest_9 : decode cX4_oldest 9 = .ok (.getfield 10, 3) := by decide +kernel
theorem dX4_oldest_12 : decode cX4_oldest 12 = .ok (.iload_n 2, 1) := by decide +kernel
theorem dX4_oldest_13 : decode cX4_oldest 13 = .ok (.invokevirtual 90, 3) := by decide +kernel
theorem dX4_oldest_16 : decode cX4_oldest 16 = .ok (.ifCond .ne 17, 3) := by decide +kernel
theorem dX4_oldest_19 : decode cX4_oldest 19 = .ok (.aload_n 0, 1) := by decide +kernel
theorem dX4_oldest_20 : decode cX4_oldest 20 = .ok (.getfield 10, 3) := by decide +kernel
theorem dX4_oldest_23 : decode cX4_oldest 23 = .ok (.iload_n 2, 1) := by decide +kernel
theorem dX4_oldest_24 : decode cX4_oldest 24 = .ok (.invokevirtual 156, 3) := by decide +kernel
theorem dX4_oldest_27 : decode cX4_oldest 27 = .ok (.iload_n 1, 1) := by decide +kernel
theorem dX4_oldest_28 : decode cX4_oldest 28 = .ok (.if_icmp .ne 5, 3) := by decide +kernel
theorem dX4_oldest_31 : decode cX4_oldest 31 = .ok (.iload_n 2, 1) := by decide +kernel
theorem dX4_oldest_32 : decode cX4_oldest 32 = .ok (.ireturn, 1) := by decide +kernel
theorem dX4_oldest_33 : decode cX4_oldest 33 = .ok (.iinc 2 1, 3) := by decide +kernel
theorem dX4_oldest_36 : decode cX4_oldest 36 = .ok (.goto (-34), 3) := by decide +kernel
theorem dX4_oldest_39 : decode cX4_oldest 39 = .ok (.bipush (-11), 2) := by decide +kernel
theorem dX4_oldest_41 : decode cX4_oldest 41 = .ok (.ireturn, 1) := by decide +kernel
set_option maxRecDepth 20000 in
theorem ggX4_commonAge_X3_ageIn : GoodIn wsX4_commonAge wsX3_ageIn := goodIn_r _ [6, 7, 8, 9, 10, 35, 36, 37, 38, 39, 40] (by decide +kernel) (by decide +kernel)
set_option maxRecDepth 20000 in
theorem gX4_commonAge_X3_ageIn : GoodIn wsX4_commonAge (wsV RX4 99 RX3 yX3_ageIn wsX3_ageIn) := goodIn_app (goodIn_of _ (by decide +kernel)) ggX4_commonAge_X3_ageIn
set_option maxRecDepth 20000 in
theorem ggX4_commonAge_X3_sacksAsOldAs : GoodIn wsX4_commonAge wsX3_sacksAsOldAs := goodIn_r _ [14, 15, 3, 4, 5, 6, 7, 8, 9, 10, 16, 17, 18, 19, 20, 35, 36, 37, 38, 39, 40] (by decide +kernel) (by decide +kernel)
set_option maxRecDepth 20000 in
theorem gX4_commonAge_X3_sacksAsOldAs : GoodIn wsX4_commonAge (wsV RX4 159 RX3 yX3_sacksAsOldAs wsX3_sacksAsOldAs) := goodIn_app (goodIn_of _ (by decide +kernel)) ggX4_commonAge_X3_sacksAsOldAs
set_option maxRecDepth 20000 in
theorem ggX4_commonAge_X3_isEmpty : GoodIn wsX4_commonAge wsX3_isEmpty := goodIn_r _ [24, 20, 8, 9, 10, 35, 36, 37, 38, 39, 40] (by decide +kernel) (by decide +kernel)
set_option maxRecDepth 20000 in
theorem gX4_commonAge_X3_isEmpty : GoodIn wsX4_commonAge (wsV RX4 90 RX3 yX3_isEmpty wsX3_isEmpty) := goodIn_app (goodIn_of _ (by decide +kernel)) ggX4_commonAge_X3_isEmpty
theorem dX4_commonAge_0 : decode cX4_commonAge 0 = .ok (.bipush (-15), 2) := by decide +kernel
theorem dX4_commonAge_2 : decode cX4_commonAge 2 = .ok (.istore_n 1, 1) := by decide +kernel
theorem dX4_commonAge_3 : decode cX4_commonAge 3 = .ok (.iconst 0, 1) := by decide +kernel
theorem dX4_commonAge_4 : decode cX4_commonAge 4 = .ok (.istore_n 2, 1) := by decide +kernel
theorem dX4_commonAge_5 : decode cX4_commonAge 5 = .ok (.iconst 0, 1) := by decide +kernel
theorem dX4_commonAge_6 : decode cX4_commonAge 6 = .ok (.istore_n 3, 1) := by decide +kernel
theorem dX4_commonAge_7 : decode cX4_commonAge 7 = .ok (.iload_n 3, 1) := by decide +kernel
theorem dX4_commonAge_8 : decode cX4_commonAge 8 = .ok (.bipush 32, 2) := by decide +kernel
theorem dX4_commonAge_10 : decode cX4_commonAge 10 = .ok (.if_icmp .ge 65, 3) := by decide +kernel
theorem dX4_commonAge_13 : decode cX4_commonAge 13 = .ok (.aload_n 0, 1) := by decide +kernel
theorem dX4_commonAge_14 : decode cX4_commonAge 14 = .ok (.getfield 10, 3) := by decide +kernel
theorem dX4_commonAge_17 : decode cX4_commonAge 17 = .ok (.iload_n 3, 1) := by decide +kernel
theorem dX4_commonAge_18 : decode cX4_commonAge 18 = .ok (.invokevirtual 99, 3) := by decide +kernel
theorem dX4_commonAge_21 : decode cX4_commonAge 21 = .ok (.istore 4, 2) := by decide +kernel
theorem dX4_commonAge_23 : decode cX4_commonAge 23 = .ok (.aload_n 0, 1) := by decide +kernel
theorem dX4_commonAge_24 : decode cX4_commonAge 24 = .ok (.getfield 10, 3) := by decide +kernel
theorem dX4_commonAge_27 : decode cX4_commonAge 27 = .ok (.iload 4, 2) := by decide +kernel
theorem dX4_commonAge_29 : decode cX4_commonAge 29 = .ok (.invokevirtual 159, 3) := by decide +kernel
theorem dX4_commonAge_32 : decode cX4_commonAge 32 = .ok (.istore 5, 2) := by decide +kernel
theorem dX4_commonAge_34 : decode cX4_commonAge 34 = .ok (.aload_n 0, 1) := by decide +kernel
theorem dX4_commonAge_35 : decode cX4_commonAge 35 = .ok (.getfield 10, 3) := by decide +kernel
theorem dX4_commonAge_38 : decode cX4_commonAge 38 = .ok (.iload_n 3, 1) := by decide +kernel
theorem dX4_commonAge_39 : decode cX4_commonAge 39 = .ok (.invokevirtual 90, 3) := by decide +kernel
theorem dX4_commonAge_42 : decode cX4_commonAge 42 = .ok (.ifCond .ne 27, 3) := by decide +kernel
theorem dX4_commonAge_45 : decode cX4_commonAge 45 = .ok (.iload 5, 2) := by decide +kernel
theorem dX4_commonAge_47 : decode cX4_commonAge 47 = .ok (.iload_n 2, 1) := by decide +kernel
theorem dX4_commonAge_48 : decode cX4_commonAge 48 = .ok (.if_icmp .gt 15, 3) := by decide +kernel
theorem dX4_commonAge_51 : decode cX4_commonAge 51 = .ok (.iload 5, 2) := by decide +kernel
theorem dX4_commonAge_53 : decode cX4_commonAge 53 = .ok (.iload_n 2, 1) := by decide +kernel
theorem dX4_commonAge_54 : decode cX4_commonAge 54 = .ok (.if_icmp .ne 15, 3) := by decide +kernel
theorem dX4_commonAge_57 : decode cX4_commonAge 57 = .ok (.iload 4, 2) := by decide +kernel
theorem dX4_commonAge_59 : decode cX4_commonAge 59 = .ok (.iload_n 1, 1) := by decide +kernel
theorem dX4_commonAge_60 : decode cX4_commonAge 60 = .ok (.if_icmp .ge 9, 3) := by decide +kernel
theorem dX4_commonAge_63 : decode cX4_commonAge 63 = .ok (.iload 5, 2) := by decide +kernel
theorem dX4_commonAge_65 : decode cX4_commonAge 65 = .ok (.istore_n 2, 1) := by decide +kernel
theorem dX4_commonAge_66 : decode cX4_commonAge 66 = .ok (.iload 4, 2) := by decide +kernel
theorem dX4_commonAge_68 : decode cX4_commonAge 68 = .ok (.istore_n 1, 1) := by decide +kernel
theorem dX4_commonAge_69 : decode cX4_commonAge 69 = .ok (.iinc 3 1, 3) := by decide +kernel
theorem dX4_commonAge_72 : decode cX4_commonAge 72 = .ok (.goto (-65), 3) := by decide +kernel
theorem dX4_commonAge_75 : decode cX4_commonAge 75 = .ok (.iload_n 1, 1) := by decide +kernel
theorem dX4_commonAge_76 : decode cX4_commonAge 76 = .ok (.ireturn, 1) := by decide +kernel
set_option maxRecDepth 20000 in
theorem ggX4_tightest_X4_loadOf : GoodIn wsX4_tightest wsX4_loadOf := goodIn_r _ [5, 6, 7, 4, 8] (by decide +kernel) (by decide +kernel)
set_option maxRecDepth 20000 in
theorem gX4_tightest_X4_loadOf : GoodIn wsX4_tightest (va_wsS RX4 120 yX4_loadOf wsX4_loadOf) := goodIn_app (goodIn_of _ (by decide +kernel)) ggX4_tightest_X4_loadOf
set_option maxRecDepth 20000 in
theorem ggX4_tightest_X3_sumOf : GoodIn wsX4_tightest wsX3_sumOf := goodIn_r _ [13, 14, 15, 4, 16, 32, 33, 34, 35, 36, 37] (by decide +kernel) (by decide +kernel)
set_option maxRecDepth 20000 in
theorem gX4_tightest_X3_sumOf : GoodIn wsX4_tightest (wsV RX4 117 RX3 yX3_sumOf wsX3_sumOf) := goodIn_app (goodIn_of _ (by decide +kernel)) ggX4_tightest_X3_sumOf
set_option maxRecDepth 20000 in
theorem ggX4_tightest_X3_isCracked : GoodIn wsX4_tightest wsX3_isCracked := goodIn_r _ [20, 21, 15, 4, 16, 32, 33, 34, 35, 36, 37] (by decide +kernel) (by decide +kernel)
set_option maxRecDepth 20000 in
theorem gX4_tightest_X3_isCracked : GoodIn wsX4_tightest (wsV RX4 123 RX3 yX3_isCracked wsX3_isCracked) := goodIn_app (goodIn_of _ (by decide +kernel)) ggX4_tightest_X3_isCracked
theorem dX4_tightest_0 : decode cX4_tightest 0 = .ok (.bipush (-15), 2) := by decide +kernel
theorem dX4_tightest_2 : decode cX4_tightest 2 = .ok (.istore_n 1, 1) := by decide +kernel
theorem dX4_tightest_3 : decode cX4_tightest 3 = .ok (.iconst 0, 1) := by decide +kernel
theorem dX4_tightest_4 : decode cX4_tightest 4 = .ok (.istore_n 2, 1) := by decide +kernel
theorem dX4_tightest_5 : decode cX4_tightest 5 = .ok (.iconst 1, 1) := by decide +kernel
theorem dX4_tightest_6 : decode cX4_tightest 6 = .ok (.istore_n 3, 1) := by decide +kernel
theorem dX4_tightest_7 : decode cX4_tightest 7 = .ok (.iload_n 3, 1) := by decide +kernel
theorem dX4_tightest_8 : decode cX4_tightest 8 = .ok (.bipush 32, 2) := by decide +kernel
theorem dX4_tightest_10 : decode cX4_tightest 10 = .ok (.if_icmp .gt 52, 3) := by decide +kernel
theorem dX4_tightest_13 : decode cX4_tightest 13 = .ok (.iload_n 3, 1) := by decide +kernel
theorem dX4_tightest_14 : decode cX4_tightest 14 = .ok (.invokestatic 120, 3) := by decide +kernel
theorem dX4_tightest_17 : decode cX4_tightest 17 = .ok (.aload_n 0, 1) := by decide +kernel
theorem dX4_tightest_18 : decode cX4_tightest 18 = .ok (.getfield 10, 3) := by decide +kernel
theorem dX4_tightest_21 : decode cX4_tightest 21 = .ok (.iload_n 3, 1) := by decide +kernel
theorem dX4_tightest_22 : decode cX4_tightest 22 = .ok (.invokevirtual 117, 3) := by decide +kernel
theorem dX4_tightest_25 : decode cX4_tightest 25 = .ok (.isub, 1) := by decide +kernel
theorem dX4_tightest_26 : decode cX4_tightest 26 = .ok (.istore 4, 2) := by decide +kernel
theorem dX4_tightest_28 : decode cX4_tightest 28 = .ok (.aload_n 0, 1) := by decide +kernel
theorem dX4_tightest_29 : decode cX4_tightest 29 = .ok (.getfield 10, 3) := by decide +kernel
theorem dX4_tightest_32 : decode cX4_tightest 32 = .ok (.iload_n 3, 1) := by decide +kernel
theorem dX4_tightest_33 : decode cX4_tightest 33 = .ok (.invokevirtual 123, 3) := by decide +kernel
theorem dX4_tightest_36 : decode cX4_tightest 36 = .ok (.ifCond .ne 20, 3) := by decide +kernel
theorem dX4_tightest_39 : decode cX4_tightest 39 = .ok (.iload_n 1, 1) := by decide +kernel
theorem dX4_tightest_40 : decode cX4_tightest 40 = .ok (.bipush (-15), 2) := by decide +kernel
theorem dX4_tightest_42 : decode cX4_tightest 42 = .ok (.if_icmp .eq 9, 3) := by decide +kernel
theorem dX4_tightest_45 : decode cX4_tightest 45 = .ok (.iload 4, 2) := by decide +kernel
theorem dX4_tightest_47 : decode cX4_tightest 47 = .ok (.iload_n 2, 1) := by decide +kernel
theorem dX4_tightest_48 : decode cX4_tightest 48 = .ok (.if_icmp .ge 8, 3) := by decide +kernel
theorem dX4_tightest_51 : decode cX4_tightest 51 = .ok (.iload_n 3, 1) := by decide +kernel
theorem dX4_tightest_52 : decode cX4_tightest 52 = .ok (.istore_n 1, 1) := by decide +kernel
theorem dX4_tightest_53 : decode cX4_tightest 53 = .ok (.iload 4, 2) := by decide +kernel
theorem dX4_tightest_55 : decode cX4_tightest 55 = .ok (.istore_n 2, 1) := by decide +kernel
theorem dX4_tightest_56 : decode cX4_tightest 56 = .ok (.iinc 3 1, 3) := by decide +kernel
theorem dX4_tightest_59 : decode cX4_tightest 59 = .ok (.goto (-52), 3) := by decide +kernel
theorem dX4_tightest_62 : decode cX4_tightest 62 = .ok (.iload_n 1, 1) := by decide +kernel
theorem dX4_tightest_63 : decode cX4_tightest 63 = .ok (.ireturn, 1) := by decide +kernel
set_option maxRecDepth 20000 in
theorem ggX4_bestBay_X4_isKind : GoodIn wsX4_bestBay wsX4_isKind := goodIn_r _ [5, 6, 7, 4, 8] (by decide +kernel) (by decide +kernel)
set_option maxRecDepth 20000 in
theorem gX4_bestBay_X4_isKind : GoodIn wsX4_bestBay (va_wsS RX4 162 yX4_isKind wsX4_isKind) := goodIn_app (goodIn_of _ (by decide +kernel)) ggX4_bestBay_X4_isKind
set_option maxRecDepth 20000 in
theorem ggX4_bestBay_X4_isWithin : GoodIn wsX4_bestBay wsX4_isWithin := goodIn_r _ [8] (by decide +kernel) (by decide +kernel)
set_option maxRecDepth 20000 in
theorem gX4_bestBay_X4_isWithin : GoodIn wsX4_bestBay (va_wsS RX4 138 yX4_isWithin wsX4_isWithin) := goodIn_app (goodIn_of _ (by decide +kernel)) ggX4_bestBay_X4_isWithin
set_option maxRecDepth 20000 in
theorem ggX4_bestBay_X4_hasRoom : GoodIn wsX4_bestBay wsX4_hasRoom := goodIn_r _ [12, 1, 13, 14, 15, 16, 17, 18, 19, 4, 20, 21, 22, 23, 24, 25, 26, 27, 28, 29, 49, 50, 51, 52, 53, 54, 55, 56, 57, 58, 59, 60, 61, 62, 63, 64] (by decide +kernel) (by decide +kernel)
set_option maxRecDepth 20000 in
theorem gX4_bestBay_X4_hasRoom : GoodIn wsX4_bestBay (wsV RX4 165 RX4 yX4_hasRoom wsX4_hasRoom) := goodIn_app (goodIn_of _ (by decide +kernel)) ggX4_bestBay_X4_hasRoom
set_option maxRecDepth 20000 in
theorem ggX4_bestBay_X3_cracksUnder : GoodIn wsX4_bestBay wsX3_cracksUnder := goodIn_r _ [33, 34, 35, 36, 16, 37, 38, 19, 4, 20, 39, 40, 41, 42, 43, 44, 45, 46, 47, 48, 59, 60, 61, 62, 63, 64] (by decide +kernel) (by decide +kernel)
set_option maxRecDepth 20000 in
theorem gX4_bestBay_X3_cracksUnder : GoodIn wsX4_bestBay (wsV RX4 168 RX3 yX3_cracksUnder wsX3_cracksUnder) := goodIn_app (goodIn_of _ (by decide +kernel)) ggX4_bestBay_X3_cracksUnder
set_option maxRecDepth 20000 in
theorem ggX4_bestBay_X3_isEmpty : GoodIn wsX4_bestBay wsX3_isEmpty := goodIn_r _ [17, 18, 19, 4, 20, 59, 60, 61, 62, 63, 64] (by decide +kernel) (by decide +kernel)
set_option maxRecDepth 20000 in
theorem gX4_bestBay_X3_isEmpty : GoodIn wsX4_bestBay (wsV RX4 90 RX3 yX3_isEmpty wsX3_isEmpty) := goodIn_app (goodIn_of _ (by decide +kernel)) ggX4_bestBay_X3_isEmpty
theorem dX4_bestBay_0 : decode cX4_bestBay 0 = .ok (.iload_n 1, 1) := by decide +kernel
theorem dX4_bestBay_1 : decode cX4_bestBay 1 = .ok (.invokestatic 162, 3) := by decide +kernel
theorem dX4_bestBay_4 : decode cX4_bestBay 4 = .ok (.ifCond .eq 14, 3) := by decide +kernel
theorem dX4_bestBay_7 : decode cX4_bestBay 7 = .ok (.iload_n 2, 1) := by decide +kernel
theorem dX4_bestBay_8 : decode cX4_bestBay 8 = .ok (.iconst 1, 1) := by decide +kernel
theorem dX4_bestBay_9 : decode cX4_bestBay 9 = .ok (.sipush 200, 3) := by decide +kernel
theorem dX4_bestBay_12 : decode cX4_bestBay 12 = .ok (.invokestatic 138, 3) := by decide +kernel
theorem dX4_bestBay_15 : decode cX4_bestBay 15 = .ok (.ifCond .ne 6, 3) := by decide +kernel
theorem dX4_bestBay_18 : decode cX4_bestBay 18 = .ok (.bipush (-12), 2) := by decide +kernel
theorem dX4_bestBay_20 : decode cX4_bestBay 20 = .ok (.ireturn, 1) := by decide +kernel
theorem dX4_bestBay_21 : decode cX4_bestBay 21 = .ok (.bipush (-15), 2) := by decide +kernel
theorem dX4_bestBay_23 : decode cX4_bestBay 23 = .ok (.istore_n 3, 1) := by decide +kernel
theorem dX4_bestBay_24 : decode cX4_bestBay 24 = .ok (.iconst 0, 1) := by decide +kernel
theorem dX4_bestBay_25 : decode cX4_bestBay 25 = .ok (.istore 4, 2) := by decide +kernel
theorem dX4_bestBay_27 : decode cX4_bestBay 27 = .ok (.iload 4, 2) := by decide +kernel
theorem dX4_bestBay_29 : decode cX4_bestBay 29 = .ok (.bipush 32, 2) := by decide +kernel
theorem dX4_bestBay_31 : decode cX4_bestBay 31 = .ok (.if_icmp .ge 74, 3) := by decide +kernel
theorem dX4_bestBay_34 : decode cX4_bestBay 34 = .ok (.aload_n 0, 1) := by decide +kernel
theorem dX4_bestBay_35 : decode cX4_bestBay 35 = .ok (.iload 4, 2) := by decide +kernel
theorem dX4_bestBay_37 : decode cX4_bestBay 37 = .ok (.iload_n 1, 1) := by decide +kernel
theorem dX4_bestBay_38 : decode cX4_bestBay 38 = .ok (.iload_n 2, 1) := by decide +kernel
theorem dX4_bestBay_39 : decode cX4_bestBay 39 = .ok (.invokevirtual 165, 3) := by decide +kernel
theorem dX4_bestBay_42 : decode cX4_bestBay 42 = .ok (.ifCond .eq 20, 3) := by decide +kernel
theorem dX4_bestBay_45 : decode cX4_bestBay 45 = .ok (.aload_n 0, 1) := by decide +kernel
theorem dX4_bestBay_46 : decode cX4_bestBay 46 = .ok (.getfield 10, 3) := by decide +kernel
theorem dX4_bestBay_49 : decode cX4_bestBay 49 = .ok (.iload 4, 2) := by decide +kernel
theorem dX4_bestBay_51 : decode cX4_bestBay 51 = .ok (.iload_n 2, 1) := by decide +kernel
theorem dX4_bestBay_52 : decode cX4_bestBay 52 = .ok (.invokevirtual 168, 3) := by decide +kernel
theorem dX4_bestBay_55 : decode cX4_bestBay 55 = .ok (.ifCond .ne 7, 3) := by decide +kernel
theorem dX4_bestBay_58 : decode cX4_bestBay 58 = .ok (.iconst 1, 1) := by decide +kernel
theorem dX4_bestBay_59 : decode cX4_bestBay 59 = .ok (.goto 4, 3) := by decide +kernel
theorem dX4_bestBay_62 : decode cX4_bestBay 62 = .ok (.iconst 0, 1) := by decide +kernel
theorem dX4_bestBay_63 : decode cX4_bestBay 63 = .ok (.istore 5, 2) := by decide +kernel
theorem dX4_bestBay_65 : decode cX4_bestBay 65 = .ok (.iload 5, 2) := by decide +kernel
theorem dX4_bestBay_67 : decode cX4_bestBay 67 = .ok (.ifCond .eq 18, 3) := by decide +kernel
theorem dX4_bestBay_70 : decode cX4_bestBay 70 = .ok (.aload_n 0, 1) := by decide +kernel
theorem dX4_bestBay_71 : decode cX4_bestBay 71 = .ok (.getfield 10, 3) := by decide +kernel
theorem dX4_bestBay_74 : decode cX4_bestBay 74 = .ok (.iload 4, 2) := by decide +kernel
theorem dX4_bestBay_76 : decode cX4_bestBay 76 = .ok (.invokevirtual 90, 3) := by decide +kernel
theorem dX4_bestBay_79 : decode cX4_bestBay 79 = .ok (.ifCond .ne 6, 3) := by decide +kernel
theorem dX4_bestBay_82 : decode cX4_bestBay 82 = .ok (.iload 4, 2) := by decide +kernel
theorem dX4_bestBay_84 : decode cX4_bestBay 84 = .ok (.ireturn, 1) := by decide +kernel
theorem dX4_bestBay_85 : decode cX4_bestBay 85 = .ok (.iload 5, 2) := by decide +kernel
theorem dX4_bestBay_87 : decode cX4_bestBay 87 = .ok (.ifCond .eq 12, 3) := by decide +kernel
theorem dX4_bestBay_90 : decode cX4_bestBay 90 = .ok (.iload_n 3, 1) := by decide +kernel
theorem dX4_bestBay_91 : decode cX4_bestBay 91 = .ok (.bipush (-15), 2) := by decide +kernel
theorem dX4_bestBay_93 : decode cX4_bestBay 93 = .ok (.if_icmp .ne 6, 3) := by decide +kernel
theorem dX4_bestBay_96 : decode cX4_bestBay 96 = .ok (.iload 4, 2) := by decide +kernel
theorem dX4_bestBay_98 : decode cX4_bestBay 98 = .ok (.istore_n 3, 1) := by decide +kernel
theorem dX4_bestBay_99 : decode cX4_bestBay 99 = .ok (.iinc 4 1, 3) := by decide +kernel
theorem dX4_bestBay_102 : decode cX4_bestBay 102 = .ok (.goto (-75), 3) := by decide +kernel
theorem dX4_bestBay_105 : decode cX4_bestBay 105 = .ok (.iload_n 3, 1) := by decide +kernel
theorem dX4_bestBay_106 : decode cX4_bestBay 106 = .ok (.ireturn, 1) := by decide +kernel
set_option maxRecDepth 20000 in
theorem ggX4_price_X4_isKind : GoodIn wsX4_price wsX4_isKind := goodIn_r _ [4, 5, 6, 3, 7] (by decide +kernel) (by decide +kernel)
set_option maxRecDepth 20000 in
theorem gX4_price_X4_isKind : GoodIn wsX4_price (va_wsS RX4 162 yX4_isKind wsX4_isKind) := goodIn_app (goodIn_of _ (by decide +kernel)) ggX4_price_X4_isKind
set_option maxRecDepth 20000 in
theorem ggX4_price_X4_isWithin : GoodIn wsX4_price wsX4_isWithin := goodIn_r _ [7] (by decide +kernel) (by decide +kernel)
set_option maxRecDepth 20000 in
theorem gX4_price_X4_isWithin : GoodIn wsX4_price (va_wsS RX4 138 yX4_isWithin wsX4_isWithin) := goodIn_app (goodIn_of _ (by decide +kernel)) ggX4_price_X4_isWithin
set_option maxRecDepth 20000 in
theorem ggX4_price_X4_coinsFor : GoodIn wsX4_price wsX4_coinsFor := goodIn_r _ [10] (by decide +kernel) (by decide +kernel)
set_option maxRecDepth 20000 in
theorem gX4_price_X4_coinsFor : GoodIn wsX4_price (va_wsS RX4 172 yX4_coinsFor wsX4_coinsFor) := goodIn_app (goodIn_of _ (by decide +kernel)) ggX4_price_X4_coinsFor
theorem dX4_price_0 : decode cX4_price 0 = .ok (.iload_n 1, 1) := by decide +kernel
theorem dX4_price_1 : decode cX4_price 1 = .ok (.invokestatic 162, 3) := by decide +kernel
theorem dX4_price_4 : decode cX4_price 4 = .ok (.ifCond .eq 14, 3) := by decide +kernel
theorem dX4_price_7 : decode cX4_price 7 = .ok (.iload_n 2, 1) := by decide +kernel
theorem dX4_price_8 : decode cX4_price 8 = .ok (.iconst 1, 1) := by decide +kernel
theorem dX4_price_9 : decode cX4_price 9 = .ok (.sipush 999, 3) := by decide +kernel
theorem dX4_price_12 : decode cX4_price 12 = .ok (.invokestatic 138, 3) := by decide +kernel
theorem dX4_price_15 : decode cX4_price 15 = .ok (.ifCond .ne 6, 3) := by decide +kernel
theorem dX4_price_18 : decode cX4_price 18 = .ok (.bipush (-12), 2) := by decide +kernel
theorem dX4_price_20 : decode cX4_price 20 = .ok (.ireturn, 1) := by decide +kernel
theorem dX4_price_21 : decode cX4_price 21 = .ok (.iload_n 1, 1) := by decide +kernel
theorem dX4_price_22 : decode cX4_price 22 = .ok (.iload_n 2, 1) := by decide +kernel
theorem dX4_price_23 : decode cX4_price 23 = .ok (.invokestatic 172, 3) := by decide +kernel
theorem dX4_price_26 : decode cX4_price 26 = .ok (.ireturn, 1) := by decide +kernel
set_option maxRecDepth 20000 in
theorem ggX4_append_X4_isWithin : GoodIn wsX4_append wsX4_isWithin := goodIn_r _ [5] (by decide +kernel) (by decide +kernel)
set_option maxRecDepth 20000 in
theorem gX4_append_X4_isWithin : GoodIn wsX4_append (va_wsS RX4 138 yX4_isWithin wsX4_isWithin) := goodIn_app (goodIn_of _ (by decide +kernel)) ggX4_append_X4_isWithin
set_option maxRecDepth 20000 in
theorem ggX4_append_X0_addCode : GoodIn wsX4_append wsX0_addCode := goodIn_r _ [10, 11, 12, 13, 4, 14, 25, 26, 27, 28, 29, 30] (by decide +kernel) (by decide +kernel)
set_option maxRecDepth 20000 in
theorem gX4_append_X0_addCode : GoodIn wsX4_append (wsV RX4 175 RX0 yX0_addCode wsX0_addCode) := goodIn_app (goodIn_of _ (by decide +kernel)) ggX4_append_X0_addCode
theorem dX4_append_0 : decode cX4_append 0 = .ok (.iload_n 1, 1) := by decide +kernel
theorem dX4_append_1 : decode cX4_append 1 = .ok (.bipush 32, 2) := by decide +kernel
theorem dX4_append_3 : decode cX4_append 3 = .ok (.bipush 126, 2) := by decide +kernel
theorem dX4_append_5 : decode cX4_append 5 = .ok (.invokestatic 138, 3) := by decide +kernel
theorem dX4_append_8 : decode cX4_append 8 = .ok (.ifCond .ne 6, 3) := by decide +kernel
theorem dX4_append_11 : decode cX4_append 11 = .ok (.bipush (-12), 2) := by decide +kernel
theorem dX4_append_13 : decode cX4_append 13 = .ok (.ireturn, 1) := by decide +kernel
theorem dX4_append_14 : decode cX4_append 14 = .ok (.aload_n 0, 1) := by decide +kernel
theorem dX4_append_15 : decode cX4_append 15 = .ok (.getfield 36, 3) := by decide +kernel
theorem dX4_append_18 : decode cX4_append 18 = .ok (.iload_n 1, 1) := by decide +kernel
theorem dX4_append_19 : decode cX4_append 19 = .ok (.invokevirtual 175, 3) := by decide +kernel
theorem dX4_append_22 : decode cX4_append 22 = .ok (.ireturn, 1) := by decide +kernel
set_option maxRecDepth 20000 in
theorem ggX4_run_X0_readCommands : GoodIn wsX4_run wsX0_readCommands := goodIn_r _ [8, 9, 10, 11, 12, 13, 14, 7, 15, 16, 17, 18, 19, 20, 21, 22, 23, 24, 25, 26, 27, 28, 29, 30, 31, 32, 33, 34, 35, 36, 37, 38, 39, 40, 41, 42, 43, 44, 45, 46, 47, 48, 49, 50, 51, 52, 53, 54, 55, 56, 57, 58, 59, 60, 61, 62, 63, 64, 65, 66, 67, 68, 69, 70, 71, 72, 73, 74, 75, 76, 77, 78, 79, 80, 81, 82, 83, 84, 85, 86, 87, 88, 89, 90, 91, 92, 93, 94, 95, 96, 97, 98, 99, 100, 101, 102, 103, 104, 105, 316, 317, 318, 319, 320, 321] (by decide +kernel) (by decide +kernel)
set_option maxRecDepth 20000 in
theorem gX4_run_X0_readCommands : GoodIn wsX4_run (wsV RX4 178 RX0 yX0_readCommands wsX0_readCommands) := goodIn_app (goodIn_of _ (by decide +kernel)) ggX4_run_X0_readCommands
set_option maxRecDepth 20000 in
theorem ggX4_run_X0_becomeEmpty : GoodIn wsX4_run wsX0_becomeEmpty := goodIn_r _ [109, 11, 316, 317, 318, 319, 320, 321] (by decide +kernel) (by decide +kernel)
set_option maxRecDepth 20000 in
theorem gX4_run_X0_becomeEmpty : GoodIn wsX4_run (wsV RX4 182 RX0 yX0_becomeEmpty wsX0_becomeEmpty) := goodIn_app (goodIn_of _ (by decide +kernel)) ggX4_run_X0_becomeEmpty
set_option maxRecDepth 20000 in
theorem ggX4_run_X0_faultPosition : GoodIn wsX4_run wsX0_faultPosition := goodIn_r _ [113, 9, 316, 317, 318, 319, 320, 321] (by decide +kernel) (by decide +kernel)
set_option maxRecDepth 20000 in
theorem gX4_run_X0_faultPosition : GoodIn wsX4_run (wsV RX4 185 RX0 yX0_faultPosition wsX0_faultPosition) := goodIn_app (goodIn_of _ (by decide +kernel)) ggX4_run_X0_faultPosition
set_option maxRecDepth 20000 in
theorem ggX4_run_X3_copyFrom : GoodIn wsX4_run wsX3_copyFrom := goodIn_r _ [118, 119, 120, 121, 122, 123, 124, 125, 32, 126, 322, 323, 324, 325, 326, 327] (by decide +kernel) (by decide +kernel)
set_option maxRecDepth 20000 in
theorem gX4_run_X3_copyFrom : GoodIn wsX4_run (wsV RX4 58 RX3 yX3_copyFrom wsX3_copyFrom) := goodIn_app (goodIn_of _ (by decide +kernel)) ggX4_run_X3_copyFrom
set_option maxRecDepth 20000 in
theorem ggX4_run_X0_commandCount : GoodIn wsX4_run wsX0_commandCount := goodIn_r _ [130, 10, 316, 317, 318, 319, 320, 321] (by decide +kernel) (by decide +kernel)
set_option maxRecDepth 20000 in
theorem gX4_run_X0_commandCount : GoodIn wsX4_run (wsV RX4 189 RX0 yX0_commandCount wsX0_commandCount) := goodIn_app (goodIn_of _ (by decide +kernel)) ggX4_run_X0_commandCount
set_option maxRecDepth 20000 in
theorem ggX4_run_X4_carryOut : GoodIn wsX4_run wsX4_carryOut := goodIn_r _ [134, 1, 135, 136, 137, 7, 138, 77, 31, 32, 33, 139, 140, 141, 142, 143, 144, 145, 146, 3, 147, 148, 149, 150, 96, 97, 151, 152, 153, 154, 155, 156, 157, 158, 159, 160, 117, 161, 120, 162, 163, 164, 165, 119, 166, 167, 168, 169, 170, 171, 172, 173, 174, 175, 176, 177, 178, 179, 180, 181, 182, 183, 124, 78, 79, 184, 185, 186, 187, 121, 188, 189, 190, 191, 192, 193, 194, 195, 122, 196, 197, 198, 199, 200, 201, 123, 202, 203, 204, 205, 206, 207, 208, 209, 210, 211, 212, 213, 214, 215, 216, 217, 218, 219, 220, 221, 222, 223, 224, 225, 226, 227, 228, 229, 230, 231, 232, 233, 234, 235, 236, 237, 238, 239, 240, 241, 242, 243, 244, 245, 246, 247, 248, 249, 250, 251, 252, 253, 254, 255, 256, 257, 258, 259, 260, 261, 262, 263, 264, 265, 266, 267, 268, 269, 270, 271, 272, 273, 274, 275, 276, 277, 278, 279, 280, 281, 282, 283, 284, 285, 286, 287, 288, 289, 290, 306, 307, 308, 309, 310, 311, 312, 313, 314, 315, 316, 317, 318, 319, 320, 321, 322, 323, 324, 325, 326, 327] (by decide +kernel) (by decide +kernel)
set_option maxRecDepth 20000 in
theorem gX4_run_X4_carryOut : GoodIn wsX4_run (wsV RX4 192 RX4 yX4_carryOut wsX4_carryOut) := goodIn_app (goodIn_of _ (by decide +kernel)) ggX4_run_X4_carryOut
set_option maxRecDepth 20000 in
theorem ggX4_run_X4_refuse : GoodIn wsX4_run wsX4_refuse := goodIn_r _ [177, 178, 179, 306, 307, 308, 309, 310, 311, 312, 313, 314, 315] (by decide +kernel) (by decide +kernel)
set_option maxRecDepth 20000 in
theorem gX4_run_X4_refuse : GoodIn wsX4_run (wsV RX4 195 RX4 yX4_refuse wsX4_refuse) := goodIn_app (goodIn_of _ (by decide +kernel)) ggX4_run_X4_refuse
set_option maxRecDepth 20000 in
theorem ggX4_run_X4_remember : GoodIn wsX4_run wsX4_remember := goodIn_r _ [294, 295, 2, 296, 297, 298, 299, 300, 301, 302, 303, 304, 244, 237, 245, 305, 115, 116, 117, 118, 119, 120, 121, 122, 123, 124, 125, 32, 126, 306, 307, 308, 309, 310, 311, 312, 313, 314, 315, 328, 329, 330, 322, 323, 324, 325, 326, 327] (by decide +kernel) (by decide +kernel)
set_option maxRecDepth 20000 in
theorem gX4_run_X4_remember : GoodIn wsX4_run (wsV RX4 66 RX4 yX4_remember wsX4_remember) := goodIn_app (goodIn_of _ (by decide +kernel)) ggX4_run_X4_remember
theorem dX4_run_0 : decode cX4_run 0 = .ok (.aload_n 0, 1) := by decide +kernel
theorem dX4_run_1 : decode cX4_run 1 = .ok (.getfield 36, 3) := by decide +kernel
theorem dX4_run_4 : decode cX4_run 4 = .ok (.invokevirtual 178, 3) := by decide +kernel
theorem dX4_run_7 : decode cX4_run 7 = .ok (.istore_n 1, 1) := by decide +kernel
theorem dX4_run_8 : decode cX4_run 8 = .ok (.aload_n 0, 1) := by decide +kernel
theorem dX4_run_9 : decode cX4_run 9 = .ok (.getfield 36, 3) := by decide +kernel
theorem dX4_run_12 : decode cX4_run 12 = .ok (.invokevirtual 182, 3) := by decide +kernel
theorem dX4_run_15 : decode cX4_run 15 = .ok (.iload_n 1, 1) := by decide +kernel
theorem dX4_run_16 : decode cX4_run 16 = .ok (.ifCond .ne 15, 3) := by decide +kernel
theorem dX4_run_19 : decode cX4_run 19 = .ok (.sipush (-1000), 3) := by decide +kernel
theorem dX4_run_22 : decode cX4_run 22 = .ok (.aload_n 0, 1) := by decide +kernel
theorem dX4_run_23 : decode cX4_run 23 = .ok (.getfield 36, 3) := by decide +kernel
theorem dX4_run_26 : decode cX4_run 26 = .ok (.invokevirtual 185, 3) := by decide +kernel
theorem dX4_run_29 : decode cX4_run 29 = .ok (.isub, 1) := by decide +kernel
theorem dX4_run_30 : decode cX4_run 30 = .ok (.ireturn, 1) := by decide +kernel
theorem dX4_run_31 : decode cX4_run 31 = .ok (.aload_n 0, 1) := by decide +kernel
theorem dX4_run_32 : decode cX4_run 32 = .ok (.getfield 16, 3) := by decide +kernel
theorem dX4_run_35 : decode cX4_run 35 = .ok (.aload_n 0, 1) := by decide +kernel
theorem dX4_run_36 : decode cX4_run 36 = .ok (.getfield 10, 3) := by decide +kernel
theorem dX4_run_39 : decode cX4_run 39 = .ok (.invokevirtual 58, 3) := by decide +kernel
theorem dX4_run_42 : decode cX4_run 42 = .ok (.aload_n 0, 1) := by decide +kernel
theorem dX4_run_43 : decode cX4_run 43 = .ok (.getfield 36, 3) := by decide +kernel
theorem dX4_run_46 : decode cX4_run 46 = .ok (.invokevirtual 189, 3) := by decide +kernel
theorem dX4_run_49 : decode cX4_run 49 = .ok (.istore_n 2, 1) := by decide +kernel
theorem dX4_run_50 : decode cX4_run 50 = .ok (.iconst 0, 1) := by decide +kernel
theorem dX4_run_51 : decode cX4_run 51 = .ok (.istore_n 3, 1) := by decide +kernel
theorem dX4_run_52 : decode cX4_run 52 = .ok (.iload_n 3, 1) := by decide +kernel
theorem dX4_run_53 : decode cX4_run 53 = .ok (.iload_n 2, 1) := by decide +kernel
theorem dX4_run_54 : decode cX4_run 54 = .ok (.if_icmp .ge 36, 3) := by decide +kernel
theorem dX4_run_57 : decode cX4_run 57 = .ok (.aload_n 0, 1) := by decide +kernel
theorem dX4_run_58 : decode cX4_run 58 = .ok (.iload_n 3, 1) := by decide +kernel
theorem dX4_run_59 : decode cX4_run 59 = .ok (.invokevirtual 192, 3) := by decide +kernel
theorem dX4_run_62 : decode cX4_run 62 = .ok (.ifCond .ge 22, 3) := by decide +kernel
theorem dX4_run_65 : decode cX4_run 65 = .ok (.aload_n 0, 1) := by decide +kernel
theorem dX4_run_66 : decode cX4_run 66 = .ok (.getfield 10, 3) := by decide +kernel
theorem dX4_run_69 : decode cX4_run 69 = .ok (.aload_n 0, 1) := by decide +kernel
theorem dX4_run_70 : decode cX4_run 70 = .ok (.getfield 16, 3) := by decide +kernel
theorem dX4_run_73 : decode cX4_run 73 = .ok (.invokevirtual 58, 3) := by decide +kernel
theorem dX4_run_76 : decode cX4_run 76 = .ok (.aload_n 0, 1) := by decide +kernel
theorem dX4_run_77 : decode cX4_run 77 = .ok (.bipush 9, 2) := by decide +kernel
theorem dX4_run_79 : decode cX4_run 79 = .ok (.iload_n 3, 1) := by decide +kernel
theorem dX4_run_80 : decode cX4_run 80 = .ok (.invokevirtual 195, 3) := by decide +kernel
theorem dX4_run_83 : decode cX4_run 83 = .ok (.ireturn, 1) := by decide +kernel
theorem dX4_run_84 : decode cX4_run 84 = .ok (.iinc 3 1, 3) := by decide +kernel
theorem dX4_run_87 : decode cX4_run 87 = .ok (.goto (-35), 3) := by decide +kernel
theorem dX4_run_90 : decode cX4_run 90 = .ok (.aload_n 0, 1) := by decide +kernel
theorem dX4_run_91 : decode cX4_run 91 = .ok (.iload_n 2, 1) := by decide +kernel
theorem dX4_run_92 : decode cX4_run 92 = .ok (.invokevirtual 66, 3) := by decide +kernel
theorem dX4_run_95 : decode cX4_run 95 = .ok (.ireturn, 1) := by decide +kernel
set_option maxRecDepth 20000 in
theorem ggX4_tellRung_X4_isRung : GoodIn wsX4_tellRung wsX4_isRung := goodIn_r _ [6, 7, 8, 5, 9] (by decide +kernel) (by decide +kernel)
set_option maxRecDepth 20000 in
theorem gX4_tellRung_X4_isRung : GoodIn wsX4_tellRung (va_wsS RX4 111 yX4_isRung wsX4_isRung) := goodIn_app (goodIn_of _ (by decide +kernel)) ggX4_tellRung_X4_isRung
set_option maxRecDepth 20000 in
theorem ggX4_tellRung_X1_becomeEmpty : GoodIn wsX4_tellRung wsX1_becomeEmpty := goodIn_r _ [14, 15, 61, 62] (by decide +kernel) (by decide +kernel)
set_option maxRecDepth 20000 in
theorem gX4_tellRung_X1_becomeEmpty : GoodIn wsX4_tellRung (wsV RX4 198 RX1 yX1_becomeEmpty wsX1_becomeEmpty) := goodIn_app (goodIn_of _ (by decide +kernel)) ggX4_tellRung_X1_becomeEmpty
set_option maxRecDepth 20000 in
theorem ggX4_tellRung_X1_addNumber : GoodIn wsX4_tellRung wsX1_addNumber := goodIn_r _ [19, 20, 21, 22, 13, 23, 15, 24, 25, 5, 26, 61, 62] (by decide +kernel) (by decide +kernel)
set_option maxRecDepth 20000 in
theorem gX4_tellRung_X1_addNumber : GoodIn wsX4_tellRung (wsV RX4 209 RX1 yX1_addNumber wsX1_addNumber) := goodIn_app (goodIn_of _ (by decide +kernel)) ggX4_tellRung_X1_addNumber
set_option maxRecDepth 20000 in
theorem ggX4_tellRung_X1_addCode : GoodIn wsX4_tellRung wsX1_addCode := goodIn_r _ [23, 15, 24, 25, 5, 26, 61, 62] (by decide +kernel) (by decide +kernel)
set_option maxRecDepth 20000 in
theorem gX4_tellRung_X1_addCode : GoodIn wsX4_tellRung (wsV RX4 199 RX1 yX1_addCode wsX1_addCode) := goodIn_app (goodIn_of _ (by decide +kernel)) ggX4_tellRung_X1_addCode
set_option maxRecDepth 20000 in
theorem ggX4_tellRung_X4_firstBayOf : GoodIn wsX4_tellRung wsX4_firstBayOf := goodIn_r _ [30, 31, 32, 5, 33] (by decide +kernel) (by decide +kernel)
set_option maxRecDepth 20000 in
theorem gX4_tellRung_X4_firstBayOf : GoodIn wsX4_tellRung (va_wsS RX4 126 yX4_firstBayOf wsX4_firstBayOf) := goodIn_app (goodIn_of _ (by decide +kernel)) ggX4_tellRung_X4_firstBayOf
set_option maxRecDepth 20000 in
theorem ggX4_tellRung_X3_sumOf : GoodIn wsX4_tellRung wsX3_sumOf := goodIn_r _ [38, 39, 40, 5, 41, 63, 64, 65, 66, 67, 68] (by decide +kernel) (by decide +kernel)
set_option maxRecDepth 20000 in
theorem gX4_tellRung_X3_sumOf : GoodIn wsX4_tellRung (wsV RX4 117 RX3 yX3_sumOf wsX3_sumOf) := goodIn_app (goodIn_of _ (by decide +kernel)) ggX4_tellRung_X3_sumOf
set_option maxRecDepth 20000 in
theorem ggX4_tellRung_X3_isCracked : GoodIn wsX4_tellRung wsX3_isCracked := goodIn_r _ [45, 46, 40, 5, 41, 63, 64, 65, 66, 67, 68] (by decide +kernel) (by decide +kernel)
set_option maxRecDepth 20000 in
theorem gX4_tellRung_X3_isCracked : GoodIn wsX4_tellRung (wsV RX4 123 RX3 yX3_isCracked wsX3_isCracked) := goodIn_app (goodIn_of _ (by decide +kernel)) ggX4_tellRung_X3_isCracked
set_option maxRecDepth 20000 in
theorem ggX4_tellRung_X1_size : GoodIn wsX4_tellRung wsX1_size := goodIn_r _ [50, 15, 61, 62] (by decide +kernel) (by decide +kernel)
set_option maxRecDepth 20000 in
theorem gX4_tellRung_X1_size : GoodIn wsX4_tellRung (wsV RX4 212 RX1 yX1_size wsX1_size) := goodIn_app (goodIn_of _ (by decide +kernel)) ggX4_tellRung_X1_size
theorem dX4_tellRung_0 : decode cX4_tellRung 0 = .ok (.iload_n 1, 1) := by decide +kernel
theorem dX4_tellRung_1 : decode cX4_tellRung 1 = .ok (.invokestatic 111, 3) := by decide +kernel
theorem dX4_tellRung_4 : decode cX4_tellRung 4 = .ok (.ifCond .ne 6, 3) := by decide +kernel
theorem dX4_tellRung_7 : decode cX4_tellRung 7 = .ok (.bipush (-11), 2) := by decide +kernel
theorem dX4_tellRung_9 : decode cX4_tellRung 9 = .ok (.ireturn, 1) := by decide +kernel
theorem dX4_tellRung_10 : decode cX4_tellRung 10 = .ok (.aload_n 0, 1) := by decide +kernel
theorem dX4_tellRung_11 : decode cX4_tellRung 11 = .ok (.getfield 43, 3) := by decide +kernel
theorem dX4_tellRung_14 : decode cX4_tellRung 14 = .ok (.invokevirtual 198, 3) := by decide +kernel
theorem dX4_tellRung_17 : decode cX4_tellRung 17 = .ok (.aload_n 0, 1) := by decide +kernel
theorem dX4_tellRung_18 : decode cX4_tellRung 18 = .ok (.getfield 43, 3) := by decide +kernel
theorem dX4_tellRung_21 : decode cX4_tellRung 21 = .ok (.iload_n 1, 1) := by decide +kernel
theorem dX4_tellRung_22 : decode cX4_tellRung 22 = .ok (.invokevirtual 209, 3) := by decide +kernel
theorem dX4_tellRung_25 : decode cX4_tellRung 25 = .ok (.aload_n 0, 1) := by decide +kernel
theorem dX4_tellRung_26 : decode cX4_tellRung 26 = .ok (.getfield 43, 3) := by decide +kernel
theorem dX4_tellRung_29 : decode cX4_tellRung 29 = .ok (.bipush 58, 2) := by decide +kernel
theorem dX4_tellRung_31 : decode cX4_tellRung 31 = .ok (.invokevirtual 199, 3) := by decide +kernel
theorem dX4_tellRung_34 : decode cX4_tellRung 34 = .ok (.aload_n 0, 1) := by decide +kernel
theorem dX4_tellRung_35 : decode cX4_tellRung 35 = .ok (.getfield 43, 3) := by decide +kernel
theorem dX4_tellRung_38 : decode cX4_tellRung 38 = .ok (.iload_n 1, 1) := by decide +kernel
theorem dX4_tellRung_39 : decode cX4_tellRung 39 = .ok (.invokestatic 126, 3) := by decide +kernel
theorem dX4_tellRung_42 : decode cX4_tellRung 42 = .ok (.invokevirtual 209, 3) := by decide +kernel
theorem dX4_tellRung_45 : decode cX4_tellRung 45 = .ok (.aload_n 0, 1) := by decide +kernel
theorem dX4_tellRung_46 : decode cX4_tellRung 46 = .ok (.getfield 43, 3) := by decide +kernel
theorem dX4_tellRung_49 : decode cX4_tellRung 49 = .ok (.bipush 45, 2) := by decide +kernel
theorem dX4_tellRung_51 : decode cX4_tellRung 51 = .ok (.invokevirtual 199, 3) := by decide +kernel
theorem dX4_tellRung_54 : decode cX4_tellRung 54 = .ok (.aload_n 0, 1) := by decide +kernel
theorem dX4_tellRung_55 : decode cX4_tellRung 55 = .ok (.getfield 43, 3) := by decide +kernel
theorem dX4_tellRung_58 : decode cX4_tellRung 58 = .ok (.iload_n 1, 1) := by decide +kernel
theorem dX4_tellRung_59 : decode cX4_tellRung 59 = .ok (.iconst 1, 1) := by decide +kernel
theorem dX4_tellRung_60 : decode cX4_tellRung 60 = .ok (.isub, 1) := by decide +kernel
theorem dX4_tellRung_61 : decode cX4_tellRung 61 = .ok (.invokevirtual 209, 3) := by decide +kernel
theorem dX4_tellRung_64 : decode cX4_tellRung 64 = .ok (.aload_n 0, 1) := by decide +kernel
theorem dX4_tellRung_65 : decode cX4_tellRung 65 = .ok (.getfield 43, 3) := by decide +kernel
theorem dX4_tellRung_68 : decode cX4_tellRung 68 = .ok (.bipush 61, 2) := by decide +kernel
theorem dX4_tellRung_70 : decode cX4_tellRung 70 = .ok (.invokevirtual 199, 3) := by decide +kernel
theorem dX4_tellRung_73 : decode cX4_tellRung 73 = .ok (.aload_n 0, 1) := by decide +kernel
theorem dX4_tellRung_74 : decode cX4_tellRung 74 = .ok (.getfield 43, 3) := by decide +kernel
theorem dX4_tellRung_77 : decode cX4_tellRung 77 = .ok (.aload_n 0, 1) := by decide +kernel
theorem dX4_tellRung_78 : decode cX4_tellRung 78 = .ok (.getfield 10, 3) := by decide +kernel
theorem dX4_tellRung_81 : decode cX4_tellRung 81 = .ok (.iload_n 1, 1) := by decide +kernel
theorem dX4_tellRung_82 : decode cX4_tellRung 82 = .ok (.invokevirtual 117, 3) := by decide +kernel
theorem dX4_tellRung_85 : decode cX4_tellRung 85 = .ok (.invokevirtual 209, 3) := by decide +kernel
theorem dX4_tellRung_88 : decode cX4_tellRung 88 = .ok (.aload_n 0, 1) := by decide +kernel
theorem dX4_tellRung_89 : decode cX4_tellRung 89 = .ok (.getfield 10, 3) := by decide +kernel
theorem dX4_tellRung_92 : decode cX4_tellRung 92 = .ok (.iload_n 1, 1) := by decide +kernel
theorem dX4_tellRung_93 : decode cX4_tellRung 93 = .ok (.invokevirtual 123, 3) := by decide +kernel
theorem dX4_tellRung_96 : decode cX4_tellRung 96 = .ok (.ifCond .eq 12, 3) := by decide +kernel
theorem dX4_tellRung_99 : decode cX4_tellRung 99 = .ok (.aload_n 0, 1) := by decide +kernel
theorem dX4_tellRung_100 : decode cX4_tellRung 100 = .ok (.getfield 43, 3) := by decide +kernel
theorem dX4_tellRung_103 : decode cX4_tellRung 103 = .ok (.bipush 33, 2) := by decide +kernel
theorem dX4_tellRung_105 : decode cX4_tellRung 105 = .ok (.invokevirtual 199, 3) := by decide +kernel
theorem dX4_tellRung_108 : decode cX4_tellRung 108 = .ok (.aload_n 0, 1) := by decide +kernel
theorem dX4_tellRung_109 : decode cX4_tellRung 109 = .ok (.getfield 43, 3) := by decide +kernel
theorem dX4_tellRung_112 : decode cX4_tellRung 112 = .ok (.invokevirtual 212, 3) := by decide +kernel
theorem dX4_tellRung_115 : decode cX4_tellRung 115 = .ok (.ireturn, 1) := by decide +kernel
set_option maxRecDepth 20000 in
theorem ggX4_character_X1_codeAt : GoodIn wsX4_character wsX1_codeAt := goodIn_r _ [6, 7, 8, 9, 10, 11, 12, 13, 24, 25] (by decide +kernel) (by decide +kernel)
set_option maxRecDepth 20000 in
theorem gX4_character_X1_codeAt : GoodIn wsX4_character (wsV RX4 215 RX1 yX1_codeAt wsX1_codeAt) := goodIn_app (goodIn_of _ (by decide +kernel)) ggX4_character_X1_codeAt
theorem dX4_character_0 : decode cX4_character 0 = .ok (.aload_n 0, 1) := by decide +kernel
theorem dX4_character_1 : decode cX4_character 1 = .ok (.getfield 43, 3) := by decide +kernel
theorem dX4_character_4 : decode cX4_character 4 = .ok (.iload_n 1, 1) := by decide +kernel
theorem dX4_character_5 : decode cX4_character 5 = .ok (.invokevirtual 215, 3) := by decide +kernel
theorem dX4_character_8 : decode cX4_character 8 = .ok (.ireturn, 1) := by decide +kernel
theorem dX4_reason_0 : decode cX4_reason 0 = .ok (.aload_n 0, 1) := by decide +kernel
theorem dX4_reason_1 : decode cX4_reason 1 = .ok (.getfield 47, 3) := by decide +kernel
theorem dX4_reason_4 : decode cX4_reason 4 = .ok (.ifCond .ne 6, 3) := by decide +kernel
theorem dX4_reason_7 : decode cX4_reason 7 = .ok (.bipush (-15), 2) := by decide +kernel
theorem dX4_reason_9 : decode cX4_reason 9 = .ok (.ireturn, 1) := by decide +kernel
theorem dX4_reason_10 : decode cX4_reason 10 = .ok (.iload_n 1, 1) := by decide +kernel
theorem dX4_reason_11 : decode cX4_reason 11 = .ok (.ifCond .eq 10, 3) := by decide +kernel
theorem dX4_reason_14 : decode cX4_reason 14 = .ok (.aload_n 0, 1) := by decide +kernel
theorem dX4_reason_15 : decode cX4_reason 15 = .ok (.getfield 51, 3) := by decide +kernel
theorem dX4_reason_18 : decode cX4_reason 18 = .ok (.goto 7, 3) := by decide +kernel
theorem dX4_reason_21 : decode cX4_reason 21 = .ok (.aload_n 0, 1) := by decide +kernel
theorem dX4_reason_22 : decode cX4_reason 22 = .ok (.getfield 47, 3) := by decide +kernel
theorem dX4_reason_25 : decode cX4_reason 25 = .ok (.ireturn, 1) := by decide +kernel
set_option maxRecDepth 20000 in
theorem ggX4_account_X3_filledBays : GoodIn wsX4_account wsX3_filledBays := goodIn_r _ [8, 9, 10, 11, 7, 12, 13, 14, 15, 16, 77, 78, 79, 80, 81, 82] (by decide +kernel) (by decide +kernel)
set_option maxRecDepth 20000 in
theorem gX4_account_X3_filledBays : GoodIn wsX4_account (wsV RX4 218 RX3 yX3_filledBays wsX3_filledBays) := goodIn_app (goodIn_of _ (by decide +kernel)) ggX4_account_X3_filledBays
set_option maxRecDepth 20000 in
theorem ggX4_account_X3_allSacks : GoodIn wsX4_account wsX3_allSacks := goodIn_r _ [20, 21, 22, 23, 7, 24, 25, 26, 27, 28, 13, 14, 15, 16, 77, 78, 79, 80, 81, 82] (by decide +kernel) (by decide +kernel)
set_option maxRecDepth 20000 in
theorem gX4_account_X3_allSacks : GoodIn wsX4_account (wsV RX4 221 RX3 yX3_allSacks wsX3_allSacks) := goodIn_app (goodIn_of _ (by decide +kernel)) ggX4_account_X3_allSacks
set_option maxRecDepth 20000 in
theorem ggX4_account_X3_sacksOfKind : GoodIn wsX4_account wsX3_sacksOfKind := goodIn_r _ [32, 33, 34, 35, 7, 36, 37, 14, 15, 16, 25, 26, 27, 28, 13, 77, 78, 79, 80, 81, 82] (by decide +kernel) (by decide +kernel)
set_option maxRecDepth 20000 in
theorem gX4_account_X3_sacksOfKind : GoodIn wsX4_account (wsV RX4 224 RX3 yX3_sacksOfKind wsX3_sacksOfKind) := goodIn_app (goodIn_of _ (by decide +kernel)) ggX4_account_X3_sacksOfKind
set_option maxRecDepth 20000 in
theorem ggX4_account_X3_crackedRungs : GoodIn wsX4_account wsX3_crackedRungs := goodIn_r _ [41, 42, 43, 44, 7, 45, 46, 14, 15, 16, 77, 78, 79, 80, 81, 82] (by decide +kernel) (by decide +kernel)
set_option maxRecDepth 20000 in
theorem gX4_account_X3_crackedRungs : GoodIn wsX4_account (wsV RX4 227 RX3 yX3_crackedRungs wsX3_crackedRungs) := goodIn_app (goodIn_of _ (by decide +kernel)) ggX4_account_X3_crackedRungs
set_option maxRecDepth 20000 in
theorem ggX4_account_X0_size : GoodIn wsX4_account wsX0_size := goodIn_r _ [51, 52, 83, 84, 85, 86, 87, 88] (by decide +kernel) (by decide +kernel)
set_option maxRecDepth 20000 in
theorem gX4_account_X0_size : GoodIn wsX4_account (wsV RX4 230 RX0 yX0_size wsX0_size) := goodIn_app (goodIn_of _ (by decide +kernel)) ggX4_account_X0_size
set_option maxRecDepth 20000 in
theorem ggX4_account_X2_size : GoodIn wsX4_account wsX2_size := goodIn_r _ [57, 58, 89, 90, 91] (by decide +kernel) (by decide +kernel)
set_option maxRecDepth 20000 in
theorem gX4_account_X2_size : GoodIn wsX4_account (wsV RX4 231 RX2 yX2_size wsX2_size) := goodIn_app (goodIn_of _ (by decide +kernel)) ggX4_account_X2_size
set_option maxRecDepth 20000 in
theorem ggX4_account_X4_isWithin : GoodIn wsX4_account wsX4_isWithin := goodIn_r _ [61] (by decide +kernel) (by decide +kernel)
set_option maxRecDepth 20000 in
theorem gX4_account_X4_isWithin : GoodIn wsX4_account (va_wsS RX4 138 yX4_isWithin wsX4_isWithin) := goodIn_app (goodIn_of _ (by decide +kernel)) ggX4_account_X4_isWithin
set_option maxRecDepth 20000 in
theorem ggX4_account_X3_counted : GoodIn wsX4_account wsX3_counted := goodIn_r _ [65, 66, 14, 15, 16, 77, 78, 79, 80, 81, 82] (by decide +kernel) (by decide +kernel)
set_option maxRecDepth 20000 in
theorem gX4_account_X3_counted : GoodIn wsX4_account (wsV RX4 232 RX3 yX3_counted wsX3_counted) := goodIn_app (goodIn_of _ (by decide +kernel)) ggX4_account_X3_counted
theorem dX4_account_0 : decode cX4_account 0 = .ok (.iload_n 1, 1) := by decide +kernel
theorem dX4_account_1 : decode cX4_account 1 = .ok (.tableswitch 130 2 17 #[79, 87, 95, 95, 95, 95, 130, 130, 130, 130, 130, 106, 130, 130, 114, 122], 79) := by decide +kernel
theorem dX4_account_80 : decode cX4_account 80 = .ok (.aload_n 0, 1) := by decide +kernel
theorem dX4_account_81 : decode cX4_account 81 = .ok (.getfield 10, 3) := by decide +kernel
theorem dX4_account_84 : decode cX4_account 84 = .ok (.invokevirtual 218, 3) := by decide +kernel
theorem dX4_account_87 : decode cX4_account 87 = .ok (.ireturn, 1) := by decide +kernel
theorem dX4_account_88 : decode cX4_account 88 = .ok (.aload_n 0, 1) := by decide +kernel
theorem dX4_account_89 : decode cX4_account 89 = .ok (.getfield 10, 3) := by decide +kernel
theorem dX4_account_92 : decode cX4_account 92 = .ok (.invokevirtual 221, 3) := by decide +kernel
theorem dX4_account_95 : decode cX4_account 95 = .ok (.ireturn, 1) := by decide +kernel
theorem dX4_account_96 : decode cX4_account 96 = .ok (.aload_n 0, 1) := by decide +kernel
theorem dX4_account_97 : decode cX4_account 97 = .ok (.getfield 10, 3) := by decide +kernel
theorem dX4_account_100 : decode cX4_account 100 = .ok (.iload_n 1, 1) := by decide +kernel
theorem dX4_account_101 : decode cX4_account 101 = .ok (.iconst 4, 1) := by decide +kernel
theorem dX4_account_102 : decode cX4_account 102 = .ok (.isub, 1) := by decide +kernel
theorem dX4_account_103 : decode cX4_account 103 = .ok (.invokevirtual 224, 3) := by decide +kernel
theorem dX4_account_106 : decode cX4_account 106 = .ok (.ireturn, 1) := by decide +kernel
theorem dX4_account_107 : decode cX4_account 107 = .ok (.aload_n 0, 1) := by decide +kernel
theorem dX4_account_108 : decode cX4_account 108 = .ok (.getfield 10, 3) := by decide +kernel
theorem dX4_account_111 : decode cX4_account 111 = .ok (.invokevirtual 227, 3) := by decide +kernel
theorem dX4_account_114 : decode cX4_account 114 = .ok (.ireturn, 1) := by decide +kernel
theorem dX4_account_115 : decode cX4_account 115 = .ok (.aload_n 0, 1) := by decide +kernel
theorem dX4_account_116 : decode cX4_account 116 = .ok (.getfield 36, 3) := by decide +kernel
theorem dX4_account_119 : decode cX4_account 119 = .ok (.invokevirtual 230, 3) := by decide +kernel
theorem dX4_account_122 : decode cX4_account 122 = .ok (.ireturn, 1) := by decide +kernel
theorem dX4_account_123 : decode cX4_account 123 = .ok (.aload_n 0, 1) := by decide +kernel
theorem dX4_account_124 : decode cX4_account 124 = .ok (.getfield 29, 3) := by decide +kernel
theorem dX4_account_127 : decode cX4_account 127 = .ok (.invokevirtual 231, 3) := by decide +kernel
theorem dX4_account_130 : decode cX4_account 130 = .ok (.ireturn, 1) := by decide +kernel
theorem dX4_account_131 : decode cX4_account 131 = .ok (.iload_n 1, 1) := by decide +kernel
theorem dX4_account_132 : decode cX4_account 132 = .ok (.iconst 0, 1) := by decide +kernel
theorem dX4_account_133 : decode cX4_account 133 = .ok (.bipush 15, 2) := by decide +kernel
theorem dX4_account_135 : decode cX4_account 135 = .ok (.invokestatic 138, 3) := by decide +kernel
theorem dX4_account_138 : decode cX4_account 138 = .ok (.ifCond .eq 14, 3) := by decide +kernel
theorem dX4_account_141 : decode cX4_account 141 = .ok (.aload_n 0, 1) := by decide +kernel
theorem dX4_account_142 : decode cX4_account 142 = .ok (.getfield 10, 3) := by decide +kernel
theorem dX4_account_145 : decode cX4_account 145 = .ok (.iload_n 1, 1) := by decide +kernel
theorem dX4_account_146 : decode cX4_account 146 = .ok (.invokevirtual 232, 3) := by decide +kernel
theorem dX4_account_149 : decode cX4_account 149 = .ok (.goto 5, 3) := by decide +kernel
theorem dX4_account_152 : decode cX4_account 152 = .ok (.bipush (-12), 2) := by decide +kernel
theorem dX4_account_154 : decode cX4_account 154 = .ok (.ireturn, 1) := by decide +kernel
set_option maxRecDepth 20000 in
theorem ggX4_isBalanced_X3_sumOf : GoodIn wsX4_isBalanced wsX3_sumOf := goodIn_r _ [6, 7, 8, 9, 10, 46, 47, 48, 49, 50, 51] (by decide +kernel) (by decide +kernel)
set_option maxRecDepth 20000 in
theorem gX4_isBalanced_X3_sumOf : GoodIn wsX4_isBalanced (wsV RX4 117 RX3 yX3_sumOf wsX3_sumOf) := goodIn_app (goodIn_of _ (by decide +kernel)) ggX4_isBalanced_X3_sumOf
set_option maxRecDepth 20000 in
theorem ggX4_isBalanced_X4_firstBayOf : GoodIn wsX4_isBalanced wsX4_firstBayOf := goodIn_r _ [13, 14, 15, 9, 16] (by decide +kernel) (by decide +kernel)
set_option maxRecDepth 20000 in
theorem gX4_isBalanced_X4_firstBayOf : GoodIn wsX4_isBalanced (va_wsS RX4 126 yX4_firstBayOf wsX4_firstBayOf) := goodIn_app (goodIn_of _ (by decide +kernel)) ggX4_isBalanced_X4_firstBayOf
set_option maxRecDepth 20000 in
theorem ggX4_isBalanced_X3_sumByBays : GoodIn wsX4_isBalanced wsX3_sumByBays := goodIn_r _ [20, 21, 22, 23, 5, 24, 25, 8, 9, 10, 46, 47, 48, 49, 50, 51] (by decide +kernel) (by decide +kernel)
set_option maxRecDepth 20000 in
theorem gX4_isBalanced_X3_sumByBays : GoodIn wsX4_isBalanced (wsV RX4 135 RX3 yX3_sumByBays wsX3_sumByBays) := goodIn_app (goodIn_of _ (by decide +kernel)) ggX4_isBalanced_X3_sumByBays
set_option maxRecDepth 20000 in
theorem ggX4_isBalanced_X3_counted : GoodIn wsX4_isBalanced wsX3_counted := goodIn_r _ [29, 30, 8, 9, 10, 46, 47, 48, 49, 50, 51] (by decide +kernel) (by decide +kernel)
set_option maxRecDepth 20000 in
theorem gX4_isBalanced_X3_counted : GoodIn wsX4_isBalanced (wsV RX4 232 RX3 yX3_counted wsX3_counted) := goodIn_app (goodIn_of _ (by decide +kernel)) ggX4_isBalanced_X3_counted
set_option maxRecDepth 20000 in
theorem ggX4_isBalanced_X3_allSacks : GoodIn wsX4_isBalanced wsX3_allSacks := goodIn_r _ [34, 35, 18, 19, 5, 20, 21, 22, 23, 24, 25, 8, 9, 10, 46, 47, 48, 49, 50, 51] (by decide +kernel) (by decide +kernel)
set_option maxRecDepth 20000 in
theorem gX4_isBalanced_X3_allSacks : GoodIn wsX4_isBalanced (wsV RX4 221 RX3 yX3_allSacks wsX3_allSacks) := goodIn_app (goodIn_of _ (by decide +kernel)) ggX4_isBalanced_X3_allSacks
theorem dX4_isBalanced_0 : decode cX4_isBalanced 0 = .ok (.iconst 1, 1) := by decide +kernel
theorem dX4_isBalanced_1 : decode cX4_isBalanced 1 = .ok (.istore_n 1, 1) := by decide +kernel
theorem dX4_isBalanced_2 : decode cX4_isBalanced 2 = .ok (.iload_n 1, 1) := by decide +kernel
theorem dX4_isBalanced_3 : decode cX4_isBalanced 3 = .ok (.bipush 32, 2) := by decide +kernel
theorem dX4_isBalanced_5 : decode cX4_isBalanced 5 = .ok (.if_icmp .gt 36, 3) := by decide +kernel
theorem dX4_isBalanced_8 : decode cX4_isBalanced 8 = .ok (.aload_n 0, 1) := by decide +kernel
theorem dX4_isBalanced_9 : decode cX4_isBalanced 9 = .ok (.getfield 10, 3) := by decide +kernel
theorem dX4_isBalanced_12 : decode cX4_isBalanced 12 = .ok (.iload_n 1, 1) := by decide +kernel
theorem dX4_isBalanced_13 : decode cX4_isBalanced 13 = .ok (.invokevirtual 117, 3) := by decide +kernel
theorem dX4_isBalanced_16 : decode cX4_isBalanced 16 = .ok (.aload_n 0, 1) := by decide +kernel
theorem dX4_isBalanced_17 : decode cX4_isBalanced 17 = .ok (.getfield 10, 3) := by decide +kernel
theorem dX4_isBalanced_20 : decode cX4_isBalanced 20 = .ok (.iload_n 1, 1) := by decide +kernel
theorem dX4_isBalanced_21 : decode cX4_isBalanced 21 = .ok (.invokestatic 126, 3) := by decide +kernel
theorem dX4_isBalanced_24 : decode cX4_isBalanced 24 = .ok (.iload_n 1, 1) := by decide +kernel
theorem dX4_isBalanced_25 : decode cX4_isBalanced 25 = .ok (.iconst 1, 1) := by decide +kernel
theorem dX4_isBalanced_26 : decode cX4_isBalanced 26 = .ok (.isub, 1) := by decide +kernel
theorem dX4_isBalanced_27 : decode cX4_isBalanced 27 = .ok (.invokevirtual 135, 3) := by decide +kernel
theorem dX4_isBalanced_30 : decode cX4_isBalanced 30 = .ok (.if_icmp .eq 5, 3) := by decide +kernel
theorem dX4_isBalanced_33 : decode cX4_isBalanced 33 = .ok (.iconst 0, 1) := by decide +kernel
theorem dX4_isBalanced_34 : decode cX4_isBalanced 34 = .ok (.ireturn, 1) := by decide +kernel
theorem dX4_isBalanced_35 : decode cX4_isBalanced 35 = .ok (.iinc 1 1, 3) := by decide +kernel
theorem dX4_isBalanced_38 : decode cX4_isBalanced 38 = .ok (.goto (-36), 3) := by decide +kernel
theorem dX4_isBalanced_41 : decode cX4_isBalanced 41 = .ok (.aload_n 0, 1) := by decide +kernel
theorem dX4_isBalanced_42 : decode cX4_isBalanced 42 = .ok (.getfield 10, 3) := by decide +kernel
theorem dX4_isBalanced_45 : decode cX4_isBalanced 45 = .ok (.bipush 9, 2) := by decide +kernel
theorem dX4_isBalanced_47 : decode cX4_isBalanced 47 = .ok (.invokevirtual 232, 3) := by decide +kernel
theorem dX4_isBalanced_50 : decode cX4_isBalanced 50 = .ok (.aload_n 0, 1) := by decide +kernel
theorem dX4_isBalanced_51 : decode cX4_isBalanced 51 = .ok (.getfield 10, 3) := by decide +kernel
theorem dX4_isBalanced_54 : decode cX4_isBalanced 54 = .ok (.bipush 10, 2) := by decide +kernel
theorem dX4_isBalanced_56 : decode cX4_isBalanced 56 = .ok (.invokevirtual 232, 3) := by decide +kernel
theorem dX4_isBalanced_59 : decode cX4_isBalanced 59 = .ok (.iadd, 1) := by decide +kernel
theorem dX4_isBalanced_60 : decode cX4_isBalanced 60 = .ok (.aload_n 0, 1) := by decide +kernel
theorem dX4_isBalanced_61 : decode cX4_isBalanced 61 = .ok (.getfield 10, 3) := by decide +kernel
theorem dX4_isBalanced_64 : decode cX4_isBalanced 64 = .ok (.bipush 11, 2) := by decide +kernel
theorem dX4_isBalanced_66 : decode cX4_isBalanced 66 = .ok (.invokevirtual 232, 3) := by decide +kernel
theorem dX4_isBalanced_69 : decode cX4_isBalanced 69 = .ok (.iadd, 1) := by decide +kernel
theorem dX4_isBalanced_70 : decode cX4_isBalanced 70 = .ok (.istore_n 1, 1) := by decide +kernel
theorem dX4_isBalanced_71 : decode cX4_isBalanced 71 = .ok (.aload_n 0, 1) := by decide +kernel
theorem dX4_isBalanced_72 : decode cX4_isBalanced 72 = .ok (.getfield 10, 3) := by decide +kernel
theorem dX4_isBalanced_75 : decode cX4_isBalanced 75 = .ok (.invokevirtual 221, 3) := by decide +kernel
theorem dX4_isBalanced_78 : decode cX4_isBalanced 78 = .ok (.aload_n 0, 1) := by decide +kernel
theorem dX4_isBalanced_79 : decode cX4_isBalanced 79 = .ok (.getfield 10, 3) := by decide +kernel
theorem dX4_isBalanced_82 : decode cX4_isBalanced 82 = .ok (.bipush 8, 2) := by decide +kernel
theorem dX4_isBalanced_84 : decode cX4_isBalanced 84 = .ok (.invokevirtual 232, 3) := by decide +kernel
theorem dX4_isBalanced_87 : decode cX4_isBalanced 87 = .ok (.iload_n 1, 1) := by decide +kernel
theorem dX4_isBalanced_88 : decode cX4_isBalanced 88 = .ok (.isub, 1) := by decide +kernel
theorem dX4_isBalanced_89 : decode cX4_isBalanced 89 = .ok (.if_icmp .ne 7, 3) := by decide +kernel
theorem dX4_isBalanced_92 : decode cX4_isBalanced 92 = .ok (.iconst 1, 1) := by decide +kernel
theorem dX4_isBalanced_93 : decode cX4_isBalanced 93 = .ok (.goto 4, 3) := by decide +kernel
theorem dX4_isBalanced_96 : decode cX4_isBalanced 96 = .ok (.iconst 0, 1) := by decide +kernel
theorem dX4_isBalanced_97 : decode cX4_isBalanced 97 = .ok (.ireturn, 1) := by decide +kernel
set_option maxRecDepth 20000 in
theorem ggX4_meanSacks_X3_filledBays : GoodIn wsX4_meanSacks wsX3_filledBays := goodIn_r _ [6, 7, 8, 9, 5, 10, 11, 12, 13, 14, 37, 38, 39, 40, 41, 42] (by decide +kernel) (by decide +kernel)
set_option maxRecDepth 20000 in
theorem gX4_meanSacks_X3_filledBays : GoodIn wsX4_meanSacks (wsV RX4 218 RX3 yX3_filledBays wsX3_filledBays) := goodIn_app (goodIn_of _ (by decide +kernel)) ggX4_meanSacks_X3_filledBays
set_option maxRecDepth 20000 in
theorem ggX4_meanSacks_X3_allSacks : GoodIn wsX4_meanSacks wsX3_allSacks := goodIn_r _ [18, 19, 20, 21, 5, 22, 23, 24, 25, 26, 11, 12, 13, 14, 37, 38, 39, 40, 41, 42] (by decide +kernel) (by decide +kernel)
set_option maxRecDepth 20000 in
theorem gX4_meanSacks_X3_allSacks : GoodIn wsX4_meanSacks (wsV RX4 221 RX3 yX3_allSacks wsX3_allSacks) := goodIn_app (goodIn_of _ (by decide +kernel)) ggX4_meanSacks_X3_allSacks
theorem dX4_meanSacks_0 : decode cX4_meanSacks 0 = .ok (.aload_n 0, 1) := by decide +kernel
theorem dX4_meanSacks_1 : decode cX4_meanSacks 1 = .ok (.getfield 10, 3) := by decide +kernel
theorem dX4_meanSacks_4 : decode cX4_meanSacks 4 = .ok (.invokevirtual 218, 3) := by decide +kernel
theorem dX4_meanSacks_7 : decode cX4_meanSacks 7 = .ok (.istore_n 1, 1) := by decide +kernel
theorem dX4_meanSacks_8 : decode cX4_meanSacks 8 = .ok (.iload_n 1, 1) := by decide +kernel
theorem dX4_meanSacks_9 : decode cX4_meanSacks 9 = .ok (.ifCond .ne 5, 3) := by decide +kernel
theorem dX4_meanSacks_12 : decode cX4_meanSacks 12 = .ok (.dconst 0, 1) := by decide +kernel
theorem dX4_meanSacks_13 : decode cX4_meanSacks 13 = .ok (.dreturn, 1) := by decide +kernel
theorem dX4_meanSacks_14 : decode cX4_meanSacks 14 = .ok (.aload_n 0, 1) := by decide +kernel
theorem dX4_meanSacks_15 : decode cX4_meanSacks 15 = .ok (.getfield 10, 3) := by decide +kernel
theorem dX4_meanSacks_18 : decode cX4_meanSacks 18 = .ok (.invokevirtual 221, 3) := by decide +kernel
theorem dX4_meanSacks_21 : decode cX4_meanSacks 21 = .ok (.i2d, 1) := by decide +kernel
theorem dX4_meanSacks_22 : decode cX4_meanSacks 22 = .ok (.iload_n 1, 1) := by decide +kernel
theorem dX4_meanSacks_23 : decode cX4_meanSacks 23 = .ok (.i2d, 1) := by decide +kernel
theorem dX4_meanSacks_24 : decode cX4_meanSacks 24 = .ok (.ddiv, 1) := by decide +kernel
theorem dX4_meanSacks_25 : decode cX4_meanSacks 25 = .ok (.dreturn, 1) := by decide +kernel
set_option maxRecDepth 20000 in
theorem ggX4_soundShare_X3_crackedRungs : GoodIn wsX4_soundShare wsX3_crackedRungs := goodIn_r _ [7, 8, 9, 10, 6, 11, 12, 13, 14, 15, 26, 27, 28, 29, 30, 31] (by decide +kernel) (by decide +kernel)
set_option maxRecDepth 20000 in
theorem gX4_soundShare_X3_crackedRungs : GoodIn wsX4_soundShare (wsV RX4 227 RX3 yX3_crackedRungs wsX3_crackedRungs) := goodIn_app (goodIn_of _ (by decide +kernel)) ggX4_soundShare_X3_crackedRungs
theorem dX4_soundShare_0 : decode cX4_soundShare 0 = .ok (.bipush 32, 2) := by decide +kernel
theorem dX4_soundShare_2 : decode cX4_soundShare 2 = .ok (.aload_n 0, 1) := by decide +kernel
theorem dX4_soundShare_3 : decode cX4_soundShare 3 = .ok (.getfield 10, 3) := by decide +kernel
theorem dX4_soundShare_6 : decode cX4_soundShare 6 = .ok (.invokevirtual 227, 3) := by decide +kernel
theorem dX4_soundShare_9 : decode cX4_soundShare 9 = .ok (.isub, 1) := by decide +kernel
theorem dX4_soundShare_10 : decode cX4_soundShare 10 = .ok (.i2f, 1) := by decide +kernel
theorem dX4_soundShare_11 : decode cX4_soundShare 11 = .ok (.ldc 235, 2) := by decide +kernel
theorem dX4_soundShare_13 : decode cX4_soundShare 13 = .ok (.fdiv, 1) := by decide +kernel
theorem dX4_soundShare_14 : decode cX4_soundShare 14 = .ok (.freturn, 1) := by decide +kernel
set_option maxRecDepth 20000 in
theorem ggX4_undo_X2_size : GoodIn wsX4_undo wsX2_size := goodIn_r _ [7, 8, 43, 44, 45] (by decide +kernel) (by decide +kernel)
set_option maxRecDepth 20000 in
theorem gX4_undo_X2_size : GoodIn wsX4_undo (wsV RX4 231 RX2 yX2_size wsX2_size) := goodIn_app (goodIn_of _ (by decide +kernel)) ggX4_undo_X2_size
set_option maxRecDepth 20000 in
theorem ggX4_undo_X2_giveBack : GoodIn wsX4_undo wsX2_giveBack := goodIn_r _ [12, 13, 8, 14, 15, 16, 17, 18, 19, 20, 21, 22, 23, 24, 25, 26, 27, 28, 29, 30, 31, 32, 43, 44, 45, 46, 47, 48, 49, 50, 51] (by decide +kernel) (by decide +kernel)
set_option maxRecDepth 20000 in
theorem gX4_undo_X2_giveBack : GoodIn wsX4_undo (wsV RX4 236 RX2 yX2_giveBack wsX2_giveBack) := goodIn_app (goodIn_of _ (by decide +kernel)) ggX4_undo_X2_giveBack
theorem dX4_undo_0 : decode cX4_undo 0 = .ok (.aload_n 0, 1) := by decide +kernel
theorem dX4_undo_1 : decode cX4_undo 1 = .ok (.getfield 29, 3) := by decide +kernel
theorem dX4_undo_4 : decode cX4_undo 4 = .ok (.invokevirtual 231, 3) := by decide +kernel
theorem dX4_undo_7 : decode cX4_undo 7 = .ok (.ifCond .ne 6, 3) := by decide +kernel
theorem dX4_undo_10 : decode cX4_undo 10 = .ok (.bipush (-15), 2) := by decide +kernel
theorem dX4_undo_12 : decode cX4_undo 12 = .ok (.ireturn, 1) := by decide +kernel
theorem dX4_undo_13 : decode cX4_undo 13 = .ok (.aload_n 0, 1) := by decide +kernel
theorem dX4_undo_14 : decode cX4_undo 14 = .ok (.getfield 29, 3) := by decide +kernel
theorem dX4_undo_17 : decode cX4_undo 17 = .ok (.aload_n 0, 1) := by decide +kernel
theorem dX4_undo_18 : decode cX4_undo 18 = .ok (.getfield 10, 3) := by decide +kernel
theorem dX4_undo_21 : decode cX4_undo 21 = .ok (.invokevirtual 236, 3) := by decide +kernel
theorem dX4_undo_24 : decode cX4_undo 24 = .ok (.aload_n 0, 1) := by decide +kernel
theorem dX4_undo_25 : decode cX4_undo 25 = .ok (.getfield 29, 3) := by decide +kernel
theorem dX4_undo_28 : decode cX4_undo 28 = .ok (.invokevirtual 231, 3) := by decide +kernel
theorem dX4_undo_31 : decode cX4_undo 31 = .ok (.ireturn, 1) := by decide +kernel
set_option maxRecDepth 20000 in
theorem ggX4_save_X3_copyFrom : GoodIn wsX4_save wsX3_copyFrom := goodIn_r _ [8, 9, 10, 11, 12, 13, 14, 15, 16, 17, 42, 43, 44, 45, 46, 47] (by decide +kernel) (by decide +kernel)
set_option maxRecDepth 20000 in
theorem gX4_save_X3_copyFrom : GoodIn wsX4_save (wsV RX4 58 RX3 yX3_copyFrom wsX3_copyFrom) := goodIn_app (goodIn_of _ (by decide +kernel)) ggX4_save_X3_copyFrom
set_option maxRecDepth 20000 in
theorem ggX4_save_X3_allSacks : GoodIn wsX4_save wsX3_allSacks := goodIn_r _ [21, 22, 23, 24, 7, 25, 26, 27, 28, 29, 10, 30, 16, 31, 42, 43, 44, 45, 46, 47] (by decide +kernel) (by decide +kernel)
set_option maxRecDepth 20000 in
theorem gX4_save_X3_allSacks : GoodIn wsX4_save (wsV RX4 221 RX3 yX3_allSacks wsX3_allSacks) := goodIn_app (goodIn_of _ (by decide +kernel)) ggX4_save_X3_allSacks
theorem dX4_save_0 : decode cX4_save 0 = .ok (.aload_n 0, 1) := by decide +kernel
theorem dX4_save_1 : decode cX4_save 1 = .ok (.getfield 19, 3) := by decide +kernel
theorem dX4_save_4 : decode cX4_save 4 = .ok (.aload_n 0, 1) := by decide +kernel
theorem dX4_save_5 : decode cX4_save 5 = .ok (.getfield 10, 3) := by decide +kernel
theorem dX4_save_8 : decode cX4_save 8 = .ok (.invokevirtual 58, 3) := by decide +kernel
theorem dX4_save_11 : decode cX4_save 11 = .ok (.aload_n 0, 1) := by decide +kernel
theorem dX4_save_12 : decode cX4_save 12 = .ok (.iconst 1, 1) := by decide +kernel
theorem dX4_save_13 : decode cX4_save 13 = .ok (.putfield 22, 3) := by decide +kernel
theorem dX4_save_16 : decode cX4_save 16 = .ok (.aload_n 0, 1) := by decide +kernel
theorem dX4_save_17 : decode cX4_save 17 = .ok (.getfield 10, 3) := by decide +kernel
theorem dX4_save_20 : decode cX4_save 20 = .ok (.invokevirtual 221, 3) := by decide +kernel
theorem dX4_save_23 : decode cX4_save 23 = .ok (.ireturn, 1) := by decide +kernel
set_option maxRecDepth 20000 in
theorem ggX4_restore_X3_copyFrom : GoodIn wsX4_restore wsX3_copyFrom := goodIn_r _ [9, 10, 11, 12, 13, 14, 15, 16, 17, 18, 49, 50, 51, 52, 53, 54] (by decide +kernel) (by decide +kernel)
set_option maxRecDepth 20000 in
theorem gX4_restore_X3_copyFrom : GoodIn wsX4_restore (wsV RX4 58 RX3 yX3_copyFrom wsX3_copyFrom) := goodIn_app (goodIn_of _ (by decide +kernel)) ggX4_restore_X3_copyFrom
set_option maxRecDepth 20000 in
theorem ggX4_restore_X2_forget : GoodIn wsX4_restore wsX2_forget := goodIn_r _ [23, 24, 55, 56, 57] (by decide +kernel) (by decide +kernel)
set_option maxRecDepth 20000 in
theorem gX4_restore_X2_forget : GoodIn wsX4_restore (wsV RX4 239 RX2 yX2_forget wsX2_forget) := goodIn_app (goodIn_of _ (by decide +kernel)) ggX4_restore_X2_forget
set_option maxRecDepth 20000 in
theorem ggX4_restore_X3_allSacks : GoodIn wsX4_restore wsX3_allSacks := goodIn_r _ [28, 29, 30, 31, 8, 32, 33, 34, 35, 36, 11, 37, 17, 38, 49, 50, 51, 52, 53, 54] (by decide +kernel) (by decide +kernel)
set_option maxRecDepth 20000 in
theorem gX4_restore_X3_allSacks : GoodIn wsX4_restore (wsV RX4 221 RX3 yX3_allSacks wsX3_allSacks) := goodIn_app (goodIn_of _ (by decide +kernel)) ggX4_restore_X3_allSacks
theorem dX4_restore_0 : decode cX4_restore 0 = .ok (.aload_n 0, 1) := by decide +kernel
theorem dX4_restore_1 : decode cX4_restore 1 = .ok (.getfield 22, 3) := by decide +kernel
theorem dX4_restore_4 : decode cX4_restore 4 = .ok (.ifCond .ne 6, 3) := by decide +kernel
theorem dX4_restore_7 : decode cX4_restore 7 = .ok (.bipush (-15), 2) := by decide +kernel
theorem dX4_restore_9 : decode cX4_restore 9 = .ok (.ireturn, 1) := by decide +kernel
theorem dX4_restore_10 : decode cX4_restore 10 = .ok (.aload_n 0, 1) := by decide +kernel
theorem dX4_restore_11 : decode cX4_restore 11 = .ok (.getfield 10, 3) := by decide +kernel
theorem dX4_restore_14 : decode cX4_restore 14 = .ok (.aload_n 0, 1) := by decide +kernel
theorem dX4_restore_15 : decode cX4_restore 15 = .ok (.getfield 19, 3) := by decide +kernel
theorem dX4_restore_18 : decode cX4_restore 18 = .ok (.invokevirtual 58, 3) := by decide +kernel
theorem dX4_restore_21 : decode cX4_restore 21 = .ok (.aload_n 0, 1) := by decide +kernel
theorem dX4_restore_22 : decode cX4_restore 22 = .ok (.getfield 29, 3) := by decide +kernel
theorem dX4_restore_25 : decode cX4_restore 25 = .ok (.invokevirtual 239, 3) := by decide +kernel
theorem dX4_restore_28 : decode cX4_restore 28 = .ok (.aload_n 0, 1) := by decide +kernel
theorem dX4_restore_29 : decode cX4_restore 29 = .ok (.getfield 10, 3) := by decide +kernel
theorem dX4_restore_32 : decode cX4_restore 32 = .ok (.invokevirtual 221, 3) := by decide +kernel
theorem dX4_restore_35 : decode cX4_restore 35 = .ok (.ireturn, 1) := by decide +kernel
set_option maxRecDepth 20000 in
theorem ggX4_storeSacks_X4_isBay : GoodIn wsX4_storeSacks wsX4_isBay := goodIn_r _ [5, 6, 7, 4, 8] (by decide +kernel) (by decide +kernel)
set_option maxRecDepth 20000 in
theorem gX4_storeSacks_X4_isBay : GoodIn wsX4_storeSacks (va_wsS RX4 86 yX4_isBay wsX4_isBay) := goodIn_app (goodIn_of _ (by decide +kernel)) ggX4_storeSacks_X4_isBay
set_option maxRecDepth 20000 in
theorem ggX4_storeSacks_X4_isKind : GoodIn wsX4_storeSacks wsX4_isKind := goodIn_r _ [11, 6, 7, 4, 8] (by decide +kernel) (by decide +kernel)
set_option maxRecDepth 20000 in
theorem gX4_storeSacks_X4_isKind : GoodIn wsX4_storeSacks (va_wsS RX4 162 yX4_isKind wsX4_isKind) := goodIn_app (goodIn_of _ (by decide +kernel)) ggX4_storeSacks_X4_isKind
set_option maxRecDepth 20000 in
theorem ggX4_storeSacks_X4_isWithin : GoodIn wsX4_storeSacks wsX4_isWithin := goodIn_r _ [8] (by decide +kernel) (by decide +kernel)
set_option maxRecDepth 20000 in
theorem gX4_storeSacks_X4_isWithin : GoodIn wsX4_storeSacks (va_wsS RX4 138 yX4_isWithin wsX4_isWithin) := goodIn_app (goodIn_of _ (by decide +kernel)) ggX4_storeSacks_X4_isWithin
set_option maxRecDepth 20000 in
theorem ggX4_storeSacks_X4_hasRoom : GoodIn wsX4_storeSacks wsX4_hasRoom := goodIn_r _ [15, 1, 16, 17, 18, 19, 20, 21, 22, 4, 23, 24, 25, 26, 27, 28, 29, 30, 31, 32, 83, 84, 85, 86, 87, 88, 89, 90, 91, 92, 93, 94, 95, 96, 97, 98] (by decide +kernel) (by decide +kernel)
set_option maxRecDepth 20000 in
theorem gX4_storeSacks_X4_hasRoom : GoodIn wsX4_storeSacks (wsV RX4 165 RX4 yX4_hasRoom wsX4_hasRoom) := goodIn_app (goodIn_of _ (by decide +kernel)) ggX4_storeSacks_X4_hasRoom
set_option maxRecDepth 20000 in
theorem ggX4_storeSacks_X4_refuseRoom : GoodIn wsX4_storeSacks wsX4_refuseRoom := goodIn_r _ [36, 1, 24, 25, 26, 19, 27, 28, 22, 4, 23, 37, 38, 39, 40, 41, 42, 29, 30, 31, 32, 21, 83, 84, 85, 86, 87, 88, 89, 90, 91, 92, 93, 94, 95, 96, 97, 98] (by decide +kernel) (by decide +kernel)
set_option maxRecDepth 20000 in
theorem gX4_storeSacks_X4_refuseRoom : GoodIn wsX4_storeSacks (wsV RX4 242 RX4 yX4_refuseRoom wsX4_refuseRoom) := goodIn_app (goodIn_of _ (by decide +kernel)) ggX4_storeSacks_X4_refuseRoom
set_option maxRecDepth 20000 in
theorem ggX4_storeSacks_X3_count : GoodIn wsX4_storeSacks wsX3_count := goodIn_r _ [46, 47, 22, 4, 23, 48, 49, 93, 94, 95, 96, 97, 98] (by decide +kernel) (by decide +kernel)
set_option maxRecDepth 20000 in
theorem gX4_storeSacks_X3_count : GoodIn wsX4_storeSacks (wsV RX4 245 RX3 yX3_count wsX3_count) := goodIn_app (goodIn_of _ (by decide +kernel)) ggX4_storeSacks_X3_count
set_option maxRecDepth 20000 in
theorem ggX4_storeSacks_X3_ageIn : GoodIn wsX4_storeSacks wsX3_ageIn := goodIn_r _ [53, 54, 22, 4, 23, 93, 94, 95, 96, 97, 98] (by decide +kernel) (by decide +kernel)
set_option maxRecDepth 20000 in
theorem gX4_storeSacks_X3_ageIn : GoodIn wsX4_storeSacks (wsV RX4 99 RX3 yX3_ageIn wsX3_ageIn) := goodIn_app (goodIn_of _ (by decide +kernel)) ggX4_storeSacks_X3_ageIn
set_option maxRecDepth 20000 in
theorem ggX4_storeSacks_X3_bring : GoodIn wsX4_storeSacks wsX3_bring := goodIn_r _ [58, 28, 54, 48, 4, 49, 59, 60, 61, 19, 62, 21, 63, 22, 23, 64, 65, 66, 67, 68, 69, 70, 71, 72, 73, 74, 75, 76, 77, 78, 79, 80, 81, 82, 44, 45, 46, 47, 93, 94, 95, 96, 97, 98] (by decide +kernel) (by decide +kernel)
set_option maxRecDepth 20000 in
theorem gX4_storeSacks_X3_bring : GoodIn wsX4_storeSacks (wsV RX4 249 RX3 yX3_bring wsX3_bring) := goodIn_app (goodIn_of _ (by decide +kernel)) ggX4_storeSacks_X3_bring
theorem dX4_storeSacks_0 : decode cX4_storeSacks 0 = .ok (.iload_n 1, 1) := by decide +kernel
theorem dX4_storeSacks_1 : decode cX4_storeSacks 1 = .ok (.invokestatic 86, 3) := by decide +kernel
theorem dX4_storeSacks_4 : decode cX4_storeSacks 4 = .ok (.ifCond .ne 6, 3) := by decide +kernel
theorem dX4_storeSacks_7 : decode cX4_storeSacks 7 = .ok (.bipush (-11), 2) := by decide +kernel
theorem dX4_storeSacks_9 : decode cX4_storeSacks 9 = .ok (.ireturn, 1) := by decide +kernel
theorem dX4_storeSacks_10 : decode cX4_storeSacks 10 = .ok (.iload_n 2, 1) := by decide +kernel
theorem dX4_storeSacks_11 : decode cX4_storeSacks 11 = .ok (.invokestatic 162, 3) := by decide +kernel
theorem dX4_storeSacks_14 : decode cX4_storeSacks 14 = .ok (.ifCond .eq 14, 3) := by decide +kernel
theorem dX4_storeSacks_17 : decode cX4_storeSacks 17 = .ok (.iload_n 3, 1) := by decide +kernel
theorem dX4_storeSacks_18 : decode cX4_storeSacks 18 = .ok (.iconst 1, 1) := by decide +kernel
theorem dX4_storeSacks_19 : decode cX4_storeSacks 19 = .ok (.sipush 200, 3) := by decide +kernel
theorem dX4_storeSacks_22 : decode cX4_storeSacks 22 = .ok (.invokestatic 138, 3) := by decide +kernel
theorem dX4_storeSacks_25 : decode cX4_storeSacks 25 = .ok (.ifCond .ne 6, 3) := by decide +kernel
theorem dX4_storeSacks_28 : decode cX4_storeSacks 28 = .ok (.bipush (-12), 2) := by decide +kernel
theorem dX4_storeSacks_30 : decode cX4_storeSacks 30 = .ok (.ireturn, 1) := by decide +kernel
theorem dX4_storeSacks_31 : decode cX4_storeSacks 31 = .ok (.aload_n 0, 1) := by decide +kernel
theorem dX4_storeSacks_32 : decode cX4_storeSacks 32 = .ok (.iload_n 1, 1) := by decide +kernel
theorem dX4_storeSacks_33 : decode cX4_storeSacks 33 = .ok (.iload_n 2, 1) := by decide +kernel
theorem dX4_storeSacks_34 : decode cX4_storeSacks 34 = .ok (.iload_n 3, 1) := by decide +kernel
theorem dX4_storeSacks_35 : decode cX4_storeSacks 35 = .ok (.invokevirtual 165, 3) := by decide +kernel
theorem dX4_storeSacks_38 : decode cX4_storeSacks 38 = .ok (.ifCond .ne 11, 3) := by decide +kernel
theorem dX4_storeSacks_41 : decode cX4_storeSacks 41 = .ok (.aload_n 0, 1) := by decide +kernel
theorem dX4_storeSacks_42 : decode cX4_storeSacks 42 = .ok (.iload_n 1, 1) := by decide +kernel
theorem dX4_storeSacks_43 : decode cX4_storeSacks 43 = .ok (.iload_n 2, 1) := by decide +kernel
theorem dX4_storeSacks_44 : decode cX4_storeSacks 44 = .ok (.iload_n 3, 1) := by decide +kernel
theorem dX4_storeSacks_45 : decode cX4_storeSacks 45 = .ok (.invokevirtual 242, 3) := by decide +kernel
theorem dX4_storeSacks_48 : decode cX4_storeSacks 48 = .ok (.ireturn, 1) := by decide +kernel
theorem dX4_storeSacks_49 : decode cX4_storeSacks 49 = .ok (.aload_n 0, 1) := by decide +kernel
theorem dX4_storeSacks_50 : decode cX4_storeSacks 50 = .ok (.getfield 10, 3) := by decide +kernel
theorem dX4_storeSacks_53 : decode cX4_storeSacks 53 = .ok (.bipush 8, 2) := by decide +kernel
theorem dX4_storeSacks_55 : decode cX4_storeSacks 55 = .ok (.iload_n 3, 1) := by decide +kernel
theorem dX4_storeSacks_56 : decode cX4_storeSacks 56 = .ok (.invokevirtual 245, 3) := by decide +kernel
theorem dX4_storeSacks_59 : decode cX4_storeSacks 59 = .ok (.aload_n 0, 1) := by decide +kernel
theorem dX4_storeSacks_60 : decode cX4_storeSacks 60 = .ok (.getfield 10, 3) := by decide +kernel
theorem dX4_storeSacks_63 : decode cX4_storeSacks 63 = .ok (.iload_n 1, 1) := by decide +kernel
theorem dX4_storeSacks_64 : decode cX4_storeSacks 64 = .ok (.iload_n 2, 1) := by decide +kernel
theorem dX4_storeSacks_65 : decode cX4_storeSacks 65 = .ok (.iload_n 3, 1) := by decide +kernel
theorem dX4_storeSacks_66 : decode cX4_storeSacks 66 = .ok (.aload_n 0, 1) := by decide +kernel
theorem dX4_storeSacks_67 : decode cX4_storeSacks 67 = .ok (.getfield 10, 3) := by decide +kernel
theorem dX4_storeSacks_70 : decode cX4_storeSacks 70 = .ok (.iload_n 1, 1) := by decide +kernel
theorem dX4_storeSacks_71 : decode cX4_storeSacks 71 = .ok (.invokevirtual 99, 3) := by decide +kernel
theorem dX4_storeSacks_74 : decode cX4_storeSacks 74 = .ok (.invokevirtual 249, 3) := by decide +kernel
theorem dX4_storeSacks_77 : decode cX4_storeSacks 77 = .ok (.ireturn, 1) := by decide +kernel
set_option maxRecDepth 20000 in
theorem ggX4_takeSacks_X4_isBay : GoodIn wsX4_takeSacks wsX4_isBay := goodIn_r _ [5, 6, 7, 4, 8] (by decide +kernel) (by decide +kernel)
set_option maxRecDepth 20000 in
theorem gX4_takeSacks_X4_isBay : GoodIn wsX4_takeSacks (va_wsS RX4 86 yX4_isBay wsX4_isBay) := goodIn_app (goodIn_of _ (by decide +kernel)) ggX4_takeSacks_X4_isBay
set_option maxRecDepth 20000 in
theorem ggX4_takeSacks_X4_isWithin : GoodIn wsX4_takeSacks wsX4_isWithin := goodIn_r _ [8] (by decide +kernel) (by decide +kernel)
set_option maxRecDepth 20000 in
theorem gX4_takeSacks_X4_isWithin : GoodIn wsX4_takeSacks (va_wsS RX4 138 yX4_isWithin wsX4_isWithin) := goodIn_app (goodIn_of _ (by decide +kernel)) ggX4_takeSacks_X4_isWithin
set_option maxRecDepth 20000 in
theorem ggX4_takeSacks_X4_hasSacks : GoodIn wsX4_takeSacks wsX4_hasSacks := goodIn_r _ [12, 1, 13, 14, 15, 16, 17, 18, 19, 4, 20, 56, 57, 58, 59, 60, 61, 62, 63, 64, 65, 66, 67, 68, 69, 70, 71] (by decide +kernel) (by decide +kernel)
set_option maxRecDepth 20000 in
theorem gX4_takeSacks_X4_hasSacks : GoodIn wsX4_takeSacks (wsV RX4 253 RX4 yX4_hasSacks wsX4_hasSacks) := goodIn_app (goodIn_of _ (by decide +kernel)) ggX4_takeSacks_X4_hasSacks
set_option maxRecDepth 20000 in
theorem ggX4_takeSacks_X4_refuseSacks : GoodIn wsX4_takeSacks wsX4_refuseSacks := goodIn_r _ [24, 1, 25, 26, 27, 16, 28, 18, 19, 4, 20, 29, 30, 31, 32, 33, 34, 13, 14, 15, 17, 56, 57, 58, 59, 60, 61, 62, 63, 64, 65, 66, 67, 68, 69, 70, 71] (by decide +kernel) (by decide +kernel)
set_option maxRecDepth 20000 in
theorem gX4_takeSacks_X4_refuseSacks : GoodIn wsX4_takeSacks (wsV RX4 256 RX4 yX4_refuseSacks wsX4_refuseSacks) := goodIn_app (goodIn_of _ (by decide +kernel)) ggX4_takeSacks_X4_refuseSacks
set_option maxRecDepth 20000 in
theorem ggX4_takeSacks_X3_remove : GoodIn wsX4_takeSacks wsX3_remove := goodIn_r _ [38, 39, 40, 41, 42, 43, 16, 44, 18, 45, 19, 4, 20, 46, 47, 48, 49, 50, 26, 27, 28, 66, 67, 68, 69, 70, 71] (by decide +kernel) (by decide +kernel)
set_option maxRecDepth 20000 in
theorem gX4_takeSacks_X3_remove : GoodIn wsX4_takeSacks (wsV RX4 259 RX3 yX3_remove wsX3_remove) := goodIn_app (goodIn_of _ (by decide +kernel)) ggX4_takeSacks_X3_remove
set_option maxRecDepth 20000 in
theorem ggX4_takeSacks_X3_count : GoodIn wsX4_takeSacks wsX3_count := goodIn_r _ [54, 55, 19, 4, 20, 46, 47, 66, 67, 68, 69, 70, 71] (by decide +kernel) (by decide +kernel)
set_option maxRecDepth 20000 in
theorem gX4_takeSacks_X3_count : GoodIn wsX4_takeSacks (wsV RX4 245 RX3 yX3_count wsX3_count) := goodIn_app (goodIn_of _ (by decide +kernel)) ggX4_takeSacks_X3_count
set_option maxRecDepth 20000 in
theorem ggX4_takeSacks_X3_sacksIn : GoodIn wsX4_takeSacks wsX3_sacksIn := goodIn_r _ [17, 18, 19, 4, 20, 66, 67, 68, 69, 70, 71] (by decide +kernel) (by decide +kernel)
set_option maxRecDepth 20000 in
theorem gX4_takeSacks_X3_sacksIn : GoodIn wsX4_takeSacks (wsV RX4 96 RX3 yX3_sacksIn wsX3_sacksIn) := goodIn_app (goodIn_of _ (by decide +kernel)) ggX4_takeSacks_X3_sacksIn
theorem dX4_takeSacks_0 : decode cX4_takeSacks 0 = .ok (.iload_n 1, 1) := by decide +kernel
theorem dX4_takeSacks_1 : decode cX4_takeSacks 1 = .ok (.invokestatic 86, 3) := by decide +kernel
theorem dX4_takeSacks_4 : decode cX4_takeSacks 4 = .ok (.ifCond .ne 6, 3) := by decide +kernel
theorem dX4_takeSacks_7 : decode cX4_takeSacks 7 = .ok (.bipush (-11), 2) := by decide +kernel
theorem dX4_takeSacks_9 : decode cX4_takeSacks 9 = .ok (.ireturn, 1) := by decide +kernel
theorem dX4_takeSacks_10 : decode cX4_takeSacks 10 = .ok (.iload_n 2, 1) := by decide +kernel
theorem dX4_takeSacks_11 : decode cX4_takeSacks 11 = .ok (.iconst 1, 1) := by decide +kernel
theorem dX4_takeSacks_12 : decode cX4_takeSacks 12 = .ok (.sipush 200, 3) := by decide +kernel
theorem dX4_takeSacks_15 : decode cX4_takeSacks 15 = .ok (.invokestatic 138, 3) := by decide +kernel
theorem dX4_takeSacks_18 : decode cX4_takeSacks 18 = .ok (.ifCond .ne 6, 3) := by decide +kernel
theorem dX4_takeSacks_21 : decode cX4_takeSacks 21 = .ok (.bipush (-12), 2) := by decide +kernel
theorem dX4_takeSacks_23 : decode cX4_takeSacks 23 = .ok (.ireturn, 1) := by decide +kernel
theorem dX4_takeSacks_24 : decode cX4_takeSacks 24 = .ok (.aload_n 0, 1) := by decide +kernel
theorem dX4_takeSacks_25 : decode cX4_takeSacks 25 = .ok (.iload_n 1, 1) := by decide +kernel
theorem dX4_takeSacks_26 : decode cX4_takeSacks 26 = .ok (.iload_n 2, 1) := by decide +kernel
theorem dX4_takeSacks_27 : decode cX4_takeSacks 27 = .ok (.invokevirtual 253, 3) := by decide +kernel
theorem dX4_takeSacks_30 : decode cX4_takeSacks 30 = .ok (.ifCond .ne 9, 3) := by decide +kernel
theorem dX4_takeSacks_33 : decode cX4_takeSacks 33 = .ok (.aload_n 0, 1) := by decide +kernel
theorem dX4_takeSacks_34 : decode cX4_takeSacks 34 = .ok (.iload_n 1, 1) := by decide +kernel
theorem dX4_takeSacks_35 : decode cX4_takeSacks 35 = .ok (.invokevirtual 256, 3) := by decide +kernel
theorem dX4_takeSacks_38 : decode cX4_takeSacks 38 = .ok (.ireturn, 1) := by decide +kernel
theorem dX4_takeSacks_39 : decode cX4_takeSacks 39 = .ok (.aload_n 0, 1) := by decide +kernel
theorem dX4_takeSacks_40 : decode cX4_takeSacks 40 = .ok (.getfield 10, 3) := by decide +kernel
theorem dX4_takeSacks_43 : decode cX4_takeSacks 43 = .ok (.iload_n 1, 1) := by decide +kernel
theorem dX4_takeSacks_44 : decode cX4_takeSacks 44 = .ok (.iload_n 2, 1) := by decide +kernel
theorem dX4_takeSacks_45 : decode cX4_takeSacks 45 = .ok (.invokevirtual 259, 3) := by decide +kernel
theorem dX4_takeSacks_48 : decode cX4_takeSacks 48 = .ok (.aload_n 0, 1) := by decide +kernel
theorem dX4_takeSacks_49 : decode cX4_takeSacks 49 = .ok (.getfield 10, 3) := by decide +kernel
theorem dX4_takeSacks_52 : decode cX4_takeSacks 52 = .ok (.bipush 9, 2) := by decide +kernel
theorem dX4_takeSacks_54 : decode cX4_takeSacks 54 = .ok (.iload_n 2, 1) := by decide +kernel
theorem dX4_takeSacks_55 : decode cX4_takeSacks 55 = .ok (.invokevirtual 245, 3) := by decide +kernel
theorem dX4_takeSacks_58 : decode cX4_takeSacks 58 = .ok (.aload_n 0, 1) := by decide +kernel
theorem dX4_takeSacks_59 : decode cX4_takeSacks 59 = .ok (.getfield 10, 3) := by decide +kernel
theorem dX4_takeSacks_62 : decode cX4_takeSacks 62 = .ok (.iload_n 1, 1) := by decide +kernel
theorem dX4_takeSacks_63 : decode cX4_takeSacks 63 = .ok (.invokevirtual 96, 3) := by decide +kernel
theorem dX4_takeSacks_66 : decode cX4_takeSacks 66 = .ok (.ireturn, 1) := by decide +kernel
set_option maxRecDepth 20000 in
theorem ggX4_moveSacks_X4_isBay : GoodIn wsX4_moveSacks wsX4_isBay := goodIn_r _ [9, 10, 11, 8, 12] (by decide +kernel) (by decide +kernel)
set_option maxRecDepth 20000 in
theorem gX4_moveSacks_X4_isBay : GoodIn wsX4_moveSacks (va_wsS RX4 86 yX4_isBay wsX4_isBay) := goodIn_app (goodIn_of _ (by decide +kernel)) ggX4_moveSacks_X4_isBay
set_option maxRecDepth 20000 in
theorem ggX4_moveSacks_X4_isWithin : GoodIn wsX4_moveSacks wsX4_isWithin := goodIn_r _ [12] (by decide +kernel) (by decide +kernel)
set_option maxRecDepth 20000 in
theorem gX4_moveSacks_X4_isWithin : GoodIn wsX4_moveSacks (va_wsS RX4 138 yX4_isWithin wsX4_isWithin) := goodIn_app (goodIn_of _ (by decide +kernel)) ggX4_moveSacks_X4_isWithin
set_option maxRecDepth 20000 in
theorem ggX4_moveSacks_X4_refuse : GoodIn wsX4_moveSacks wsX4_refuse := goodIn_r _ [16, 17, 18, 97, 98, 99, 100, 101, 102, 103, 104, 105, 106] (by decide +kernel) (by decide +kernel)
set_option maxRecDepth 20000 in
theorem gX4_moveSacks_X4_refuse : GoodIn wsX4_moveSacks (wsV RX4 195 RX4 yX4_refuse wsX4_refuse) := goodIn_app (goodIn_of _ (by decide +kernel)) ggX4_moveSacks_X4_refuse
set_option maxRecDepth 20000 in
theorem ggX4_moveSacks_X4_hasSacks : GoodIn wsX4_moveSacks wsX4_hasSacks := goodIn_r _ [22, 1, 23, 24, 25, 26, 27, 28, 29, 8, 30, 97, 98, 99, 100, 101, 102, 103, 104, 105, 106, 107, 108, 109, 110, 111, 112] (by decide +kernel) (by decide +kernel)
set_option maxRecDepth 20000 in
theorem gX4_moveSacks_X4_hasSacks : GoodIn wsX4_moveSacks (wsV RX4 253 RX4 yX4_hasSacks wsX4_hasSacks) := goodIn_app (goodIn_of _ (by decide +kernel)) ggX4_moveSacks_X4_hasSacks
set_option maxRecDepth 20000 in
theorem ggX4_moveSacks_X4_refuseSacks : GoodIn wsX4_moveSacks wsX4_refuseSacks := goodIn_r _ [34, 1, 35, 36, 37, 26, 38, 28, 29, 8, 30, 13, 14, 15, 16, 17, 18, 23, 24, 25, 27, 97, 98, 99, 100, 101, 102, 103, 104, 105, 106, 107, 108, 109, 110, 111, 112] (by decide +kernel) (by decide +kernel)
set_option maxRecDepth 20000 in
theorem gX4_moveSacks_X4_refuseSacks : GoodIn wsX4_moveSacks (wsV RX4 256 RX4 yX4_refuseSacks wsX4_refuseSacks) := goodIn_app (goodIn_of _ (by decide +kernel)) ggX4_moveSacks_X4_refuseSacks
set_option maxRecDepth 20000 in
theorem ggX4_moveSacks_X3_kindIn : GoodIn wsX4_moveSacks wsX3_kindIn := goodIn_r _ [42, 43, 29, 8, 30, 107, 108, 109, 110, 111, 112] (by decide +kernel) (by decide +kernel)
set_option maxRecDepth 20000 in
theorem gX4_moveSacks_X3_kindIn : GoodIn wsX4_moveSacks (wsV RX4 93 RX3 yX3_kindIn wsX3_kindIn) := goodIn_app (goodIn_of _ (by decide +kernel)) ggX4_moveSacks_X3_kindIn
set_option maxRecDepth 20000 in
theorem ggX4_moveSacks_X4_hasRoom : GoodIn wsX4_moveSacks wsX4_hasRoom := goodIn_r _ [47, 1, 35, 36, 37, 26, 38, 28, 29, 8, 30, 39, 40, 41, 42, 43, 23, 24, 25, 27, 97, 98, 99, 100, 101, 102, 103, 104, 105, 106, 107, 108, 109, 110, 111, 112] (by decide +kernel) (by decide +kernel)
set_option maxRecDepth 20000 in
theorem gX4_moveSacks_X4_hasRoom : GoodIn wsX4_moveSacks (wsV RX4 165 RX4 yX4_hasRoom wsX4_hasRoom) := goodIn_app (goodIn_of _ (by decide +kernel)) ggX4_moveSacks_X4_hasRoom
set_option maxRecDepth 20000 in
theorem ggX4_moveSacks_X4_refuseRoom : GoodIn wsX4_moveSacks wsX4_refuseRoom := goodIn_r _ [51, 1, 39, 40, 41, 26, 42, 43, 29, 8, 30, 13, 14, 15, 16, 17, 18, 23, 24, 25, 27, 28, 97, 98, 99, 100, 101, 102, 103, 104, 105, 106, 107, 108, 109, 110, 111, 112] (by decide +kernel) (by decide +kernel)
set_option maxRecDepth 20000 in
theorem gX4_moveSacks_X4_refuseRoom : GoodIn wsX4_moveSacks (wsV RX4 242 RX4 yX4_refuseRoom wsX4_refuseRoom) := goodIn_app (goodIn_of _ (by decide +kernel)) ggX4_moveSacks_X4_refuseRoom
set_option maxRecDepth 20000 in
theorem ggX4_moveSacks_X3_ageIn : GoodIn wsX4_moveSacks wsX3_ageIn := goodIn_r _ [55, 56, 29, 8, 30, 107, 108, 109, 110, 111, 112] (by decide +kernel) (by decide +kernel)
set_option maxRecDepth 20000 in
theorem gX4_moveSacks_X3_ageIn : GoodIn wsX4_moveSacks (wsV RX4 99 RX3 yX3_ageIn wsX3_ageIn) := goodIn_app (goodIn_of _ (by decide +kernel)) ggX4_moveSacks_X3_ageIn
set_option maxRecDepth 20000 in
theorem ggX4_moveSacks_X3_remove : GoodIn wsX4_moveSacks wsX3_remove := goodIn_r _ [60, 43, 56, 61, 62, 63, 26, 64, 28, 65, 29, 8, 30, 66, 67, 68, 69, 70, 36, 37, 38, 107, 108, 109, 110, 111, 112] (by decide +kernel) (by decide +kernel)
set_option maxRecDepth 20000 in
theorem gX4_moveSacks_X3_remove : GoodIn wsX4_moveSacks (wsV RX4 259 RX3 yX3_remove wsX3_remove) := goodIn_app (goodIn_of _ (by decide +kernel)) ggX4_moveSacks_X3_remove
set_option maxRecDepth 20000 in
theorem ggX4_moveSacks_X3_count : GoodIn wsX4_moveSacks wsX3_count := goodIn_r _ [74, 75, 29, 8, 30, 66, 67, 107, 108, 109, 110, 111, 112] (by decide +kernel) (by decide +kernel)
set_option maxRecDepth 20000 in
theorem gX4_moveSacks_X3_count : GoodIn wsX4_moveSacks (wsV RX4 245 RX3 yX3_count wsX3_count) := goodIn_app (goodIn_of _ (by decide +kernel)) ggX4_moveSacks_X3_count
set_option maxRecDepth 20000 in
theorem ggX4_moveSacks_X3_bring : GoodIn wsX4_moveSacks wsX3_bring := goodIn_r _ [79, 43, 56, 66, 8, 67, 61, 62, 63, 26, 64, 28, 65, 29, 30, 68, 69, 80, 81, 82, 83, 84, 85, 86, 87, 88, 89, 90, 91, 92, 93, 94, 95, 96, 72, 73, 74, 75, 107, 108, 109, 110, 111, 112] (by decide +kernel) (by decide +kernel)
set_option maxRecDepth 20000 in
theorem gX4_moveSacks_X3_bring : GoodIn wsX4_moveSacks (wsV RX4 249 RX3 yX3_bring wsX3_bring) := goodIn_app (goodIn_of _ (by decide +kernel)) ggX4_moveSacks_X3_bring
theorem dX4_moveSacks_0 : decode cX4_moveSacks 0 = .ok (.iload_n 1, 1) := by decide +kernel
theorem dX4_moveSacks_1 : decode cX4_moveSacks 1 = .ok (.invokestatic 86, 3) := by decide +kernel
theorem dX4_moveSacks_4 : decode cX4_moveSacks 4 = .ok (.ifCond .eq 10, 3) := by decide +kernel
theorem dX4_moveSacks_7 : decode cX4_moveSacks 7 = .ok (.iload_n 2, 1) := by decide +kernel
theorem dX4_moveSacks_8 : decode cX4_moveSacks 8 = .ok (.invokestatic 86, 3) := by decide +kernel
theorem dX4_moveSacks_11 : decode cX4_moveSacks 11 = .ok (.ifCond .ne 6, 3) := by decide +kernel
theorem dX4_moveSacks_14 : decode cX4_moveSacks 14 = .ok (.bipush (-11), 2) := by decide +kernel
theorem dX4_moveSacks_16 : decode cX4_moveSacks 16 = .ok (.ireturn, 1) := by decide +kernel
theorem dX4_moveSacks_17 : decode cX4_moveSacks 17 = .ok (.iload_n 3, 1) := by decide +kernel
theorem dX4_moveSacks_18 : decode cX4_moveSacks 18 = .ok (.iconst 1, 1) := by decide +kernel
theorem dX4_moveSacks_19 : decode cX4_moveSacks 19 = .ok (.sipush 200, 3) := by decide +kernel
theorem dX4_moveSacks_22 : decode cX4_moveSacks 22 = .ok (.invokestatic 138, 3) := by decide +kernel
theorem dX4_moveSacks_25 : decode cX4_moveSacks 25 = .ok (.ifCond .ne 6, 3) := by decide +kernel
theorem dX4_moveSacks_28 : decode cX4_moveSacks 28 = .ok (.bipush (-12), 2) := by decide +kernel
theorem dX4_moveSacks_30 : decode cX4_moveSacks 30 = .ok (.ireturn, 1) := by decide +kernel
theorem dX4_moveSacks_31 : decode cX4_moveSacks 31 = .ok (.iload_n 1, 1) := by decide +kernel
theorem dX4_moveSacks_32 : decode cX4_moveSacks 32 = .ok (.iload_n 2, 1) := by decide +kernel
theorem dX4_moveSacks_33 : decode cX4_moveSacks 33 = .ok (.if_icmp .ne 10, 3) := by decide +kernel
theorem dX4_moveSacks_36 : decode cX4_moveSacks 36 = .ok (.aload_n 0, 1) := by decide +kernel
theorem dX4_moveSacks_37 : decode cX4_moveSacks 37 = .ok (.iconst 4, 1) := by decide +kernel
theorem dX4_moveSacks_38 : decode cX4_moveSacks 38 = .ok (.iload_n 1, 1) := by decide +kernel
theorem dX4_moveSacks_39 : decode cX4_moveSacks 39 = .ok (.invokevirtual 195, 3) := by decide +kernel
theorem dX4_moveSacks_42 : decode cX4_moveSacks 42 = .ok (.ireturn, 1) := by decide +kernel
theorem dX4_moveSacks_43 : decode cX4_moveSacks 43 = .ok (.aload_n 0, 1) := by decide +kernel
theorem dX4_moveSacks_44 : decode cX4_moveSacks 44 = .ok (.iload_n 1, 1) := by decide +kernel
theorem dX4_moveSacks_45 : decode cX4_moveSacks 45 = .ok (.iload_n 3, 1) := by decide +kernel
theorem dX4_moveSacks_46 : decode cX4_moveSacks 46 = .ok (.invokevirtual 253, 3) := by decide +kernel
theorem dX4_moveSacks_49 : decode cX4_moveSacks 49 = .ok (.ifCond .ne 9, 3) := by decide +kernel
theorem dX4_moveSacks_52 : decode cX4_moveSacks 52 = .ok (.aload_n 0, 1) := by decide +kernel
theorem dX4_moveSacks_53 : decode cX4_moveSacks 53 = .ok (.iload_n 1, 1) := by decide +kernel
theorem dX4_moveSacks_54 : decode cX4_moveSacks 54 = .ok (.invokevirtual 256, 3) := by decide +kernel
theorem dX4_moveSacks_57 : decode cX4_moveSacks 57 = .ok (.ireturn, 1) := by decide +kernel
theorem dX4_moveSacks_58 : decode cX4_moveSacks 58 = .ok (.aload_n 0, 1) := by decide +kernel
theorem dX4_moveSacks_59 : decode cX4_moveSacks 59 = .ok (.getfield 10, 3) := by decide +kernel
theorem dX4_moveSacks_62 : decode cX4_moveSacks 62 = .ok (.iload_n 1, 1) := by decide +kernel
theorem dX4_moveSacks_63 : decode cX4_moveSacks 63 = .ok (.invokevirtual 93, 3) := by decide +kernel
theorem dX4_moveSacks_66 : decode cX4_moveSacks 66 = .ok (.istore 4, 2) := by decide +kernel
theorem dX4_moveSacks_68 : decode cX4_moveSacks 68 = .ok (.aload_n 0, 1) := by decide +kernel
theorem dX4_moveSacks_69 : decode cX4_moveSacks 69 = .ok (.iload_n 2, 1) := by decide +kernel
theorem dX4_moveSacks_70 : decode cX4_moveSacks 70 = .ok (.iload 4, 2) := by decide +kernel
theorem dX4_moveSacks_72 : decode cX4_moveSacks 72 = .ok (.iload_n 3, 1) := by decide +kernel
theorem dX4_moveSacks_73 : decode cX4_moveSacks 73 = .ok (.invokevirtual 165, 3) := by decide +kernel
theorem dX4_moveSacks_76 : decode cX4_moveSacks 76 = .ok (.ifCond .ne 12, 3) := by decide +kernel
theorem dX4_moveSacks_79 : decode cX4_moveSacks 79 = .ok (.aload_n 0, 1) := by decide +kernel
theorem dX4_moveSacks_80 : decode cX4_moveSacks 80 = .ok (.iload_n 2, 1) := by decide +kernel
theorem dX4_moveSacks_81 : decode cX4_moveSacks 81 = .ok (.iload 4, 2) := by decide +kernel
theorem dX4_moveSacks_83 : decode cX4_moveSacks 83 = .ok (.iload_n 3, 1) := by decide +kernel
theorem dX4_moveSacks_84 : decode cX4_moveSacks 84 = .ok (.invokevirtual 242, 3) := by decide +kernel
theorem dX4_moveSacks_87 : decode cX4_moveSacks 87 = .ok (.ireturn, 1) := by decide +kernel
theorem dX4_moveSacks_88 : decode cX4_moveSacks 88 = .ok (.aload_n 0, 1) := by decide +kernel
theorem dX4_moveSacks_89 : decode cX4_moveSacks 89 = .ok (.getfield 10, 3) := by decide +kernel
theorem dX4_moveSacks_92 : decode cX4_moveSacks 92 = .ok (.iload_n 1, 1) := by decide +kernel
theorem dX4_moveSacks_93 : decode cX4_moveSacks 93 = .ok (.invokevirtual 99, 3) := by decide +kernel
theorem dX4_moveSacks_96 : decode cX4_moveSacks 96 = .ok (.aload_n 0, 1) := by decide +kernel
theorem dX4_moveSacks_97 : decode cX4_moveSacks 97 = .ok (.getfield 10, 3) := by decide +kernel
theorem dX4_moveSacks_100 : decode cX4_moveSacks 100 = .ok (.iload_n 2, 1) := by decide +kernel
theorem dX4_moveSacks_101 : decode cX4_moveSacks 101 = .ok (.invokevirtual 99, 3) := by decide +kernel
theorem dX4_moveSacks_104 : decode cX4_moveSacks 104 = .ok (.invokestatic 262, 3) := by decide +kernel
theorem dX4_moveSacks_107 : decode cX4_moveSacks 107 = .ok (.istore 5, 2) := by decide +kernel
theorem dX4_moveSacks_109 : decode cX4_moveSacks 109 = .ok (.aload_n 0, 1) := by decide +kernel
theorem dX4_moveSacks_110 : decode cX4_moveSacks 110 = .ok (.getfield 10, 3) := by decide +kernel
theorem dX4_moveSacks_113 : decode cX4_moveSacks 113 = .ok (.iload_n 1, 1) := by decide +kernel
theorem dX4_moveSacks_114 : decode cX4_moveSacks 114 = .ok (.iload_n 3, 1) := by decide +kernel
theorem dX4_moveSacks_115 : decode cX4_moveSacks 115 = .ok (.invokevirtual 259, 3) := by decide +kernel
theorem dX4_moveSacks_118 : decode cX4_moveSacks 118 = .ok (.aload_n 0, 1) := by decide +kernel
theorem dX4_moveSacks_119 : decode cX4_moveSacks 119 = .ok (.getfield 10, 3) := by decide +kernel
theorem dX4_moveSacks_122 : decode cX4_moveSacks 122 = .ok (.bipush 12, 2) := by decide +kernel
theorem dX4_moveSacks_124 : decode cX4_moveSacks 124 = .ok (.iload_n 3, 1) := by decide +kernel
theorem dX4_moveSacks_125 : decode cX4_moveSacks 125 = .ok (.invokevirtual 245, 3) := by decide +kernel
theorem dX4_moveSacks_128 : decode cX4_moveSacks 128 = .ok (.aload_n 0, 1) := by decide +kernel
theorem dX4_moveSacks_129 : decode cX4_moveSacks 129 = .ok (.getfield 10, 3) := by decide +kernel
theorem dX4_moveSacks_132 : decode cX4_moveSacks 132 = .ok (.iload_n 2, 1) := by decide +kernel
theorem dX4_moveSacks_133 : decode cX4_moveSacks 133 = .ok (.iload 4, 2) := by decide +kernel
theorem dX4_moveSacks_135 : decode cX4_moveSacks 135 = .ok (.iload_n 3, 1) := by decide +kernel
theorem dX4_moveSacks_136 : decode cX4_moveSacks 136 = .ok (.iload 5, 2) := by decide +kernel
theorem dX4_moveSacks_138 : decode cX4_moveSacks 138 = .ok (.invokevirtual 249, 3) := by decide +kernel
theorem dX4_moveSacks_141 : decode cX4_moveSacks 141 = .ok (.ireturn, 1) := by decide +kernel
set_option maxRecDepth 20000 in
theorem ggX4_fillOrder_X4_isKind : GoodIn wsX4_fillOrder wsX4_isKind := goodIn_r _ [9, 10, 11, 8, 12] (by decide +kernel) (by decide +kernel)
set_option maxRecDepth 20000 in
theorem gX4_fillOrder_X4_isKind : GoodIn wsX4_fillOrder (va_wsS RX4 162 yX4_isKind wsX4_isKind) := goodIn_app (goodIn_of _ (by decide +kernel)) ggX4_fillOrder_X4_isKind
set_option maxRecDepth 20000 in
theorem ggX4_fillOrder_X4_isWithin : GoodIn wsX4_fillOrder wsX4_isWithin := goodIn_r _ [12] (by decide +kernel) (by decide +kernel)
set_option maxRecDepth 20000 in
theorem gX4_fillOrder_X4_isWithin : GoodIn wsX4_fillOrder (va_wsS RX4 138 yX4_isWithin wsX4_isWithin) := goodIn_app (goodIn_of _ (by decide +kernel)) ggX4_fillOrder_X4_isWithin
set_option maxRecDepth 20000 in
theorem ggX4_fillOrder_X3_sacksOfKind : GoodIn wsX4_fillOrder wsX3_sacksOfKind := goodIn_r _ [17, 18, 19, 20, 16, 21, 22, 23, 8, 24, 25, 26, 27, 28, 29, 81, 82, 83, 84, 85, 86] (by decide +kernel) (by decide +kernel)
set_option maxRecDepth 20000 in
theorem gX4_fillOrder_X3_sacksOfKind : GoodIn wsX4_fillOrder (wsV RX4 224 RX3 yX3_sacksOfKind wsX3_sacksOfKind) := goodIn_app (goodIn_of _ (by decide +kernel)) ggX4_fillOrder_X3_sacksOfKind
set_option maxRecDepth 20000 in
theorem ggX4_fillOrder_X4_refuse : GoodIn wsX4_fillOrder wsX4_refuse := goodIn_r _ [33, 34, 35, 71, 72, 73, 74, 75, 76, 77, 78, 79, 80] (by decide +kernel) (by decide +kernel)
set_option maxRecDepth 20000 in
theorem gX4_fillOrder_X4_refuse : GoodIn wsX4_fillOrder (wsV RX4 195 RX4 yX4_refuse wsX4_refuse) := goodIn_app (goodIn_of _ (by decide +kernel)) ggX4_fillOrder_X4_refuse
set_option maxRecDepth 20000 in
theorem ggX4_fillOrder_X3_oldestOfKind : GoodIn wsX4_fillOrder wsX3_oldestOfKind := goodIn_r _ [39, 40, 41, 42, 16, 43, 29, 23, 8, 24, 18, 19, 20, 21, 22, 44, 45, 46, 47, 48, 81, 82, 83, 84, 85, 86] (by decide +kernel) (by decide +kernel)
set_option maxRecDepth 20000 in
theorem gX4_fillOrder_X3_oldestOfKind : GoodIn wsX4_fillOrder (wsV RX4 267 RX3 yX3_oldestOfKind wsX3_oldestOfKind) := goodIn_app (goodIn_of _ (by decide +kernel)) ggX4_fillOrder_X3_oldestOfKind
set_option maxRecDepth 20000 in
theorem ggX4_fillOrder_X3_sacksIn : GoodIn wsX4_fillOrder wsX3_sacksIn := goodIn_r _ [28, 29, 23, 8, 24, 81, 82, 83, 84, 85, 86] (by decide +kernel) (by decide +kernel)
set_option maxRecDepth 20000 in
theorem gX4_fillOrder_X3_sacksIn : GoodIn wsX4_fillOrder (wsV RX4 96 RX3 yX3_sacksIn wsX3_sacksIn) := goodIn_app (goodIn_of _ (by decide +kernel)) ggX4_fillOrder_X3_sacksIn
set_option maxRecDepth 20000 in
theorem ggX4_fillOrder_X3_remove : GoodIn wsX4_fillOrder wsX3_remove := goodIn_r _ [53, 22, 48, 54, 55, 56, 16, 57, 29, 58, 23, 8, 24, 59, 60, 61, 62, 40, 41, 42, 43, 81, 82, 83, 84, 85, 86] (by decide +kernel) (by decide +kernel)
set_option maxRecDepth 20000 in
theorem gX4_fillOrder_X3_remove : GoodIn wsX4_fillOrder (wsV RX4 259 RX3 yX3_remove wsX3_remove) := goodIn_app (goodIn_of _ (by decide +kernel)) ggX4_fillOrder_X3_remove
set_option maxRecDepth 20000 in
theorem ggX4_fillOrder_X3_count : GoodIn wsX4_fillOrder wsX3_count := goodIn_r _ [66, 67, 23, 8, 24, 59, 60, 81, 82, 83, 84, 85, 86] (by decide +kernel) (by decide +kernel)
set_option maxRecDepth 20000 in
theorem gX4_fillOrder_X3_count : GoodIn wsX4_fillOrder (wsV RX4 245 RX3 yX3_count wsX3_count) := goodIn_app (goodIn_of _ (by decide +kernel)) ggX4_fillOrder_X3_count
set_option maxRecDepth 20000 in
theorem ggX4_fillOrder_X4_coinsFor : GoodIn wsX4_fillOrder wsX4_coinsFor := goodIn_r _ [70] (by decide +kernel) (by decide +kernel)
set_option maxRecDepth 20000 in
theorem gX4_fillOrder_X4_coinsFor : GoodIn wsX4_fillOrder (va_wsS RX4 172 yX4_coinsFor wsX4_coinsFor) := goodIn_app (goodIn_of _ (by decide +kernel)) ggX4_fillOrder_X4_coinsFor
theorem dX4_fillOrder_0 : decode cX4_fillOrder 0 = .ok (.iload_n 1, 1) := by decide +kernel
theorem dX4_fillOrder_1 : decode cX4_fillOrder 1 = .ok (.invokestatic 162, 3) := by decide +kernel
theorem dX4_fillOrder_4 : decode cX4_fillOrder 4 = .ok (.ifCond .eq 14, 3) := by decide +kernel
theorem dX4_fillOrder_7 : decode cX4_fillOrder 7 = .ok (.iload_n 2, 1) := by decide +kernel
theorem dX4_fillOrder_8 : decode cX4_fillOrder 8 = .ok (.iconst 1, 1) := by decide +kernel
theorem dX4_fillOrder_9 : decode cX4_fillOrder 9 = .ok (.sipush 999, 3) := by decide +kernel
theorem dX4_fillOrder_12 : decode cX4_fillOrder 12 = .ok (.invokestatic 138, 3) := by decide +kernel
theorem dX4_fillOrder_15 : decode cX4_fillOrder 15 = .ok (.ifCond .ne 6, 3) := by decide +kernel
theorem dX4_fillOrder_18 : decode cX4_fillOrder 18 = .ok (.bipush (-12), 2) := by decide +kernel
theorem dX4_fillOrder_20 : decode cX4_fillOrder 20 = .ok (.ireturn, 1) := by decide +kernel
theorem dX4_fillOrder_21 : decode cX4_fillOrder 21 = .ok (.aload_n 0, 1) := by decide +kernel
theorem dX4_fillOrder_22 : decode cX4_fillOrder 22 = .ok (.getfield 10, 3) := by decide +kernel
theorem dX4_fillOrder_25 : decode cX4_fillOrder 25 = .ok (.iload_n 1, 1) := by decide +kernel
theorem dX4_fillOrder_26 : decode cX4_fillOrder 26 = .ok (.invokevirtual 224, 3) := by decide +kernel
theorem dX4_fillOrder_29 : decode cX4_fillOrder 29 = .ok (.istore_n 3, 1) := by decide +kernel
theorem dX4_fillOrder_30 : decode cX4_fillOrder 30 = .ok (.iload_n 3, 1) := by decide +kernel
theorem dX4_fillOrder_31 : decode cX4_fillOrder 31 = .ok (.iload_n 2, 1) := by decide +kernel
theorem dX4_fillOrder_32 : decode cX4_fillOrder 32 = .ok (.if_icmp .ge 10, 3) := by decide +kernel
theorem dX4_fillOrder_35 : decode cX4_fillOrder 35 = .ok (.aload_n 0, 1) := by decide +kernel
theorem dX4_fillOrder_36 : decode cX4_fillOrder 36 = .ok (.iconst 3, 1) := by decide +kernel
theorem dX4_fillOrder_37 : decode cX4_fillOrder 37 = .ok (.iload_n 3, 1) := by decide +kernel
theorem dX4_fillOrder_38 : decode cX4_fillOrder 38 = .ok (.invokevirtual 195, 3) := by decide +kernel
theorem dX4_fillOrder_41 : decode cX4_fillOrder 41 = .ok (.ireturn, 1) := by decide +kernel
theorem dX4_fillOrder_42 : decode cX4_fillOrder 42 = .ok (.iload_n 2, 1) := by decide +kernel
theorem dX4_fillOrder_43 : decode cX4_fillOrder 43 = .ok (.istore 4, 2) := by decide +kernel
theorem dX4_fillOrder_45 : decode cX4_fillOrder 45 = .ok (.iconst 0, 1) := by decide +kernel
theorem dX4_fillOrder_46 : decode cX4_fillOrder 46 = .ok (.istore 5, 2) := by decide +kernel
theorem dX4_fillOrder_48 : decode cX4_fillOrder 48 = .ok (.iload 5, 2) := by decide +kernel
theorem dX4_fillOrder_50 : decode cX4_fillOrder 50 = .ok (.bipush 32, 2) := by decide +kernel
theorem dX4_fillOrder_52 : decode cX4_fillOrder 52 = .ok (.if_icmp .ge 58, 3) := by decide +kernel
theorem dX4_fillOrder_55 : decode cX4_fillOrder 55 = .ok (.iload 4, 2) := by decide +kernel
theorem dX4_fillOrder_57 : decode cX4_fillOrder 57 = .ok (.ifCond .le 53, 3) := by decide +kernel
theorem dX4_fillOrder_60 : decode cX4_fillOrder 60 = .ok (.aload_n 0, 1) := by decide +kernel
theorem dX4_fillOrder_61 : decode cX4_fillOrder 61 = .ok (.getfield 10, 3) := by decide +kernel
theorem dX4_fillOrder_64 : decode cX4_fillOrder 64 = .ok (.iload_n 1, 1) := by decide +kernel
theorem dX4_fillOrder_65 : decode cX4_fillOrder 65 = .ok (.invokevirtual 267, 3) := by decide +kernel
theorem dX4_fillOrder_68 : decode cX4_fillOrder 68 = .ok (.istore 6, 2) := by decide +kernel
theorem dX4_fillOrder_70 : decode cX4_fillOrder 70 = .ok (.iload 4, 2) := by decide +kernel
theorem dX4_fillOrder_72 : decode cX4_fillOrder 72 = .ok (.aload_n 0, 1) := by decide +kernel
theorem dX4_fillOrder_73 : decode cX4_fillOrder 73 = .ok (.getfield 10, 3) := by decide +kernel
theorem dX4_fillOrder_76 : decode cX4_fillOrder 76 = .ok (.iload 6, 2) := by decide +kernel
theorem dX4_fillOrder_78 : decode cX4_fillOrder 78 = .ok (.invokevirtual 96, 3) := by decide +kernel
theorem dX4_fillOrder_81 : decode cX4_fillOrder 81 = .ok (.invokestatic 270, 3) := by decide +kernel
theorem dX4_fillOrder_84 : decode cX4_fillOrder 84 = .ok (.istore 7, 2) := by decide +kernel
theorem dX4_fillOrder_86 : decode cX4_fillOrder 86 = .ok (.aload_n 0, 1) := by decide +kernel
theorem dX4_fillOrder_87 : decode cX4_fillOrder 87 = .ok (.getfield 10, 3) := by decide +kernel
theorem dX4_fillOrder_90 : decode cX4_fillOrder 90 = .ok (.iload 6, 2) := by decide +kernel
theorem dX4_fillOrder_92 : decode cX4_fillOrder 92 = .ok (.iload 7, 2) := by decide +kernel
theorem dX4_fillOrder_94 : decode cX4_fillOrder 94 = .ok (.invokevirtual 259, 3) := by decide +kernel
theorem dX4_fillOrder_97 : decode cX4_fillOrder 97 = .ok (.iload 4, 2) := by decide +kernel
theorem dX4_fillOrder_99 : decode cX4_fillOrder 99 = .ok (.iload 7, 2) := by decide +kernel
theorem dX4_fillOrder_101 : decode cX4_fillOrder 101 = .ok (.isub, 1) := by decide +kernel
theorem dX4_fillOrder_102 : decode cX4_fillOrder 102 = .ok (.istore 4, 2) := by decide +kernel
theorem dX4_fillOrder_104 : decode cX4_fillOrder 104 = .ok (.iinc 5 1, 3) := by decide +kernel
theorem dX4_fillOrder_107 : decode cX4_fillOrder 107 = .ok (.goto (-59), 3) := by decide +kernel
theorem dX4_fillOrder_110 : decode cX4_fillOrder 110 = .ok (.aload_n 0, 1) := by decide +kernel
theorem dX4_fillOrder_111 : decode cX4_fillOrder 111 = .ok (.getfield 10, 3) := by decide +kernel
theorem dX4_fillOrder_114 : decode cX4_fillOrder 114 = .ok (.bipush 10, 2) := by decide +kernel
theorem dX4_fillOrder_116 : decode cX4_fillOrder 116 = .ok (.iload_n 2, 1) := by decide +kernel
theorem dX4_fillOrder_117 : decode cX4_fillOrder 117 = .ok (.invokevirtual 245, 3) := by decide +kernel
theorem dX4_fillOrder_120 : decode cX4_fillOrder 120 = .ok (.aload_n 0, 1) := by decide +kernel
theorem dX4_fillOrder_121 : decode cX4_fillOrder 121 = .ok (.getfield 10, 3) := by decide +kernel
theorem dX4_fillOrder_124 : decode cX4_fillOrder 124 = .ok (.iconst 1, 1) := by decide +kernel
theorem dX4_fillOrder_125 : decode cX4_fillOrder 125 = .ok (.iload_n 1, 1) := by decide +kernel
theorem dX4_fillOrder_126 : decode cX4_fillOrder 126 = .ok (.iload_n 2, 1) := by decide +kernel
theorem dX4_fillOrder_127 : decode cX4_fillOrder 127 = .ok (.invokestatic 172, 3) := by decide +kernel
theorem dX4_fillOrder_130 : decode cX4_fillOrder 130 = .ok (.invokevirtual 245, 3) := by decide +kernel
theorem dX4_fillOrder_133 : decode cX4_fillOrder 133 = .ok (.iload_n 1, 1) := by decide +kernel
theorem dX4_fillOrder_134 : decode cX4_fillOrder 134 = .ok (.iload_n 2, 1) := by decide +kernel
theorem dX4_fillOrder_135 : decode cX4_fillOrder 135 = .ok (.invokestatic 172, 3) := by decide +kernel
theorem dX4_fillOrder_138 : decode cX4_fillOrder 138 = .ok (.ireturn, 1) := by decide +kernel
set_option maxRecDepth 20000 in
theorem ggX4_mend_X4_isRung : GoodIn wsX4_mend wsX4_isRung := goodIn_r _ [5, 6, 7, 4, 8] (by decide +kernel) (by decide +kernel)
set_option maxRecDepth 20000 in
theorem gX4_mend_X4_isRung : GoodIn wsX4_mend (va_wsS RX4 111 yX4_isRung wsX4_isRung) := goodIn_app (goodIn_of _ (by decide +kernel)) ggX4_mend_X4_isRung
set_option maxRecDepth 20000 in
theorem ggX4_mend_X3_isCracked : GoodIn wsX4_mend wsX3_isCracked := goodIn_r _ [13, 14, 15, 4, 16, 59, 60, 61, 62, 63, 64] (by decide +kernel) (by decide +kernel)
set_option maxRecDepth 20000 in
theorem gX4_mend_X3_isCracked : GoodIn wsX4_mend (wsV RX4 123 RX3 yX3_isCracked wsX3_isCracked) := goodIn_app (goodIn_of _ (by decide +kernel)) ggX4_mend_X3_isCracked
set_option maxRecDepth 20000 in
theorem ggX4_mend_X4_refuse : GoodIn wsX4_mend wsX4_refuse := goodIn_r _ [20, 21, 22, 49, 50, 51, 52, 53, 54, 55, 56, 57, 58] (by decide +kernel) (by decide +kernel)
set_option maxRecDepth 20000 in
theorem gX4_mend_X4_refuse : GoodIn wsX4_mend (wsV RX4 195 RX4 yX4_refuse wsX4_refuse) := goodIn_app (goodIn_of _ (by decide +kernel)) ggX4_mend_X4_refuse
set_option maxRecDepth 20000 in
theorem ggX4_mend_X3_sumOf : GoodIn wsX4_mend wsX3_sumOf := goodIn_r _ [26, 27, 15, 4, 16, 59, 60, 61, 62, 63, 64] (by decide +kernel) (by decide +kernel)
set_option maxRecDepth 20000 in
theorem gX4_mend_X3_sumOf : GoodIn wsX4_mend (wsV RX4 117 RX3 yX3_sumOf wsX3_sumOf) := goodIn_app (goodIn_of _ (by decide +kernel)) ggX4_mend_X3_sumOf
set_option maxRecDepth 20000 in
theorem ggX4_mend_X4_loadOf : GoodIn wsX4_mend wsX4_loadOf := goodIn_r _ [30, 31, 32, 4, 33] (by decide +kernel) (by decide +kernel)
set_option maxRecDepth 20000 in
theorem gX4_mend_X4_loadOf : GoodIn wsX4_mend (va_wsS RX4 120 yX4_loadOf wsX4_loadOf) := goodIn_app (goodIn_of _ (by decide +kernel)) ggX4_mend_X4_loadOf
set_option maxRecDepth 20000 in
theorem ggX4_mend_X4_sizeOf : GoodIn wsX4_mend wsX4_sizeOf := goodIn_r _ [33] (by decide +kernel) (by decide +kernel)
set_option maxRecDepth 20000 in
theorem gX4_mend_X4_sizeOf : GoodIn wsX4_mend (va_wsS RX4 114 yX4_sizeOf wsX4_sizeOf) := goodIn_app (goodIn_of _ (by decide +kernel)) ggX4_mend_X4_sizeOf
set_option maxRecDepth 20000 in
theorem ggX4_mend_X3_counted : GoodIn wsX4_mend wsX3_counted := goodIn_r _ [37, 38, 15, 4, 16, 59, 60, 61, 62, 63, 64] (by decide +kernel) (by decide +kernel)
set_option maxRecDepth 20000 in
theorem gX4_mend_X3_counted : GoodIn wsX4_mend (wsV RX4 232 RX3 yX3_counted wsX3_counted) := goodIn_app (goodIn_of _ (by decide +kernel)) ggX4_mend_X3_counted
set_option maxRecDepth 20000 in
theorem ggX4_mend_X3_makeSound : GoodIn wsX4_mend wsX3_makeSound := goodIn_r _ [42, 14, 43, 4, 44, 59, 60, 61, 62, 63, 64] (by decide +kernel) (by decide +kernel)
set_option maxRecDepth 20000 in
theorem gX4_mend_X3_makeSound : GoodIn wsX4_mend (wsV RX4 273 RX3 yX3_makeSound wsX3_makeSound) := goodIn_app (goodIn_of _ (by decide +kernel)) ggX4_mend_X3_makeSound
set_option maxRecDepth 20000 in
theorem ggX4_mend_X3_count : GoodIn wsX4_mend wsX3_count := goodIn_r _ [48, 38, 15, 4, 16, 43, 44, 59, 60, 61, 62, 63, 64] (by decide +kernel) (by decide +kernel)
set_option maxRecDepth 20000 in
theorem gX4_mend_X3_count : GoodIn wsX4_mend (wsV RX4 245 RX3 yX3_count wsX3_count) := goodIn_app (goodIn_of _ (by decide +kernel)) ggX4_mend_X3_count
theorem dX4_mend_0 : decode cX4_mend 0 = .ok (.iload_n 1, 1) := by decide +kernel
theorem dX4_mend_1 : decode cX4_mend 1 = .ok (.invokestatic 111, 3) := by decide +kernel
theorem dX4_mend_4 : decode cX4_mend 4 = .ok (.ifCond .ne 6, 3) := by decide +kernel
theorem dX4_mend_7 : decode cX4_mend 7 = .ok (.bipush (-11), 2) := by decide +kernel
theorem dX4_mend_9 : decode cX4_mend 9 = .ok (.ireturn, 1) := by decide +kernel
theorem dX4_mend_10 : decode cX4_mend 10 = .ok (.aload_n 0, 1) := by decide +kernel
theorem dX4_mend_11 : decode cX4_mend 11 = .ok (.getfield 10, 3) := by decide +kernel
theorem dX4_mend_14 : decode cX4_mend 14 = .ok (.iload_n 1, 1) := by decide +kernel
theorem dX4_mend_15 : decode cX4_mend 15 = .ok (.invokevirtual 123, 3) := by decide +kernel
theorem dX4_mend_18 : decode cX4_mend 18 = .ok (.ifCond .ne 11, 3) := by decide +kernel
theorem dX4_mend_21 : decode cX4_mend 21 = .ok (.aload_n 0, 1) := by decide +kernel
theorem dX4_mend_22 : decode cX4_mend 22 = .ok (.bipush 6, 2) := by decide +kernel
theorem dX4_mend_24 : decode cX4_mend 24 = .ok (.iload_n 1, 1) := by decide +kernel
theorem dX4_mend_25 : decode cX4_mend 25 = .ok (.invokevirtual 195, 3) := by decide +kernel
theorem dX4_mend_28 : decode cX4_mend 28 = .ok (.ireturn, 1) := by decide +kernel
theorem dX4_mend_29 : decode cX4_mend 29 = .ok (.aload_n 0, 1) := by decide +kernel
theorem dX4_mend_30 : decode cX4_mend 30 = .ok (.getfield 10, 3) := by decide +kernel
theorem dX4_mend_33 : decode cX4_mend 33 = .ok (.iload_n 1, 1) := by decide +kernel
theorem dX4_mend_34 : decode cX4_mend 34 = .ok (.invokevirtual 117, 3) := by decide +kernel
theorem dX4_mend_37 : decode cX4_mend 37 = .ok (.iload_n 1, 1) := by decide +kernel
theorem dX4_mend_38 : decode cX4_mend 38 = .ok (.invokestatic 120, 3) := by decide +kernel
theorem dX4_mend_41 : decode cX4_mend 41 = .ok (.if_icmp .le 23, 3) := by decide +kernel
theorem dX4_mend_44 : decode cX4_mend 44 = .ok (.aload_n 0, 1) := by decide +kernel
theorem dX4_mend_45 : decode cX4_mend 45 = .ok (.bipush 7, 2) := by decide +kernel
theorem dX4_mend_47 : decode cX4_mend 47 = .ok (.aload_n 0, 1) := by decide +kernel
theorem dX4_mend_48 : decode cX4_mend 48 = .ok (.getfield 10, 3) := by decide +kernel
theorem dX4_mend_51 : decode cX4_mend 51 = .ok (.iload_n 1, 1) := by decide +kernel
theorem dX4_mend_52 : decode cX4_mend 52 = .ok (.invokevirtual 117, 3) := by decide +kernel
theorem dX4_mend_55 : decode cX4_mend 55 = .ok (.iload_n 1, 1) := by decide +kernel
theorem dX4_mend_56 : decode cX4_mend 56 = .ok (.invokestatic 120, 3) := by decide +kernel
theorem dX4_mend_59 : decode cX4_mend 59 = .ok (.isub, 1) := by decide +kernel
theorem dX4_mend_60 : decode cX4_mend 60 = .ok (.invokevirtual 195, 3) := by decide +kernel
theorem dX4_mend_63 : decode cX4_mend 63 = .ok (.ireturn, 1) := by decide +kernel
theorem dX4_mend_64 : decode cX4_mend 64 = .ok (.iload_n 1, 1) := by decide +kernel
theorem dX4_mend_65 : decode cX4_mend 65 = .ok (.invokestatic 114, 3) := by decide +kernel
theorem dX4_mend_68 : decode cX4_mend 68 = .ok (.iconst 1, 1) := by decide +kernel
theorem dX4_mend_69 : decode cX4_mend 69 = .ok (.iadd, 1) := by decide +kernel
theorem dX4_mend_70 : decode cX4_mend 70 = .ok (.istore_n 2, 1) := by decide +kernel
theorem dX4_mend_71 : decode cX4_mend 71 = .ok (.aload_n 0, 1) := by decide +kernel
theorem dX4_mend_72 : decode cX4_mend 72 = .ok (.getfield 10, 3) := by decide +kernel
theorem dX4_mend_75 : decode cX4_mend 75 = .ok (.iconst 1, 1) := by decide +kernel
theorem dX4_mend_76 : decode cX4_mend 76 = .ok (.invokevirtual 232, 3) := by decide +kernel
theorem dX4_mend_79 : decode cX4_mend 79 = .ok (.iload_n 2, 1) := by decide +kernel
theorem dX4_mend_80 : decode cX4_mend 80 = .ok (.if_icmp .ge 19, 3) := by decide +kernel
theorem dX4_mend_83 : decode cX4_mend 83 = .ok (.aload_n 0, 1) := by decide +kernel
theorem dX4_mend_84 : decode cX4_mend 84 = .ok (.iconst 5, 1) := by decide +kernel
theorem dX4_mend_85 : decode cX4_mend 85 = .ok (.iload_n 2, 1) := by decide +kernel
theorem dX4_mend_86 : decode cX4_mend 86 = .ok (.aload_n 0, 1) := by decide +kernel
theorem dX4_mend_87 : decode cX4_mend 87 = .ok (.getfield 10, 3) := by decide +kernel
theorem dX4_mend_90 : decode cX4_mend 90 = .ok (.iconst 1, 1) := by decide +kernel
theorem dX4_mend_91 : decode cX4_mend 91 = .ok (.invokevirtual 232, 3) := by decide +kernel
theorem dX4_mend_94 : decode cX4_mend 94 = .ok (.isub, 1) := by decide +kernel
theorem dX4_mend_95 : decode cX4_mend 95 = .ok (.invokevirtual 195, 3) := by decide +kernel
theorem dX4_mend_98 : decode cX4_mend 98 = .ok (.ireturn, 1) := by decide +kernel
theorem dX4_mend_99 : decode cX4_mend 99 = .ok (.aload_n 0, 1) := by decide +kernel
theorem dX4_mend_100 : decode cX4_mend 100 = .ok (.getfield 10, 3) := by decide +kernel
theorem dX4_mend_103 : decode cX4_mend 103 = .ok (.iload_n 1, 1) := by decide +kernel
theorem dX4_mend_104 : decode cX4_mend 104 = .ok (.invokevirtual 273, 3) := by decide +kernel
theorem dX4_mend_107 : decode cX4_mend 107 = .ok (.aload_n 0, 1) := by decide +kernel
theorem dX4_mend_108 : decode cX4_mend 108 = .ok (.getfield 10, 3) := by decide +kernel
theorem dX4_mend_111 : decode cX4_mend 111 = .ok (.iconst 1, 1) := by decide +kernel
theorem dX4_mend_112 : decode cX4_mend 112 = .ok (.iload_n 2, 1) := by decide +kernel
theorem dX4_mend_113 : decode cX4_mend 113 = .ok (.ineg, 1) := by decide +kernel
theorem dX4_mend_114 : decode cX4_mend 114 = .ok (.invokevirtual 245, 3) := by decide +kernel
theorem dX4_mend_117 : decode cX4_mend 117 = .ok (.aload_n 0, 1) := by decide +kernel
theorem dX4_mend_118 : decode cX4_mend 118 = .ok (.getfield 10, 3) := by decide +kernel
theorem dX4_mend_121 : decode cX4_mend 121 = .ok (.bipush 15, 2) := by decide +kernel
theorem dX4_mend_123 : decode cX4_mend 123 = .ok (.iload_n 2, 1) := by decide +kernel
theorem dX4_mend_124 : decode cX4_mend 124 = .ok (.invokevirtual 245, 3) := by decide +kernel
theorem dX4_mend_127 : decode cX4_mend 127 = .ok (.aload_n 0, 1) := by decide +kernel
theorem dX4_mend_128 : decode cX4_mend 128 = .ok (.getfield 10, 3) := by decide +kernel
theorem dX4_mend_131 : decode cX4_mend 131 = .ok (.iconst 1, 1) := by decide +kernel
theorem dX4_mend_132 : decode cX4_mend 132 = .ok (.invokevirtual 232, 3) := by decide +kernel
theorem dX4_mend_135 : decode cX4_mend 135 = .ok (.ireturn, 1) := by decide +kernel
set_option maxRecDepth 20000 in
theorem ggX4_letWeeksPass_X4_isWithin : GoodIn wsX4_letWeeksPass wsX4_isWithin := goodIn_r _ [5] (by decide +kernel) (by decide +kernel)
set_option maxRecDepth 20000 in
theorem gX4_letWeeksPass_X4_isWithin : GoodIn wsX4_letWeeksPass (va_wsS RX4 138 yX4_isWithin wsX4_isWithin) := goodIn_app (goodIn_of _ (by decide +kernel)) ggX4_letWeeksPass_X4_isWithin
set_option maxRecDepth 20000 in
theorem ggX4_letWeeksPass_X3_growOlder : GoodIn wsX4_letWeeksPass wsX3_growOlder := goodIn_r _ [10, 11, 12, 13, 14, 9, 15, 16, 17, 4, 18, 19, 20, 21, 22, 23, 24, 25, 26, 27, 28, 29, 30, 31, 32, 33, 34, 35, 36, 37, 38, 39, 40, 41, 42, 43, 44, 45, 46, 47, 48, 64, 65, 66, 67, 68, 69] (by decide +kernel) (by decide +kernel)
set_option maxRecDepth 20000 in
theorem gX4_letWeeksPass_X3_growOlder : GoodIn wsX4_letWeeksPass (wsV RX4 276 RX3 yX3_growOlder wsX3_growOlder) := goodIn_app (goodIn_of _ (by decide +kernel)) ggX4_letWeeksPass_X3_growOlder
set_option maxRecDepth 20000 in
theorem ggX4_letWeeksPass_X3_count : GoodIn wsX4_letWeeksPass wsX3_count := goodIn_r _ [52, 53, 17, 4, 18, 23, 24, 64, 65, 66, 67, 68, 69] (by decide +kernel) (by decide +kernel)
set_option maxRecDepth 20000 in
theorem gX4_letWeeksPass_X3_count : GoodIn wsX4_letWeeksPass (wsV RX4 245 RX3 yX3_count wsX3_count) := goodIn_app (goodIn_of _ (by decide +kernel)) ggX4_letWeeksPass_X3_count
theorem dX4_letWeeksPass_0 : decode cX4_letWeeksPass 0 = .ok (.iload_n 1, 1) := by decide +kernel
theorem dX4_letWeeksPass_1 : decode cX4_letWeeksPass 1 = .ok (.iconst 1, 1) := by decide +kernel
theorem dX4_letWeeksPass_2 : decode cX4_letWeeksPass 2 = .ok (.bipush 52, 2) := by decide +kernel
theorem dX4_letWeeksPass_4 : decode cX4_letWeeksPass 4 = .ok (.invokestatic 138, 3) := by decide +kernel
theorem dX4_letWeeksPass_7 : decode cX4_letWeeksPass 7 = .ok (.ifCond .ne 6, 3) := by decide +kernel
theorem dX4_letWeeksPass_10 : decode cX4_letWeeksPass 10 = .ok (.bipush (-12), 2) := by decide +kernel
theorem dX4_letWeeksPass_12 : decode cX4_letWeeksPass 12 = .ok (.ireturn, 1) := by decide +kernel
theorem dX4_letWeeksPass_13 : decode cX4_letWeeksPass 13 = .ok (.iconst 0, 1) := by decide +kernel
theorem dX4_letWeeksPass_14 : decode cX4_letWeeksPass 14 = .ok (.istore_n 2, 1) := by decide +kernel
theorem dX4_letWeeksPass_15 : decode cX4_letWeeksPass 15 = .ok (.iconst 0, 1) := by decide +kernel
theorem dX4_letWeeksPass_16 : decode cX4_letWeeksPass 16 = .ok (.istore_n 3, 1) := by decide +kernel
theorem dX4_letWeeksPass_17 : decode cX4_letWeeksPass 17 = .ok (.iload_n 3, 1) := by decide +kernel
theorem dX4_letWeeksPass_18 : decode cX4_letWeeksPass 18 = .ok (.iload_n 1, 1) := by decide +kernel
theorem dX4_letWeeksPass_19 : decode cX4_letWeeksPass 19 = .ok (.if_icmp .ge 19, 3) := by decide +kernel
theorem dX4_letWeeksPass_22 : decode cX4_letWeeksPass 22 = .ok (.iload_n 2, 1) := by decide +kernel
theorem dX4_letWeeksPass_23 : decode cX4_letWeeksPass 23 = .ok (.aload_n 0, 1) := by decide +kernel
theorem dX4_letWeeksPass_24 : decode cX4_letWeeksPass 24 = .ok (.getfield 10, 3) := by decide +kernel
theorem dX4_letWeeksPass_27 : decode cX4_letWeeksPass 27 = .ok (.invokevirtual 276, 3) := by decide +kernel
theorem dX4_letWeeksPass_30 : decode cX4_letWeeksPass 30 = .ok (.iadd, 1) := by decide +kernel
theorem dX4_letWeeksPass_31 : decode cX4_letWeeksPass 31 = .ok (.istore_n 2, 1) := by decide +kernel
theorem dX4_letWeeksPass_32 : decode cX4_letWeeksPass 32 = .ok (.iinc 3 1, 3) := by decide +kernel
theorem dX4_letWeeksPass_35 : decode cX4_letWeeksPass 35 = .ok (.goto (-18), 3) := by decide +kernel
theorem dX4_letWeeksPass_38 : decode cX4_letWeeksPass 38 = .ok (.aload_n 0, 1) := by decide +kernel
theorem dX4_letWeeksPass_39 : decode cX4_letWeeksPass 39 = .ok (.getfield 10, 3) := by decide +kernel
theorem dX4_letWeeksPass_42 : decode cX4_letWeeksPass 42 = .ok (.iconst 0, 1) := by decide +kernel
theorem dX4_letWeeksPass_43 : decode cX4_letWeeksPass 43 = .ok (.iload_n 1, 1) := by decide +kernel
theorem dX4_letWeeksPass_44 : decode cX4_letWeeksPass 44 = .ok (.invokevirtual 245, 3) := by decide +kernel
theorem dX4_letWeeksPass_47 : decode cX4_letWeeksPass 47 = .ok (.aload_n 0, 1) := by decide +kernel
theorem dX4_letWeeksPass_48 : decode cX4_letWeeksPass 48 = .ok (.getfield 10, 3) := by decide +kernel
theorem dX4_letWeeksPass_51 : decode cX4_letWeeksPass 51 = .ok (.bipush 11, 2) := by decide +kernel
theorem dX4_letWeeksPass_53 : decode cX4_letWeeksPass 53 = .ok (.iload_n 2, 1) := by decide +kernel
theorem dX4_letWeeksPass_54 : decode cX4_letWeeksPass 54 = .ok (.invokevirtual 245, 3) := by decide +kernel
theorem dX4_letWeeksPass_57 : decode cX4_letWeeksPass 57 = .ok (.iload_n 2, 1) := by decide +kernel
theorem dX4_letWeeksPass_58 : decode cX4_letWeeksPass 58 = .ok (.ireturn, 1) := by decide +kernel
set_option maxRecDepth 20000 in
theorem ggX4_carryOut_X0_argument : GoodIn wsX4_carryOut wsX0_argument := goodIn_r _ [6, 7, 8, 9, 10, 185, 186, 187, 188, 189, 190] (by decide +kernel) (by decide +kernel)
set_option maxRecDepth 20000 in
theorem gX4_carryOut_X0_argument : GoodIn wsX4_carryOut (wsV RX4 279 RX0 yX0_argument wsX0_argument) := goodIn_app (goodIn_of _ (by decide +kernel)) ggX4_carryOut_X0_argument
set_option maxRecDepth 20000 in
theorem ggX4_carryOut_X0_verb : GoodIn wsX4_carryOut wsX0_verb := goodIn_r _ [14, 7, 8, 9, 10, 185, 186, 187, 188, 189, 190] (by decide +kernel) (by decide +kernel)
set_option maxRecDepth 20000 in
theorem gX4_carryOut_X0_verb : GoodIn wsX4_carryOut (wsV RX4 282 RX0 yX0_verb wsX0_verb) := goodIn_app (goodIn_of _ (by decide +kernel)) ggX4_carryOut_X0_verb
set_option maxRecDepth 20000 in
theorem ggX4_carryOut_X4_storeSacks : GoodIn wsX4_carryOut wsX4_storeSacks := goodIn_r _ [18, 19, 20, 21, 9, 22, 23, 24, 25, 26, 27, 28, 29, 30, 31, 32, 33, 34, 35, 36, 37, 38, 8, 10, 39, 40, 41, 42, 43, 44, 45, 46, 47, 48, 49, 50, 51, 52, 53, 54, 55, 56, 57, 58, 59, 60, 61, 62, 63, 64, 65, 66, 67, 68, 69, 70, 71, 72, 73, 74, 75, 76, 77, 78, 79, 80, 81, 82, 83, 84, 85, 86, 87, 88, 89, 90, 91, 92, 93, 94, 95, 96, 97, 175, 176, 177, 178, 179, 180, 181, 182, 183, 184, 191, 192, 193, 194, 195, 196] (by decide +kernel) (by decide +kernel)
set_option maxRecDepth 20000 in
theorem gX4_carryOut_X4_storeSacks : GoodIn wsX4_carryOut (wsV RX4 62 RX4 yX4_storeSacks wsX4_storeSacks) := goodIn_app (goodIn_of _ (by decide +kernel)) ggX4_carryOut_X4_storeSacks
set_option maxRecDepth 20000 in
theorem ggX4_carryOut_X4_takeSacks : GoodIn wsX4_carryOut wsX4_takeSacks := goodIn_r _ [101, 19, 20, 21, 9, 22, 23, 24, 25, 102, 103, 104, 105, 44, 45, 46, 36, 47, 38, 8, 10, 106, 107, 108, 109, 33, 34, 35, 37, 52, 53, 54, 55, 56, 57, 110, 111, 112, 113, 43, 69, 74, 75, 76, 77, 78, 63, 64, 79, 80, 114, 58, 59, 60, 61, 62, 175, 176, 177, 178, 179, 180, 181, 182, 183, 184, 191, 192, 193, 194, 195, 196] (by decide +kernel) (by decide +kernel)
set_option maxRecDepth 20000 in
theorem gX4_carryOut_X4_takeSacks : GoodIn wsX4_carryOut (wsV RX4 70 RX4 yX4_takeSacks wsX4_takeSacks) := goodIn_app (goodIn_of _ (by decide +kernel)) ggX4_carryOut_X4_takeSacks
set_option maxRecDepth 20000 in
theorem ggX4_carryOut_X4_moveSacks : GoodIn wsX4_carryOut wsX4_moveSacks := goodIn_r _ [118, 19, 119, 120, 121, 122, 20, 21, 9, 22, 23, 24, 25, 52, 53, 54, 55, 56, 57, 102, 103, 104, 105, 44, 45, 46, 36, 47, 38, 8, 10, 106, 107, 108, 109, 33, 34, 35, 37, 39, 40, 41, 42, 43, 29, 30, 31, 32, 48, 49, 50, 51, 65, 66, 67, 68, 69, 110, 111, 112, 113, 74, 75, 76, 77, 78, 63, 64, 79, 80, 114, 58, 59, 60, 61, 62, 70, 71, 72, 73, 81, 82, 83, 84, 85, 86, 87, 88, 89, 90, 91, 92, 93, 94, 95, 96, 97, 175, 176, 177, 178, 179, 180, 181, 182, 183, 184, 191, 192, 193, 194, 195, 196] (by decide +kernel) (by decide +kernel)
set_option maxRecDepth 20000 in
theorem gX4_carryOut_X4_moveSacks : GoodIn wsX4_carryOut (wsV RX4 74 RX4 yX4_moveSacks wsX4_moveSacks) := goodIn_app (goodIn_of _ (by decide +kernel)) ggX4_carryOut_X4_moveSacks
set_option maxRecDepth 20000 in
theorem ggX4_carryOut_X4_fillOrder : GoodIn wsX4_carryOut wsX4_fillOrder := goodIn_r _ [126, 19, 127, 128, 121, 129, 26, 27, 9, 28, 23, 24, 25, 130, 131, 132, 36, 133, 134, 40, 41, 42, 43, 8, 10, 135, 45, 46, 47, 38, 52, 53, 54, 55, 56, 57, 136, 137, 138, 139, 114, 34, 35, 37, 140, 66, 67, 68, 69, 44, 110, 111, 112, 113, 74, 75, 76, 77, 78, 63, 64, 79, 80, 58, 59, 60, 61, 62, 141, 142, 143, 175, 176, 177, 178, 179, 180, 181, 182, 183, 184, 191, 192, 193, 194, 195, 196] (by decide +kernel) (by decide +kernel)
set_option maxRecDepth 20000 in
theorem gX4_carryOut_X4_fillOrder : GoodIn wsX4_carryOut (wsV RX4 77 RX4 yX4_fillOrder wsX4_fillOrder) := goodIn_app (goodIn_of _ (by decide +kernel)) ggX4_carryOut_X4_fillOrder
set_option maxRecDepth 20000 in
theorem ggX4_carryOut_X4_mend : GoodIn wsX4_carryOut wsX4_mend := goodIn_r _ [147, 19, 148, 149, 9, 150, 23, 24, 25, 151, 87, 88, 36, 89, 85, 8, 10, 52, 53, 54, 55, 56, 57, 152, 91, 92, 93, 78, 153, 94, 95, 96, 79, 80, 154, 155, 156, 157, 62, 158, 159, 160, 161, 63, 64, 58, 59, 60, 61, 175, 176, 177, 178, 179, 180, 181, 182, 183, 184, 191, 192, 193, 194, 195, 196] (by decide +kernel) (by decide +kernel)
set_option maxRecDepth 20000 in
theorem gX4_carryOut_X4_mend : GoodIn wsX4_carryOut (wsV RX4 80 RX4 yX4_mend wsX4_mend) := goodIn_app (goodIn_of _ (by decide +kernel)) ggX4_carryOut_X4_mend
set_option maxRecDepth 20000 in
theorem ggX4_carryOut_X4_letWeeksPass : GoodIn wsX4_carryOut wsX4_letWeeksPass := goodIn_r _ [165, 19, 23, 24, 9, 25, 166, 167, 168, 36, 169, 69, 114, 34, 35, 37, 38, 8, 10, 140, 66, 67, 68, 63, 64, 170, 171, 172, 173, 134, 40, 41, 42, 43, 135, 45, 46, 47, 174, 111, 112, 113, 74, 75, 76, 77, 78, 79, 80, 58, 59, 60, 61, 62, 175, 176, 177, 178, 179, 180, 181, 182, 183, 184, 191, 192, 193, 194, 195, 196] (by decide +kernel) (by decide +kernel)
set_option maxRecDepth 20000 in
theorem gX4_carryOut_X4_letWeeksPass : GoodIn wsX4_carryOut (wsV RX4 83 RX4 yX4_letWeeksPass wsX4_letWeeksPass) := goodIn_app (goodIn_of _ (by decide +kernel)) ggX4_carryOut_X4_letWeeksPass
theorem dX4_carryOut_0 : decode cX4_carryOut 0 = .ok (.aload_n 0, 1) := by decide +kernel
theorem dX4_carryOut_1 : decode cX4_carryOut 1 = .ok (.getfield 36, 3) := by decide +kernel
theorem dX4_carryOut_4 : decode cX4_carryOut 4 = .ok (.iload_n 1, 1) := by decide +kernel
theorem dX4_carryOut_5 : decode cX4_carryOut 5 = .ok (.iconst 1, 1) := by decide +kernel
theorem dX4_carryOut_6 : decode cX4_carryOut 6 = .ok (.invokevirtual 279, 3) := by decide +kernel
theorem dX4_carryOut_9 : decode cX4_carryOut 9 = .ok (.istore_n 2, 1) := by decide +kernel
theorem dX4_carryOut_10 : decode cX4_carryOut 10 = .ok (.aload_n 0, 1) := by decide +kernel
theorem dX4_carryOut_11 : decode cX4_carryOut 11 = .ok (.getfield 36, 3) := by decide +kernel
theorem dX4_carryOut_14 : decode cX4_carryOut 14 = .ok (.iload_n 1, 1) := by decide +kernel
theorem dX4_carryOut_15 : decode cX4_carryOut 15 = .ok (.iconst 2, 1) := by decide +kernel
theorem dX4_carryOut_16 : decode cX4_carryOut 16 = .ok (.invokevirtual 279, 3) := by decide +kernel
theorem dX4_carryOut_19 : decode cX4_carryOut 19 = .ok (.istore_n 3, 1) := by decide +kernel
theorem dX4_carryOut_20 : decode cX4_carryOut 20 = .ok (.aload_n 0, 1) := by decide +kernel
theorem dX4_carryOut_21 : decode cX4_carryOut 21 = .ok (.getfield 36, 3) := by decide +kernel
theorem dX4_carryOut_24 : decode cX4_carryOut 24 = .ok (.iload_n 1, 1) := by decide +kernel
theorem dX4_carryOut_25 : decode cX4_carryOut 25 = .ok (.iconst 3, 1) := by decide +kernel
theorem dX4_carryOut_26 : decode cX4_carryOut 26 = .ok (.invokevirtual 279, 3) := by decide +kernel
theorem dX4_carryOut_29 : decode cX4_carryOut 29 = .ok (.istore 4, 2) := by decide +kernel
theorem dX4_carryOut_31 : decode cX4_carryOut 31 = .ok (.aload_n 0, 1) := by decide +kernel
theorem dX4_carryOut_32 : decode cX4_carryOut 32 = .ok (.getfield 36, 3) := by decide +kernel
theorem dX4_carryOut_35 : decode cX4_carryOut 35 = .ok (.iload_n 1, 1) := by decide +kernel
theorem dX4_carryOut_36 : decode cX4_carryOut 36 = .ok (.invokevirtual 282, 3) := by decide +kernel
theorem dX4_carryOut_39 : decode cX4_carryOut 39 = .ok (.tableswitch 81 0 5 #[37, 46, 53, 62, 69, 75], 37) := by decide +kernel
theorem dX4_carryOut_76 : decode cX4_carryOut 76 = .ok (.aload_n 0, 1) := by decide +kernel
theorem dX4_carryOut_77 : decode cX4_carryOut 77 = .ok (.iload_n 2, 1) := by decide +kernel
theorem dX4_carryOut_78 : decode cX4_carryOut 78 = .ok (.iload_n 3, 1) := by decide +kernel
theorem dX4_carryOut_79 : decode cX4_carryOut 79 = .ok (.iload 4, 2) := by decide +kernel
theorem dX4_carryOut_81 : decode cX4_carryOut 81 = .ok (.invokevirtual 62, 3) := by decide +kernel
theorem dX4_carryOut_84 : decode cX4_carryOut 84 = .ok (.ireturn, 1) := by decide +kernel
theorem dX4_carryOut_85 : decode cX4_carryOut 85 = .ok (.aload_n 0, 1) := by decide +kernel
theorem dX4_carryOut_86 : decode cX4_carryOut 86 = .ok (.iload_n 2, 1) := by decide +kernel
theorem dX4_carryOut_87 : decode cX4_carryOut 87 = .ok (.iload_n 3, 1) := by decide +kernel
theorem dX4_carryOut_88 : decode cX4_carryOut 88 = .ok (.invokevirtual 70, 3) := by decide +kernel
theorem dX4_carryOut_91 : decode cX4_carryOut 91 = .ok (.ireturn, 1) := by decide +kernel
theorem dX4_carryOut_92 : decode cX4_carryOut 92 = .ok (.aload_n 0, 1) := by decide +kernel
theorem dX4_carryOut_93 : decode cX4_carryOut 93 = .ok (.iload_n 2, 1) := by decide +kernel
theorem dX4_carryOut_94 : decode cX4_carryOut 94 = .ok (.iload_n 3, 1) := by decide +kernel
theorem dX4_carryOut_95 : decode cX4_carryOut 95 = .ok (.iload 4, 2) := by decide +kernel
theorem dX4_carryOut_97 : decode cX4_carryOut 97 = .ok (.invokevirtual 74, 3) := by decide +kernel
theorem dX4_carryOut_100 : decode cX4_carryOut 100 = .ok (.ireturn, 1) := by decide +kernel
theorem dX4_carryOut_101 : decode cX4_carryOut 101 = .ok (.aload_n 0, 1) := by decide +kernel
theorem dX4_carryOut_102 : decode cX4_carryOut 102 = .ok (.iload_n 2, 1) := by decide +kernel
theorem dX4_carryOut_103 : decode cX4_carryOut 103 = .ok (.iload_n 3, 1) := by decide +kernel
theorem dX4_carryOut_104 : decode cX4_carryOut 104 = .ok (.invokevirtual 77, 3) := by decide +kernel
theorem dX4_carryOut_107 : decode cX4_carryOut 107 = .ok (.ireturn, 1) := by decide +kernel
theorem dX4_carryOut_108 : decode cX4_carryOut 108 = .ok (.aload_n 0, 1) := by decide +kernel
theorem dX4_carryOut_109 : decode cX4_carryOut 109 = .ok (.iload_n 2, 1) := by decide +kernel
theorem dX4_carryOut_110 : decode cX4_carryOut 110 = .ok (.invokevirtual 80, 3) := by decide +kernel
theorem dX4_carryOut_113 : decode cX4_carryOut 113 = .ok (.ireturn, 1) := by decide +kernel
theorem dX4_carryOut_114 : decode cX4_carryOut 114 = .ok (.aload_n 0, 1) := by decide +kernel
theorem dX4_carryOut_115 : decode cX4_carryOut 115 = .ok (.iload_n 2, 1) := by decide +kernel
theorem dX4_carryOut_116 : decode cX4_carryOut 116 = .ok (.invokevirtual 83, 3) := by decide +kernel
theorem dX4_carryOut_119 : decode cX4_carryOut 119 = .ok (.ireturn, 1) := by decide +kernel
theorem dX4_carryOut_120 : decode cX4_carryOut 120 = .ok (.bipush (-12), 2) := by decide +kernel
theorem dX4_carryOut_122 : decode cX4_carryOut 122 = .ok (.ireturn, 1) := by decide +kernel
set_option maxRecDepth 20000 in
theorem ggX4_remember_X2_keep : GoodIn wsX4_remember wsX2_keep := goodIn_r _ [7, 8, 9, 10, 11, 12, 13, 14, 15, 16, 17, 18, 19, 20, 21, 22, 23, 24, 25, 26, 27, 28, 39, 40, 41, 42, 43, 44, 45, 46, 47] (by decide +kernel) (by decide +kernel)
set_option maxRecDepth 20000 in
theorem gX4_remember_X2_keep : GoodIn wsX4_remember (wsV RX4 285 RX2 yX2_keep wsX2_keep) := goodIn_app (goodIn_of _ (by decide +kernel)) ggX4_remember_X2_keep
theorem dX4_remember_0 : decode cX4_remember 0 = .ok (.iload_n 1, 1) := by decide +kernel
theorem dX4_remember_1 : decode cX4_remember 1 = .ok (.ifCond .lt 14, 3) := by decide +kernel
theorem dX4_remember_4 : decode cX4_remember 4 = .ok (.aload_n 0, 1) := by decide +kernel
theorem dX4_remember_5 : decode cX4_remember 5 = .ok (.getfield 29, 3) := by decide +kernel
theorem dX4_remember_8 : decode cX4_remember 8 = .ok (.aload_n 0, 1) := by decide +kernel
theorem dX4_remember_9 : decode cX4_remember 9 = .ok (.getfield 16, 3) := by decide +kernel
theorem dX4_remember_12 : decode cX4_remember 12 = .ok (.invokevirtual 285, 3) := by decide +kernel
theorem dX4_remember_15 : decode cX4_remember 15 = .ok (.iload_n 1, 1) := by decide +kernel
theorem dX4_remember_16 : decode cX4_remember 16 = .ok (.ireturn, 1) := by decide +kernel
theorem dX4_refuse_0 : decode cX4_refuse 0 = .ok (.aload_n 0, 1) := by decide +kernel
theorem dX4_refuse_1 : decode cX4_refuse 1 = .ok (.iload_n 1, 1) := by decide +kernel
theorem dX4_refuse_2 : decode cX4_refuse 2 = .ok (.putfield 47, 3) := by decide +kernel
theorem dX4_refuse_5 : decode cX4_refuse 5 = .ok (.aload_n 0, 1) := by decide +kernel
theorem dX4_refuse_6 : decode cX4_refuse 6 = .ok (.iload_n 2, 1) := by decide +kernel
theorem dX4_refuse_7 : decode cX4_refuse 7 = .ok (.putfield 51, 3) := by decide +kernel
theorem dX4_refuse_10 : decode cX4_refuse 10 = .ok (.bipush (-14), 2) := by decide +kernel
theorem dX4_refuse_12 : decode cX4_refuse 12 = .ok (.ireturn, 1) := by decide +kernel
set_option maxRecDepth 20000 in
theorem ggX4_hasRoom_X3_isEmpty : GoodIn wsX4_hasRoom wsX3_isEmpty := goodIn_r _ [6, 7, 8, 9, 10, 30, 31, 32, 33, 34, 35] (by decide +kernel) (by decide +kernel)
set_option maxRecDepth 20000 in
theorem gX4_hasRoom_X3_isEmpty : GoodIn wsX4_hasRoom (wsV RX4 90 RX3 yX3_isEmpty wsX3_isEmpty) := goodIn_app (goodIn_of _ (by decide +kernel)) ggX4_hasRoom_X3_isEmpty
set_option maxRecDepth 20000 in
theorem ggX4_hasRoom_X3_kindIn : GoodIn wsX4_hasRoom wsX3_kindIn := goodIn_r _ [14, 15, 8, 9, 10, 30, 31, 32, 33, 34, 35] (by decide +kernel) (by decide +kernel)
set_option maxRecDepth 20000 in
theorem gX4_hasRoom_X3_kindIn : GoodIn wsX4_hasRoom (wsV RX4 93 RX3 yX3_kindIn wsX3_kindIn) := goodIn_app (goodIn_of _ (by decide +kernel)) ggX4_hasRoom_X3_kindIn
set_option maxRecDepth 20000 in
theorem ggX4_hasRoom_X3_sacksIn : GoodIn wsX4_hasRoom wsX3_sacksIn := goodIn_r _ [19, 7, 8, 9, 10, 30, 31, 32, 33, 34, 35] (by decide +kernel) (by decide +kernel)
set_option maxRecDepth 20000 in
theorem gX4_hasRoom_X3_sacksIn : GoodIn wsX4_hasRoom (wsV RX4 96 RX3 yX3_sacksIn wsX3_sacksIn) := goodIn_app (goodIn_of _ (by decide +kernel)) ggX4_hasRoom_X3_sacksIn
theorem dX4_hasRoom_0 : decode cX4_hasRoom 0 = .ok (.aload_n 0, 1) := by decide +kernel
theorem dX4_hasRoom_1 : decode cX4_hasRoom 1 = .ok (.getfield 10, 3) := by decide +kernel
theorem dX4_hasRoom_4 : decode cX4_hasRoom 4 = .ok (.iload_n 1, 1) := by decide +kernel
theorem dX4_hasRoom_5 : decode cX4_hasRoom 5 = .ok (.invokevirtual 90, 3) := by decide +kernel
theorem dX4_hasRoom_8 : decode cX4_hasRoom 8 = .ok (.ifCond .ne 31, 3) := by decide +kernel
theorem dX4_hasRoom_11 : decode cX4_hasRoom 11 = .ok (.aload_n 0, 1) := by decide +kernel
theorem dX4_hasRoom_12 : decode cX4_hasRoom 12 = .ok (.getfield 10, 3) := by decide +kernel
theorem dX4_hasRoom_15 : decode cX4_hasRoom 15 = .ok (.iload_n 1, 1) := by decide +kernel
theorem dX4_hasRoom_16 : decode cX4_hasRoom 16 = .ok (.invokevirtual 93, 3) := by decide +kernel
theorem dX4_hasRoom_19 : decode cX4_hasRoom 19 = .ok (.iload_n 2, 1) := by decide +kernel
theorem dX4_hasRoom_20 : decode cX4_hasRoom 20 = .ok (.if_icmp .ne 23, 3) := by decide +kernel
theorem dX4_hasRoom_23 : decode cX4_hasRoom 23 = .ok (.aload_n 0, 1) := by decide +kernel
theorem dX4_hasRoom_24 : decode cX4_hasRoom 24 = .ok (.getfield 10, 3) := by decide +kernel
theorem dX4_hasRoom_27 : decode cX4_hasRoom 27 = .ok (.iload_n 1, 1) := by decide +kernel
theorem dX4_hasRoom_28 : decode cX4_hasRoom 28 = .ok (.invokevirtual 96, 3) := by decide +kernel
theorem dX4_hasRoom_31 : decode cX4_hasRoom 31 = .ok (.iload_n 3, 1) := by decide +kernel
theorem dX4_hasRoom_32 : decode cX4_hasRoom 32 = .ok (.iadd, 1) := by decide +kernel
theorem dX4_hasRoom_33 : decode cX4_hasRoom 33 = .ok (.sipush 200, 3) := by decide +kernel
theorem dX4_hasRoom_36 : decode cX4_hasRoom 36 = .ok (.if_icmp .gt 7, 3) := by decide +kernel
theorem dX4_hasRoom_39 : decode cX4_hasRoom 39 = .ok (.iconst 1, 1) := by decide +kernel
theorem dX4_hasRoom_40 : decode cX4_hasRoom 40 = .ok (.goto 4, 3) := by decide +kernel
theorem dX4_hasRoom_43 : decode cX4_hasRoom 43 = .ok (.iconst 0, 1) := by decide +kernel
theorem dX4_hasRoom_44 : decode cX4_hasRoom 44 = .ok (.ireturn, 1) := by decide +kernel
set_option maxRecDepth 20000 in
theorem ggX4_refuseRoom_X3_kindIn : GoodIn wsX4_refuseRoom wsX3_kindIn := goodIn_r _ [6, 7, 8, 9, 10, 32, 33, 34, 35, 36, 37] (by decide +kernel) (by decide +kernel)
set_option maxRecDepth 20000 in
theorem gX4_refuseRoom_X3_kindIn : GoodIn wsX4_refuseRoom (wsV RX4 93 RX3 yX3_kindIn wsX3_kindIn) := goodIn_app (goodIn_of _ (by decide +kernel)) ggX4_refuseRoom_X3_kindIn
set_option maxRecDepth 20000 in
theorem ggX4_refuseRoom_X4_refuse : GoodIn wsX4_refuseRoom wsX4_refuse := goodIn_r _ [14, 15, 16, 22, 23, 24, 25, 26, 27, 28, 29, 30, 31] (by decide +kernel) (by decide +kernel)
set_option maxRecDepth 20000 in
theorem gX4_refuseRoom_X4_refuse : GoodIn wsX4_refuseRoom (wsV RX4 195 RX4 yX4_refuse wsX4_refuse) := goodIn_app (goodIn_of _ (by decide +kernel)) ggX4_refuseRoom_X4_refuse
set_option maxRecDepth 20000 in
theorem ggX4_refuseRoom_X3_sacksIn : GoodIn wsX4_refuseRoom wsX3_sacksIn := goodIn_r _ [20, 21, 8, 9, 10, 32, 33, 34, 35, 36, 37] (by decide +kernel) (by decide +kernel)
set_option maxRecDepth 20000 in
theorem gX4_refuseRoom_X3_sacksIn : GoodIn wsX4_refuseRoom (wsV RX4 96 RX3 yX3_sacksIn wsX3_sacksIn) := goodIn_app (goodIn_of _ (by decide +kernel)) ggX4_refuseRoom_X3_sacksIn
theorem dX4_refuseRoom_0 : decode cX4_refuseRoom 0 = .ok (.aload_n 0, 1) := by decide +kernel
theorem dX4_refuseRoom_1 : decode cX4_refuseRoom 1 = .ok (.getfield 10, 3) := by decide +kernel
theorem dX4_refuseRoom_4 : decode cX4_refuseRoom 4 = .ok (.iload_n 1, 1) := by decide +kernel
theorem dX4_refuseRoom_5 : decode cX4_refuseRoom 5 = .ok (.invokevirtual 93, 3) := by decide +kernel
theorem dX4_refuseRoom_8 : decode cX4_refuseRoom 8 = .ok (.iload_n 2, 1) := by decide +kernel
theorem dX4_refuseRoom_9 : decode cX4_refuseRoom 9 = .ok (.if_icmp .eq 17, 3) := by decide +kernel
theorem dX4_refuseRoom_12 : decode cX4_refuseRoom 12 = .ok (.aload_n 0, 1) := by decide +kernel
theorem dX4_refuseRoom_13 : decode cX4_refuseRoom 13 = .ok (.iconst 1, 1) := by decide +kernel
theorem dX4_refuseRoom_14 : decode cX4_refuseRoom 14 = .ok (.aload_n 0, 1) := by decide +kernel
theorem dX4_refuseRoom_15 : decode cX4_refuseRoom 15 = .ok (.getfield 10, 3) := by decide +kernel
theorem dX4_refuseRoom_18 : decode cX4_refuseRoom 18 = .ok (.iload_n 1, 1) := by decide +kernel
theorem dX4_refuseRoom_19 : decode cX4_refuseRoom 19 = .ok (.invokevirtual 93, 3) := by decide +kernel
theorem dX4_refuseRoom_22 : decode cX4_refuseRoom 22 = .ok (.invokevirtual 195, 3) := by decide +kernel
theorem dX4_refuseRoom_25 : decode cX4_refuseRoom 25 = .ok (.ireturn, 1) := by decide +kernel
theorem dX4_refuseRoom_26 : decode cX4_refuseRoom 26 = .ok (.aload_n 0, 1) := by decide +kernel
theorem dX4_refuseRoom_27 : decode cX4_refuseRoom 27 = .ok (.iconst 2, 1) := by decide +kernel
theorem dX4_refuseRoom_28 : decode cX4_refuseRoom 28 = .ok (.aload_n 0, 1) := by decide +kernel
theorem dX4_refuseRoom_29 : decode cX4_refuseRoom 29 = .ok (.getfield 10, 3) := by decide +kernel
theorem dX4_refuseRoom_32 : decode cX4_refuseRoom 32 = .ok (.iload_n 1, 1) := by decide +kernel
theorem dX4_refuseRoom_33 : decode cX4_refuseRoom 33 = .ok (.invokevirtual 96, 3) := by decide +kernel
theorem dX4_refuseRoom_36 : decode cX4_refuseRoom 36 = .ok (.iload_n 3, 1) := by decide +kernel
theorem dX4_refuseRoom_37 : decode cX4_refuseRoom 37 = .ok (.iadd, 1) := by decide +kernel
theorem dX4_refuseRoom_38 : decode cX4_refuseRoom 38 = .ok (.sipush 200, 3) := by decide +kernel
theorem dX4_refuseRoom_41 : decode cX4_refuseRoom 41 = .ok (.isub, 1) := by decide +kernel
theorem dX4_refuseRoom_42 : decode cX4_refuseRoom 42 = .ok (.invokevirtual 195, 3) := by decide +kernel
theorem dX4_refuseRoom_45 : decode cX4_refuseRoom 45 = .ok (.ireturn, 1) := by decide +kernel
set_option maxRecDepth 20000 in
theorem ggX4_hasSacks_X3_sacksIn : GoodIn wsX4_hasSacks wsX3_sacksIn := goodIn_r _ [6, 7, 8, 9, 10, 21, 22, 23, 24, 25, 26] (by decide +kernel) (by decide +kernel)
set_option maxRecDepth 20000 in
theorem gX4_hasSacks_X3_sacksIn : GoodIn wsX4_hasSacks (wsV RX4 96 RX3 yX3_sacksIn wsX3_sacksIn) := goodIn_app (goodIn_of _ (by decide +kernel)) ggX4_hasSacks_X3_sacksIn
theorem dX4_hasSacks_0 : decode cX4_hasSacks 0 = .ok (.aload_n 0, 1) := by decide +kernel
theorem dX4_hasSacks_1 : decode cX4_hasSacks 1 = .ok (.getfield 10, 3) := by decide +kernel
theorem dX4_hasSacks_4 : decode cX4_hasSacks 4 = .ok (.iload_n 1, 1) := by decide +kernel
theorem dX4_hasSacks_5 : decode cX4_hasSacks 5 = .ok (.invokevirtual 96, 3) := by decide +kernel
theorem dX4_hasSacks_8 : decode cX4_hasSacks 8 = .ok (.iload_n 2, 1) := by decide +kernel
theorem dX4_hasSacks_9 : decode cX4_hasSacks 9 = .ok (.if_icmp .lt 7, 3) := by decide +kernel
theorem dX4_hasSacks_12 : decode cX4_hasSacks 12 = .ok (.iconst 1, 1) := by decide +kernel
theorem dX4_hasSacks_13 : decode cX4_hasSacks 13 = .ok (.goto 4, 3) := by decide +kernel
theorem dX4_hasSacks_16 : decode cX4_hasSacks 16 = .ok (.iconst 0, 1) := by decide +kernel
theorem dX4_hasSacks_17 : decode cX4_hasSacks 17 = .ok (.ireturn, 1) := by decide +kernel
set_option maxRecDepth 20000 in
theorem ggX4_refuseSacks_X3_isEmpty : GoodIn wsX4_refuseSacks wsX3_isEmpty := goodIn_r _ [6, 7, 8, 9, 10, 31, 32, 33, 34, 35, 36] (by decide +kernel) (by decide +kernel)
set_option maxRecDepth 20000 in
theorem gX4_refuseSacks_X3_isEmpty : GoodIn wsX4_refuseSacks (wsV RX4 90 RX3 yX3_isEmpty wsX3_isEmpty) := goodIn_app (goodIn_of _ (by decide +kernel)) ggX4_refuseSacks_X3_isEmpty
set_option maxRecDepth 20000 in
theorem ggX4_refuseSacks_X4_refuse : GoodIn wsX4_refuseSacks wsX4_refuse := goodIn_r _ [14, 15, 16, 21, 22, 23, 24, 25, 26, 27, 28, 29, 30] (by decide +kernel) (by decide +kernel)
set_option maxRecDepth 20000 in
theorem gX4_refuseSacks_X4_refuse : GoodIn wsX4_refuseSacks (wsV RX4 195 RX4 yX4_refuse wsX4_refuse) := goodIn_app (goodIn_of _ (by decide +kernel)) ggX4_refuseSacks_X4_refuse
set_option maxRecDepth 20000 in
theorem ggX4_refuseSacks_X3_sacksIn : GoodIn wsX4_refuseSacks wsX3_sacksIn := goodIn_r _ [20, 7, 8, 9, 10, 31, 32, 33, 34, 35, 36] (by decide +kernel) (by decide +kernel)
set_option maxRecDepth 20000 in
theorem gX4_refuseSacks_X3_sacksIn : GoodIn wsX4_refuseSacks (wsV RX4 96 RX3 yX3_sacksIn wsX3_sacksIn) := goodIn_app (goodIn_of _ (by decide +kernel)) ggX4_refuseSacks_X3_sacksIn
theorem dX4_refuseSacks_0 : decode cX4_refuseSacks 0 = .ok (.aload_n 0, 1) := by decide +kernel
theorem dX4_refuseSacks_1 : decode cX4_refuseSacks 1 = .ok (.getfield 10, 3) := by decide +kernel
theorem dX4_refuseSacks_4 : decode cX4_refuseSacks 4 = .ok (.iload_n 1, 1) := by decide +kernel
theorem dX4_refuseSacks_5 : decode cX4_refuseSacks 5 = .ok (.invokevirtual 90, 3) := by decide +kernel
theorem dX4_refuseSacks_8 : decode cX4_refuseSacks 8 = .ok (.ifCond .eq 11, 3) := by decide +kernel
theorem dX4_refuseSacks_11 : decode cX4_refuseSacks 11 = .ok (.aload_n 0, 1) := by decide +kernel
theorem dX4_refuseSacks_12 : decode cX4_refuseSacks 12 = .ok (.bipush 8, 2) := by decide +kernel
theorem dX4_refuseSacks_14 : decode cX4_refuseSacks 14 = .ok (.iload_n 1, 1) := by decide +kernel
theorem dX4_refuseSacks_15 : decode cX4_refuseSacks 15 = .ok (.invokevirtual 195, 3) := by decide +kernel
theorem dX4_refuseSacks_18 : decode cX4_refuseSacks 18 = .ok (.ireturn, 1) := by decide +kernel
theorem dX4_refuseSacks_19 : decode cX4_refuseSacks 19 = .ok (.aload_n 0, 1) := by decide +kernel
theorem dX4_refuseSacks_20 : decode cX4_refuseSacks 20 = .ok (.iconst 3, 1) := by decide +kernel
theorem dX4_refuseSacks_21 : decode cX4_refuseSacks 21 = .ok (.aload_n 0, 1) := by decide +kernel
theorem dX4_refuseSacks_22 : decode cX4_refuseSacks 22 = .ok (.getfield 10, 3) := by decide +kernel
theorem dX4_refuseSacks_25 : decode cX4_refuseSacks 25 = .ok (.iload_n 1, 1) := by decide +kernel
theorem dX4_refuseSacks_26 : decode cX4_refuseSacks 26 = .ok (.invokevirtual 96, 3) := by decide +kernel
theorem dX4_refuseSacks_29 : decode cX4_refuseSacks 29 = .ok (.invokevirtual 195, 3) := by decide +kernel
theorem dX4_refuseSacks_32 : decode cX4_refuseSacks 32 = .ok (.ireturn, 1) := by decide +kernel
set_option maxRecDepth 20000 in
theorem ggX4_stepsBelow_X3_isCracked : GoodIn wsX4_stepsBelow wsX3_isCracked := goodIn_r _ [5, 6, 7, 8, 9, 18, 19, 20, 21, 22, 23] (by decide +kernel) (by decide +kernel)
set_option maxRecDepth 20000 in
theorem gX4_stepsBelow_X3_isCracked : GoodIn wsX4_stepsBelow (wsV RX4 123 RX3 yX3_isCracked wsX3_isCracked) := goodIn_app (goodIn_of _ (by decide +kernel)) ggX4_stepsBelow_X3_isCracked
set_option maxRecDepth 20000 in
theorem ggX4_stepsBelow_X4_firstBayOf : GoodIn wsX4_stepsBelow wsX4_firstBayOf := goodIn_r _ [12, 13, 14, 8, 15] (by decide +kernel) (by decide +kernel)
set_option maxRecDepth 20000 in
theorem gX4_stepsBelow_X4_firstBayOf : GoodIn wsX4_stepsBelow (va_wsS RX4 126 yX4_firstBayOf wsX4_firstBayOf) := goodIn_app (goodIn_of _ (by decide +kernel)) ggX4_stepsBelow_X4_firstBayOf
set_option maxRecDepth 20000 in
theorem ggX4_stepsBelow_X4_stepsBelow : GoodIn wsX4_stepsBelow wsX4_stepsBelow := goodIn_r _ [0, 1, 2, 3, 4, 5, 6, 7, 8, 9, 10, 11, 12, 13, 14, 15, 16, 17, 18, 19, 20, 21, 22, 23] (by decide +kernel) (by decide +kernel)
set_option maxRecDepth 20000 in
theorem gX4_stepsBelow_X4_stepsBelow : GoodIn wsX4_stepsBelow (va_wsS RX4 142 yX4_stepsBelow wsX4_stepsBelow) := goodIn_app (goodIn_of _ (by decide +kernel)) ggX4_stepsBelow_X4_stepsBelow
set_option maxRecDepth 20000 in
theorem ggX4_stepsBelow_X4_sizeOf : GoodIn wsX4_stepsBelow wsX4_sizeOf := goodIn_r _ [15] (by decide +kernel) (by decide +kernel)
set_option maxRecDepth 20000 in
theorem gX4_stepsBelow_X4_sizeOf : GoodIn wsX4_stepsBelow (va_wsS RX4 114 yX4_sizeOf wsX4_sizeOf) := goodIn_app (goodIn_of _ (by decide +kernel)) ggX4_stepsBelow_X4_sizeOf
theorem dX4_stepsBelow_0 : decode cX4_stepsBelow 0 = .ok (.aload_n 0, 1) := by decide +kernel
theorem dX4_stepsBelow_1 : decode cX4_stepsBelow 1 = .ok (.iload_n 1, 1) := by decide +kernel
theorem dX4_stepsBelow_2 : decode cX4_stepsBelow 2 = .ok (.invokevirtual 123, 3) := by decide +kernel
theorem dX4_stepsBelow_5 : decode cX4_stepsBelow 5 = .ok (.ifCond .eq 8, 3) := by decide +kernel
theorem dX4_stepsBelow_8 : decode cX4_stepsBelow 8 = .ok (.iload_n 2, 1) := by decide +kernel
theorem dX4_stepsBelow_9 : decode cX4_stepsBelow 9 = .ok (.iconst 5, 1) := by decide +kernel
theorem dX4_stepsBelow_10 : decode cX4_stepsBelow 10 = .ok (.if_icmp .le 5, 3) := by decide +kernel
theorem dX4_stepsBelow_13 : decode cX4_stepsBelow 13 = .ok (.iconst 1, 1) := by decide +kernel
theorem dX4_stepsBelow_14 : decode cX4_stepsBelow 14 = .ok (.ireturn, 1) := by decide +kernel
theorem dX4_stepsBelow_15 : decode cX4_stepsBelow 15 = .ok (.iconst 1, 1) := by decide +kernel
theorem dX4_stepsBelow_16 : decode cX4_stepsBelow 16 = .ok (.istore_n 3, 1) := by decide +kernel
theorem dX4_stepsBelow_17 : decode cX4_stepsBelow 17 = .ok (.iload_n 1, 1) := by decide +kernel
theorem dX4_stepsBelow_18 : decode cX4_stepsBelow 18 = .ok (.iconst 1, 1) := by decide +kernel
theorem dX4_stepsBelow_19 : decode cX4_stepsBelow 19 = .ok (.isub, 1) := by decide +kernel
theorem dX4_stepsBelow_20 : decode cX4_stepsBelow 20 = .ok (.istore 4, 2) := by decide +kernel
theorem dX4_stepsBelow_22 : decode cX4_stepsBelow 22 = .ok (.iconst 0, 1) := by decide +kernel
theorem dX4_stepsBelow_23 : decode cX4_stepsBelow 23 = .ok (.istore 5, 2) := by decide +kernel
theorem dX4_stepsBelow_25 : decode cX4_stepsBelow 25 = .ok (.iload 5, 2) := by decide +kernel
theorem dX4_stepsBelow_27 : decode cX4_stepsBelow 27 = .ok (.bipush 32, 2) := by decide +kernel
theorem dX4_stepsBelow_29 : decode cX4_stepsBelow 29 = .ok (.if_icmp .ge 40, 3) := by decide +kernel
theorem dX4_stepsBelow_32 : decode cX4_stepsBelow 32 = .ok (.iload 4, 2) := by decide +kernel
theorem dX4_stepsBelow_34 : decode cX4_stepsBelow 34 = .ok (.iload_n 1, 1) := by decide +kernel
theorem dX4_stepsBelow_35 : decode cX4_stepsBelow 35 = .ok (.invokestatic 126, 3) := by decide +kernel
theorem dX4_stepsBelow_38 : decode cX4_stepsBelow 38 = .ok (.if_icmp .le 31, 3) := by decide +kernel
theorem dX4_stepsBelow_41 : decode cX4_stepsBelow 41 = .ok (.iload_n 3, 1) := by decide +kernel
theorem dX4_stepsBelow_42 : decode cX4_stepsBelow 42 = .ok (.aload_n 0, 1) := by decide +kernel
theorem dX4_stepsBelow_43 : decode cX4_stepsBelow 43 = .ok (.iload 4, 2) := by decide +kernel
theorem dX4_stepsBelow_45 : decode cX4_stepsBelow 45 = .ok (.iload_n 2, 1) := by decide +kernel
theorem dX4_stepsBelow_46 : decode cX4_stepsBelow 46 = .ok (.iconst 1, 1) := by decide +kernel
theorem dX4_stepsBelow_47 : decode cX4_stepsBelow 47 = .ok (.iadd, 1) := by decide +kernel
theorem dX4_stepsBelow_48 : decode cX4_stepsBelow 48 = .ok (.invokestatic 142, 3) := by decide +kernel
theorem dX4_stepsBelow_51 : decode cX4_stepsBelow 51 = .ok (.iadd, 1) := by decide +kernel
theorem dX4_stepsBelow_52 : decode cX4_stepsBelow 52 = .ok (.istore_n 3, 1) := by decide +kernel
theorem dX4_stepsBelow_53 : decode cX4_stepsBelow 53 = .ok (.iload 4, 2) := by decide +kernel
theorem dX4_stepsBelow_55 : decode cX4_stepsBelow 55 = .ok (.iload 4, 2) := by decide +kernel
theorem dX4_stepsBelow_57 : decode cX4_stepsBelow 57 = .ok (.invokestatic 114, 3) := by decide +kernel
theorem dX4_stepsBelow_60 : decode cX4_stepsBelow 60 = .ok (.isub, 1) := by decide +kernel
theorem dX4_stepsBelow_61 : decode cX4_stepsBelow 61 = .ok (.istore 4, 2) := by decide +kernel
theorem dX4_stepsBelow_63 : decode cX4_stepsBelow 63 = .ok (.iinc 5 1, 3) := by decide +kernel
theorem dX4_stepsBelow_66 : decode cX4_stepsBelow 66 = .ok (.goto (-41), 3) := by decide +kernel
theorem dX4_stepsBelow_69 : decode cX4_stepsBelow 69 = .ok (.iload_n 3, 1) := by decide +kernel
theorem dX4_stepsBelow_70 : decode cX4_stepsBelow 70 = .ok (.ireturn, 1) := by decide +kernel
set_option maxRecDepth 20000 in
theorem ggX4_stepsByKnown_X3_isCracked : GoodIn wsX4_stepsByKnown wsX3_isCracked := goodIn_r _ [6, 7, 8, 9, 10, 33, 34, 35, 36, 37, 38] (by decide +kernel) (by decide +kernel)
set_option maxRecDepth 20000 in
theorem gX4_stepsByKnown_X3_isCracked : GoodIn wsX4_stepsByKnown (wsV RX4 123 RX3 yX3_isCracked wsX3_isCracked) := goodIn_app (goodIn_of _ (by decide +kernel)) ggX4_stepsByKnown_X3_isCracked
set_option maxRecDepth 20000 in
theorem ggX4_stepsByKnown_X4_firstBayOf : GoodIn wsX4_stepsByKnown wsX4_firstBayOf := goodIn_r _ [13, 14, 15, 9, 16] (by decide +kernel) (by decide +kernel)
set_option maxRecDepth 20000 in
theorem gX4_stepsByKnown_X4_firstBayOf : GoodIn wsX4_stepsByKnown (va_wsS RX4 126 yX4_firstBayOf wsX4_firstBayOf) := goodIn_app (goodIn_of _ (by decide +kernel)) ggX4_stepsByKnown_X4_firstBayOf
set_option maxRecDepth 20000 in
theorem ggX4_stepsByKnown_X4_knownSteps : GoodIn wsX4_stepsByKnown wsX4_knownSteps := goodIn_r _ [20, 21, 22, 8, 9, 10, 14, 15, 16, 23, 24, 25, 26, 27, 28, 29, 30, 31, 32] (by decide +kernel) (by decide +kernel)
set_option maxRecDepth 20000 in
theorem gX4_stepsByKnown_X4_knownSteps : GoodIn wsX4_stepsByKnown (wsV RX4 153 RX4 yX4_knownSteps wsX4_knownSteps) := goodIn_app (goodIn_of _ (by decide +kernel)) ggX4_stepsByKnown_X4_knownSteps
theorem dX4_stepsByKnown_0 : decode cX4_stepsByKnown 0 = .ok (.aload_n 0, 1) := by decide +kernel
theorem dX4_stepsByKnown_1 : decode cX4_stepsByKnown 1 = .ok (.getfield 10, 3) := by decide +kernel
theorem dX4_stepsByKnown_4 : decode cX4_stepsByKnown 4 = .ok (.iload_n 1, 1) := by decide +kernel
theorem dX4_stepsByKnown_5 : decode cX4_stepsByKnown 5 = .ok (.invokevirtual 123, 3) := by decide +kernel
theorem dX4_stepsByKnown_8 : decode cX4_stepsByKnown 8 = .ok (.ifCond .eq 19, 3) := by decide +kernel
theorem dX4_stepsByKnown_11 : decode cX4_stepsByKnown 11 = .ok (.iconst 1, 1) := by decide +kernel
theorem dX4_stepsByKnown_12 : decode cX4_stepsByKnown 12 = .ok (.aload_n 0, 1) := by decide +kernel
theorem dX4_stepsByKnown_13 : decode cX4_stepsByKnown 13 = .ok (.iload_n 1, 1) := by decide +kernel
theorem dX4_stepsByKnown_14 : decode cX4_stepsByKnown 14 = .ok (.iconst 1, 1) := by decide +kernel
theorem dX4_stepsByKnown_15 : decode cX4_stepsByKnown 15 = .ok (.isub, 1) := by decide +kernel
theorem dX4_stepsByKnown_16 : decode cX4_stepsByKnown 16 = .ok (.iload_n 1, 1) := by decide +kernel
theorem dX4_stepsByKnown_17 : decode cX4_stepsByKnown 17 = .ok (.invokestatic 126, 3) := by decide +kernel
theorem dX4_stepsByKnown_20 : decode cX4_stepsByKnown 20 = .ok (.invokevirtual 153, 3) := by decide +kernel
theorem dX4_stepsByKnown_23 : decode cX4_stepsByKnown 23 = .ok (.iadd, 1) := by decide +kernel
theorem dX4_stepsByKnown_24 : decode cX4_stepsByKnown 24 = .ok (.goto 4, 3) := by decide +kernel
theorem dX4_stepsByKnown_27 : decode cX4_stepsByKnown 27 = .ok (.iconst 1, 1) := by decide +kernel
theorem dX4_stepsByKnown_28 : decode cX4_stepsByKnown 28 = .ok (.ireturn, 1) := by decide +kernel
set_option maxRecDepth 20000 in
theorem ggX4_knownSteps_X4_at : GoodIn wsX4_knownSteps wsX4_at := goodIn_r _ [5] (by decide +kernel) (by decide +kernel)
set_option maxRecDepth 20000 in
theorem gX4_knownSteps_X4_at : GoodIn wsX4_knownSteps (va_wsS RX4 205 yX4_at wsX4_at) := goodIn_app (goodIn_of _ (by decide +kernel)) ggX4_knownSteps_X4_at
set_option maxRecDepth 20000 in
theorem ggX4_knownSteps_X4_sizeOf : GoodIn wsX4_knownSteps wsX4_sizeOf := goodIn_r _ [8] (by decide +kernel) (by decide +kernel)
set_option maxRecDepth 20000 in
theorem gX4_knownSteps_X4_sizeOf : GoodIn wsX4_knownSteps (va_wsS RX4 114 yX4_sizeOf wsX4_sizeOf) := goodIn_app (goodIn_of _ (by decide +kernel)) ggX4_knownSteps_X4_sizeOf
theorem dX4_knownSteps_0 : decode cX4_knownSteps 0 = .ok (.iconst 0, 1) := by decide +kernel
theorem dX4_knownSteps_1 : decode cX4_knownSteps 1 = .ok (.istore_n 3, 1) := by decide +kernel
theorem dX4_knownSteps_2 : decode cX4_knownSteps 2 = .ok (.iload_n 1, 1) := by decide +kernel
theorem dX4_knownSteps_3 : decode cX4_knownSteps 3 = .ok (.istore 4, 2) := by decide +kernel
theorem dX4_knownSteps_5 : decode cX4_knownSteps 5 = .ok (.iconst 0, 1) := by decide +kernel
theorem dX4_knownSteps_6 : decode cX4_knownSteps 6 = .ok (.istore 5, 2) := by decide +kernel
theorem dX4_knownSteps_8 : decode cX4_knownSteps 8 = .ok (.iload 5, 2) := by decide +kernel
theorem dX4_knownSteps_10 : decode cX4_knownSteps 10 = .ok (.bipush 32, 2) := by decide +kernel
theorem dX4_knownSteps_12 : decode cX4_knownSteps 12 = .ok (.if_icmp .ge 37, 3) := by decide +kernel
theorem dX4_knownSteps_15 : decode cX4_knownSteps 15 = .ok (.iload 4, 2) := by decide +kernel
theorem dX4_knownSteps_17 : decode cX4_knownSteps 17 = .ok (.iload_n 2, 1) := by decide +kernel
theorem dX4_knownSteps_18 : decode cX4_knownSteps 18 = .ok (.if_icmp .le 31, 3) := by decide +kernel
theorem dX4_knownSteps_21 : decode cX4_knownSteps 21 = .ok (.iload_n 3, 1) := by decide +kernel
theorem dX4_knownSteps_22 : decode cX4_knownSteps 22 = .ok (.aload_n 0, 1) := by decide +kernel
theorem dX4_knownSteps_23 : decode cX4_knownSteps 23 = .ok (.getfield 54, 3) := by decide +kernel
theorem dX4_knownSteps_26 : decode cX4_knownSteps 26 = .ok (.iload 4, 2) := by decide +kernel
theorem dX4_knownSteps_28 : decode cX4_knownSteps 28 = .ok (.invokestatic 205, 3) := by decide +kernel
theorem dX4_knownSteps_31 : decode cX4_knownSteps 31 = .ok (.iadd, 1) := by decide +kernel
theorem dX4_knownSteps_32 : decode cX4_knownSteps 32 = .ok (.istore_n 3, 1) := by decide +kernel
theorem dX4_knownSteps_33 : decode cX4_knownSteps 33 = .ok (.iload 4, 2) := by decide +kernel
theorem dX4_knownSteps_35 : decode cX4_knownSteps 35 = .ok (.iload 4, 2) := by decide +kernel
theorem dX4_knownSteps_37 : decode cX4_knownSteps 37 = .ok (.invokestatic 114, 3) := by decide +kernel
theorem dX4_knownSteps_40 : decode cX4_knownSteps 40 = .ok (.isub, 1) := by decide +kernel
theorem dX4_knownSteps_41 : decode cX4_knownSteps 41 = .ok (.istore 4, 2) := by decide +kernel
theorem dX4_knownSteps_43 : decode cX4_knownSteps 43 = .ok (.iinc 5 1, 3) := by decide +kernel
theorem dX4_knownSteps_46 : decode cX4_knownSteps 46 = .ok (.goto (-38), 3) := by decide +kernel
theorem dX4_knownSteps_49 : decode cX4_knownSteps 49 = .ok (.iload_n 3, 1) := by decide +kernel
theorem dX4_knownSteps_50 : decode cX4_knownSteps 50 = .ok (.ireturn, 1) := by decide +kernel
theorem dX4_isWithin_0 : decode cX4_isWithin 0 = .ok (.iload_n 0, 1) := by decide +kernel
theorem dX4_isWithin_1 : decode cX4_isWithin 1 = .ok (.iload_n 1, 1) := by decide +kernel
theorem dX4_isWithin_2 : decode cX4_isWithin 2 = .ok (.if_icmp .lt 12, 3) := by decide +kernel
theorem dX4_isWithin_5 : decode cX4_isWithin 5 = .ok (.iload_n 0, 1) := by decide +kernel
theorem dX4_isWithin_6 : decode cX4_isWithin 6 = .ok (.iload_n 2, 1) := by decide +kernel
theorem dX4_isWithin_7 : decode cX4_isWithin 7 = .ok (.if_icmp .gt 7, 3) := by decide +kernel
theorem dX4_isWithin_10 : decode cX4_isWithin 10 = .ok (.iconst 1, 1) := by decide +kernel
theorem dX4_isWithin_11 : decode cX4_isWithin 11 = .ok (.goto 4, 3) := by decide +kernel
theorem dX4_isWithin_14 : decode cX4_isWithin 14 = .ok (.iconst 0, 1) := by decide +kernel
theorem dX4_isWithin_15 : decode cX4_isWithin 15 = .ok (.ireturn, 1) := by decide +kernel
set_option maxRecDepth 20000 in
theorem ggX4_isBay_X4_isWithin : GoodIn wsX4_isBay wsX4_isWithin := goodIn_r _ [4] (by decide +kernel) (by decide +kernel)
set_option maxRecDepth 20000 in
theorem gX4_isBay_X4_isWithin : GoodIn wsX4_isBay (va_wsS RX4 138 yX4_isWithin wsX4_isWithin) := goodIn_app (goodIn_of _ (by decide +kernel)) ggX4_isBay_X4_isWithin
theorem dX4_isBay_0 : decode cX4_isBay 0 = .ok (.iload_n 0, 1) := by decide +kernel
theorem dX4_isBay_1 : decode cX4_isBay 1 = .ok (.iconst 0, 1) := by decide +kernel
theorem dX4_isBay_2 : decode cX4_isBay 2 = .ok (.bipush 31, 2) := by decide +kernel
theorem dX4_isBay_4 : decode cX4_isBay 4 = .ok (.invokestatic 138, 3) := by decide +kernel
theorem dX4_isBay_7 : decode cX4_isBay 7 = .ok (.ireturn, 1) := by decide +kernel
set_option maxRecDepth 20000 in
theorem ggX4_isRung_X4_isWithin : GoodIn wsX4_isRung wsX4_isWithin := goodIn_r _ [4] (by decide +kernel) (by decide +kernel)
set_option maxRecDepth 20000 in
theorem gX4_isRung_X4_isWithin : GoodIn wsX4_isRung (va_wsS RX4 138 yX4_isWithin wsX4_isWithin) := goodIn_app (goodIn_of _ (by decide +kernel)) ggX4_isRung_X4_isWithin
theorem dX4_isRung_0 : decode cX4_isRung 0 = .ok (.iload_n 0, 1) := by decide +kernel
theorem dX4_isRung_1 : decode cX4_isRung 1 = .ok (.iconst 1, 1) := by decide +kernel
theorem dX4_isRung_2 : decode cX4_isRung 2 = .ok (.bipush 32, 2) := by decide +kernel
theorem dX4_isRung_4 : decode cX4_isRung 4 = .ok (.invokestatic 138, 3) := by decide +kernel
theorem dX4_isRung_7 : decode cX4_isRung 7 = .ok (.ireturn, 1) := by decide +kernel
set_option maxRecDepth 20000 in
theorem ggX4_isKind_X4_isWithin : GoodIn wsX4_isKind wsX4_isWithin := goodIn_r _ [4] (by decide +kernel) (by decide +kernel)
set_option maxRecDepth 20000 in
theorem gX4_isKind_X4_isWithin : GoodIn wsX4_isKind (va_wsS RX4 138 yX4_isWithin wsX4_isWithin) := goodIn_app (goodIn_of _ (by decide +kernel)) ggX4_isKind_X4_isWithin
theorem dX4_isKind_0 : decode cX4_isKind 0 = .ok (.iload_n 0, 1) := by decide +kernel
theorem dX4_isKind_1 : decode cX4_isKind 1 = .ok (.iconst 0, 1) := by decide +kernel
theorem dX4_isKind_2 : decode cX4_isKind 2 = .ok (.iconst 3, 1) := by decide +kernel
theorem dX4_isKind_3 : decode cX4_isKind 3 = .ok (.invokestatic 138, 3) := by decide +kernel
theorem dX4_isKind_6 : decode cX4_isKind 6 = .ok (.ireturn, 1) := by decide +kernel
theorem dX4_sizeOf_0 : decode cX4_sizeOf 0 = .ok (.iload_n 0, 1) := by decide +kernel
theorem dX4_sizeOf_1 : decode cX4_sizeOf 1 = .ok (.iload_n 0, 1) := by decide +kernel
theorem dX4_sizeOf_2 : decode cX4_sizeOf 2 = .ok (.ineg, 1) := by decide +kernel
theorem dX4_sizeOf_3 : decode cX4_sizeOf 3 = .ok (.iand, 1) := by decide +kernel
theorem dX4_sizeOf_4 : decode cX4_sizeOf 4 = .ok (.ireturn, 1) := by decide +kernel
set_option maxRecDepth 20000 in
theorem ggX4_loadOf_X4_sizeOf : GoodIn wsX4_loadOf wsX4_sizeOf := goodIn_r _ [4] (by decide +kernel) (by decide +kernel)
set_option maxRecDepth 20000 in
theorem gX4_loadOf_X4_sizeOf : GoodIn wsX4_loadOf (va_wsS RX4 114 yX4_sizeOf wsX4_sizeOf) := goodIn_app (goodIn_of _ (by decide +kernel)) ggX4_loadOf_X4_sizeOf
theorem dX4_loadOf_0 : decode cX4_loadOf 0 = .ok (.bipush 100, 2) := by decide +kernel
theorem dX4_loadOf_2 : decode cX4_loadOf 2 = .ok (.iload_n 0, 1) := by decide +kernel
theorem dX4_loadOf_3 : decode cX4_loadOf 3 = .ok (.invokestatic 114, 3) := by decide +kernel
theorem dX4_loadOf_6 : decode cX4_loadOf 6 = .ok (.imul, 1) := by decide +kernel
theorem dX4_loadOf_7 : decode cX4_loadOf 7 = .ok (.ireturn, 1) := by decide +kernel
set_option maxRecDepth 20000 in
theorem ggX4_firstBayOf_X4_sizeOf : GoodIn wsX4_firstBayOf wsX4_sizeOf := goodIn_r _ [4] (by decide +kernel) (by decide +kernel)
set_option maxRecDepth 20000 in
theorem gX4_firstBayOf_X4_sizeOf : GoodIn wsX4_firstBayOf (va_wsS RX4 114 yX4_sizeOf wsX4_sizeOf) := goodIn_app (goodIn_of _ (by decide +kernel)) ggX4_firstBayOf_X4_sizeOf
theorem dX4_firstBayOf_0 : decode cX4_firstBayOf 0 = .ok (.iload_n 0, 1) := by decide +kernel
theorem dX4_firstBayOf_1 : decode cX4_firstBayOf 1 = .ok (.iload_n 0, 1) := by decide +kernel
theorem dX4_firstBayOf_2 : decode cX4_firstBayOf 2 = .ok (.invokestatic 114, 3) := by decide +kernel
theorem dX4_firstBayOf_5 : decode cX4_firstBayOf 5 = .ok (.isub, 1) := by decide +kernel
theorem dX4_firstBayOf_6 : decode cX4_firstBayOf 6 = .ok (.ireturn, 1) := by decide +kernel
set_option maxRecDepth 20000 in
theorem ggX4_rungsBelow_X4_firstBayOf : GoodIn wsX4_rungsBelow wsX4_firstBayOf := goodIn_r _ [4, 5, 6, 3, 7] (by decide +kernel) (by decide +kernel)
set_option maxRecDepth 20000 in
theorem gX4_rungsBelow_X4_firstBayOf : GoodIn wsX4_rungsBelow (va_wsS RX4 126 yX4_firstBayOf wsX4_firstBayOf) := goodIn_app (goodIn_of _ (by decide +kernel)) ggX4_rungsBelow_X4_firstBayOf
set_option maxRecDepth 20000 in
theorem ggX4_rungsBelow_X4_sizeOf : GoodIn wsX4_rungsBelow wsX4_sizeOf := goodIn_r _ [7] (by decide +kernel) (by decide +kernel)
set_option maxRecDepth 20000 in
theorem gX4_rungsBelow_X4_sizeOf : GoodIn wsX4_rungsBelow (va_wsS RX4 114 yX4_sizeOf wsX4_sizeOf) := goodIn_app (goodIn_of _ (by decide +kernel)) ggX4_rungsBelow_X4_sizeOf
theorem dX4_rungsBelow_0 : decode cX4_rungsBelow 0 = .ok (.iconst 0, 1) := by decide +kernel
theorem dX4_rungsBelow_1 : decode cX4_rungsBelow 1 = .ok (.istore_n 1, 1) := by decide +kernel
theorem dX4_rungsBelow_2 : decode cX4_rungsBelow 2 = .ok (.iload_n 0, 1) := by decide +kernel
theorem dX4_rungsBelow_3 : decode cX4_rungsBelow 3 = .ok (.iconst 1, 1) := by decide +kernel
theorem dX4_rungsBelow_4 : decode cX4_rungsBelow 4 = .ok (.isub, 1) := by decide +kernel
theorem dX4_rungsBelow_5 : decode cX4_rungsBelow 5 = .ok (.istore_n 2, 1) := by decide +kernel
theorem dX4_rungsBelow_6 : decode cX4_rungsBelow 6 = .ok (.iconst 0, 1) := by decide +kernel
theorem dX4_rungsBelow_7 : decode cX4_rungsBelow 7 = .ok (.istore_n 3, 1) := by decide +kernel
theorem dX4_rungsBelow_8 : decode cX4_rungsBelow 8 = .ok (.iload_n 3, 1) := by decide +kernel
theorem dX4_rungsBelow_9 : decode cX4_rungsBelow 9 = .ok (.bipush 32, 2) := by decide +kernel
theorem dX4_rungsBelow_11 : decode cX4_rungsBelow 11 = .ok (.if_icmp .ge 27, 3) := by decide +kernel
theorem dX4_rungsBelow_14 : decode cX4_rungsBelow 14 = .ok (.iload_n 2, 1) := by decide +kernel
theorem dX4_rungsBelow_15 : decode cX4_rungsBelow 15 = .ok (.iload_n 0, 1) := by decide +kernel
theorem dX4_rungsBelow_16 : decode cX4_rungsBelow 16 = .ok (.invokestatic 126, 3) := by decide +kernel
theorem dX4_rungsBelow_19 : decode cX4_rungsBelow 19 = .ok (.if_icmp .le 19, 3) := by decide +kernel
theorem dX4_rungsBelow_22 : decode cX4_rungsBelow 22 = .ok (.iinc 1 1, 3) := by decide +kernel
theorem dX4_rungsBelow_25 : decode cX4_rungsBelow 25 = .ok (.iload_n 2, 1) := by decide +kernel
theorem dX4_rungsBelow_26 : decode cX4_rungsBelow 26 = .ok (.iload_n 2, 1) := by decide +kernel
theorem dX4_rungsBelow_27 : decode cX4_rungsBelow 27 = .ok (.invokestatic 114, 3) := by decide +kernel
theorem dX4_rungsBelow_30 : decode cX4_rungsBelow 30 = .ok (.isub, 1) := by decide +kernel
theorem dX4_rungsBelow_31 : decode cX4_rungsBelow 31 = .ok (.istore_n 2, 1) := by decide +kernel
theorem dX4_rungsBelow_32 : decode cX4_rungsBelow 32 = .ok (.iinc 3 1, 3) := by decide +kernel
theorem dX4_rungsBelow_35 : decode cX4_rungsBelow 35 = .ok (.goto (-27), 3) := by decide +kernel
theorem dX4_rungsBelow_38 : decode cX4_rungsBelow 38 = .ok (.iload_n 1, 1) := by decide +kernel
theorem dX4_rungsBelow_39 : decode cX4_rungsBelow 39 = .ok (.ireturn, 1) := by decide +kernel
theorem dX4_coinsFor_0 : decode cX4_coinsFor 0 = .ok (.iload_n 0, 1) := by decide +kernel
theorem dX4_coinsFor_1 : decode cX4_coinsFor 1 = .ok (.tableswitch 44 0 2 #[27, 36, 40], 27) := by decide +kernel
theorem dX4_coinsFor_28 : decode cX4_coinsFor 28 = .ok (.iconst 4, 1) := by decide +kernel
theorem dX4_coinsFor_29 : decode cX4_coinsFor 29 = .ok (.iload_n 1, 1) := by decide +kernel
theorem dX4_coinsFor_30 : decode cX4_coinsFor 30 = .ok (.imul, 1) := by decide +kernel
theorem dX4_coinsFor_31 : decode cX4_coinsFor 31 = .ok (.iload_n 1, 1) := by decide +kernel
theorem dX4_coinsFor_32 : decode cX4_coinsFor 32 = .ok (.bipush 10, 2) := by decide +kernel
theorem dX4_coinsFor_34 : decode cX4_coinsFor 34 = .ok (.idiv, 1) := by decide +kernel
theorem dX4_coinsFor_35 : decode cX4_coinsFor 35 = .ok (.isub, 1) := by decide +kernel
theorem dX4_coinsFor_36 : decode cX4_coinsFor 36 = .ok (.ireturn, 1) := by decide +kernel
theorem dX4_coinsFor_37 : decode cX4_coinsFor 37 = .ok (.iconst 3, 1) := by decide +kernel
theorem dX4_coinsFor_38 : decode cX4_coinsFor 38 = .ok (.iload_n 1, 1) := by decide +kernel
theorem dX4_coinsFor_39 : decode cX4_coinsFor 39 = .ok (.imul, 1) := by decide +kernel
theorem dX4_coinsFor_40 : decode cX4_coinsFor 40 = .ok (.ireturn, 1) := by decide +kernel
theorem dX4_coinsFor_41 : decode cX4_coinsFor 41 = .ok (.iconst 2, 1) := by decide +kernel
theorem dX4_coinsFor_42 : decode cX4_coinsFor 42 = .ok (.iload_n 1, 1) := by decide +kernel
theorem dX4_coinsFor_43 : decode cX4_coinsFor 43 = .ok (.imul, 1) := by decide +kernel
theorem dX4_coinsFor_44 : decode cX4_coinsFor 44 = .ok (.ireturn, 1) := by decide +kernel
theorem dX4_coinsFor_45 : decode cX4_coinsFor 45 = .ok (.iconst 3, 1) := by decide +kernel
theorem dX4_coinsFor_46 : decode cX4_coinsFor 46 = .ok (.iload_n 1, 1) := by decide +kernel
theorem dX4_coinsFor_47 : decode cX4_coinsFor 47 = .ok (.imul, 1) := by decide +kernel
theorem dX4_coinsFor_48 : decode cX4_coinsFor 48 = .ok (.iload_n 1, 1) := by decide +kernel
theorem dX4_coinsFor_49 : decode cX4_coinsFor 49 = .ok (.bipush 20, 2) := by decide +kernel
theorem dX4_coinsFor_51 : decode cX4_coinsFor 51 = .ok (.idiv, 1) := by decide +kernel
theorem dX4_coinsFor_52 : decode cX4_coinsFor 52 = .ok (.isub, 1) := by decide +kernel
theorem dX4_coinsFor_53 : decode cX4_coinsFor 53 = .ok (.ireturn, 1) := by decide +kernel
theorem dX4_at_0 : decode cX4_at 0 = .ok (.iload_n 1, 1) := by decide +kernel
theorem dX4_at_1 : decode cX4_at 1 = .ok (.ifCond .lt 15, 3) := by decide +kernel
theorem dX4_at_4 : decode cX4_at 4 = .ok (.iload_n 1, 1) := by decide +kernel
theorem dX4_at_5 : decode cX4_at 5 = .ok (.aload_n 0, 1) := by decide +kernel
theorem dX4_at_6 : decode cX4_at 6 = .ok (.arraylength, 1) := by decide +kernel
theorem dX4_at_7 : decode cX4_at 7 = .ok (.if_icmp .ge 9, 3) := by decide +kernel
theorem dX4_at_10 : decode cX4_at 10 = .ok (.aload_n 0, 1) := by decide +kernel
theorem dX4_at_11 : decode cX4_at 11 = .ok (.iload_n 1, 1) := by decide +kernel
theorem dX4_at_12 : decode cX4_at 12 = .ok (.iaload, 1) := by decide +kernel
theorem dX4_at_13 : decode cX4_at 13 = .ok (.goto 4, 3) := by decide +kernel
theorem dX4_at_16 : decode cX4_at 16 = .ok (.iconst 0, 1) := by decide +kernel
theorem dX4_at_17 : decode cX4_at 17 = .ok (.ireturn, 1) := by decide +kernel
theorem dX4_put_0 : decode cX4_put 0 = .ok (.iload_n 1, 1) := by decide +kernel
theorem dX4_put_1 : decode cX4_put 1 = .ok (.ifCond .lt 13, 3) := by decide +kernel
theorem dX4_put_4 : decode cX4_put 4 = .ok (.iload_n 1, 1) := by decide +kernel
theorem dX4_put_5 : decode cX4_put 5 = .ok (.aload_n 0, 1) := by decide +kernel
theorem dX4_put_6 : decode cX4_put 6 = .ok (.arraylength, 1) := by decide +kernel
theorem dX4_put_7 : decode cX4_put 7 = .ok (.if_icmp .ge 7, 3) := by decide +kernel
theorem dX4_put_10 : decode cX4_put 10 = .ok (.aload_n 0, 1) := by decide +kernel
theorem dX4_put_11 : decode cX4_put 11 = .ok (.iload_n 1, 1) := by decide +kernel
theorem dX4_put_12 : decode cX4_put 12 = .ok (.iload_n 2, 1) := by decide +kernel
theorem dX4_put_13 : decode cX4_put 13 = .ok (.iastore, 1) := by decide +kernel
theorem dX4_put_14 : decode cX4_put 14 = .ok (.return_, 1) := by decide +kernel
theorem dX4_copyRow_0 : decode cX4_copyRow 0 = .ok (.iconst 0, 1) := by decide +kernel
theorem dX4_copyRow_1 : decode cX4_copyRow 1 = .ok (.istore_n 2, 1) := by decide +kernel
theorem dX4_copyRow_2 : decode cX4_copyRow 2 = .ok (.iload_n 2, 1) := by decide +kernel
theorem dX4_copyRow_3 : decode cX4_copyRow 3 = .ok (.aload_n 0, 1) := by decide +kernel
theorem dX4_copyRow_4 : decode cX4_copyRow 4 = .ok (.arraylength, 1) := by decide +kernel
theorem dX4_copyRow_5 : decode cX4_copyRow 5 = .ok (.if_icmp .ge 21, 3) := by decide +kernel
theorem dX4_copyRow_8 : decode cX4_copyRow 8 = .ok (.iload_n 2, 1) := by decide +kernel
theorem dX4_copyRow_9 : decode cX4_copyRow 9 = .ok (.aload_n 1, 1) := by decide +kernel
theorem dX4_copyRow_10 : decode cX4_copyRow 10 = .ok (.arraylength, 1) := by decide +kernel
theorem dX4_copyRow_11 : decode cX4_copyRow 11 = .ok (.if_icmp .ge 15, 3) := by decide +kernel
theorem dX4_copyRow_14 : decode cX4_copyRow 14 = .ok (.aload_n 1, 1) := by decide +kernel
theorem dX4_copyRow_15 : decode cX4_copyRow 15 = .ok (.iload_n 2, 1) := by decide +kernel
theorem dX4_copyRow_16 : decode cX4_copyRow 16 = .ok (.aload_n 0, 1) := by decide +kernel
theorem dX4_copyRow_17 : decode cX4_copyRow 17 = .ok (.iload_n 2, 1) := by decide +kernel
theorem dX4_copyRow_18 : decode cX4_copyRow 18 = .ok (.iaload, 1) := by decide +kernel
theorem dX4_copyRow_19 : decode cX4_copyRow 19 = .ok (.iastore, 1) := by decide +kernel
theorem dX4_copyRow_20 : decode cX4_copyRow 20 = .ok (.iinc 2 1, 3) := by decide +kernel
theorem dX4_copyRow_23 : decode cX4_copyRow 23 = .ok (.goto (-21), 3) := by decide +kernel
theorem dX4_copyRow_26 : decode cX4_copyRow 26 = .ok (.return_, 1) := by decide +kernel
theorem dJ6_bitCount_0f7a4_0 : decode cJ6_bitCount_0f7a4 0 = .ok (.iload_n 0, 1) := by decide +kernel
theorem dJ6_bitCount_0f7a4_1 : decode cJ6_bitCount_0f7a4 1 = .ok (.iload_n 0, 1) := by decide +kernel
theorem dJ6_bitCount_0f7a4_2 : decode cJ6_bitCount_0f7a4 2 = .ok (.iconst 1, 1) := by decide +kernel
theorem dJ6_bitCount_0f7a4_3 : decode cJ6_bitCount_0f7a4 3 = .ok (.iushr, 1) := by decide +kernel
theorem dJ6_bitCount_0f7a4_4 : decode cJ6_bitCount_0f7a4 4 = .ok (.ldc_w 265, 3) := by decide +kernel
theorem dJ6_bitCount_0f7a4_7 : decode cJ6_bitCount_0f7a4 7 = .ok (.iand, 1) := by decide +kernel
theorem dJ6_bitCount_0f7a4_8 : decode cJ6_bitCount_0f7a4 8 = .ok (.isub, 1) := by decide +kernel
theorem dJ6_bitCount_0f7a4_9 : decode cJ6_bitCount_0f7a4 9 = .ok (.istore_n 0, 1) := by decide +kernel
theorem dJ6_bitCount_0f7a4_10 : decode cJ6_bitCount_0f7a4 10 = .ok (.iload_n 0, 1) := by decide +kernel
theorem dJ6_bitCount_0f7a4_11 : decode cJ6_bitCount_0f7a4 11 = .ok (.ldc_w 266, 3) := by decide +kernel
theorem dJ6_bitCount_0f7a4_14 : decode cJ6_bitCount_0f7a4 14 = .ok (.iand, 1) := by decide +kernel
theorem dJ6_bitCount_0f7a4_15 : decode cJ6_bitCount_0f7a4 15 = .ok (.iload_n 0, 1) := by decide +kernel
theorem dJ6_bitCount_0f7a4_16 : decode cJ6_bitCount_0f7a4 16 = .ok (.iconst 2, 1) := by decide +kernel
theorem dJ6_bitCount_0f7a4_17 : decode cJ6_bitCount_0f7a4 17 = .ok (.iushr, 1) := by decide +kernel
theorem dJ6_bitCount_0f7a4_18 : decode cJ6_bitCount_0f7a4 18 = .ok (.ldc_w 266, 3) := by decide +kernel
theorem dJ6_bitCount_0f7a4_21 : decode cJ6_bitCount_0f7a4 21 = .ok (.iand, 1) := by decide +kernel
theorem dJ6_bitCount_0f7a4_22 : decode cJ6_bitCount_0f7a4 22 = .ok (.iadd, 1) := by decide +kernel
theorem dJ6_bitCount_0f7a4_23 : decode cJ6_bitCount_0f7a4 23 = .ok (.istore_n 0, 1) := by decide +kernel
theorem dJ6_bitCount_0f7a4_24 : decode cJ6_bitCount_0f7a4 24 = .ok (.iload_n 0, 1) := by decide +kernel
theorem dJ6_bitCount_0f7a4_25 : decode cJ6_bitCount_0f7a4 25 = .ok (.iload_n 0, 1) := by decide +kernel
theorem dJ6_bitCount_0f7a4_26 : decode cJ6_bitCount_0f7a4 26 = .ok (.iconst 4, 1) := by decide +kernel
theorem dJ6_bitCount_0f7a4_27 : decode cJ6_bitCount_0f7a4 27 = .ok (.iushr, 1) := by decide +kernel
theorem dJ6_bitCount_0f7a4_28 : decode cJ6_bitCount_0f7a4 28 = .ok (.iadd, 1) := by decide +kernel
theorem dJ6_bitCount_0f7a4_29 : decode cJ6_bitCount_0f7a4 29 = .ok (.ldc_w 267, 3) := by decide +kernel
theorem dJ6_bitCount_0f7a4_32 : decode cJ6_bitCount_0f7a4 32 = .ok (.iand, 1) := by decide +kernel
theorem dJ6_bitCount_0f7a4_33 : decode cJ6_bitCount_0f7a4 33 = .ok (.istore_n 0, 1) := by decide +kernel
theorem dJ6_bitCount_0f7a4_34 : decode cJ6_bitCount_0f7a4 34 = .ok (.iload_n 0, 1) := by decide +kernel
theorem dJ6_bitCount_0f7a4_35 : decode cJ6_bitCount_0f7a4 35 = .ok (.iload_n 0, 1) := by decide +kernel
theorem dJ6_bitCount_0f7a4_36 : decode cJ6_bitCount_0f7a4 36 = .ok (.bipush 8, 2) := by decide +kernel
theorem dJ6_bitCount_0f7a4_38 : decode cJ6_bitCount_0f7a4 38 = .ok (.iushr, 1) := by decide +kernel
theorem dJ6_bitCount_0f7a4_39 : decode cJ6_bitCount_0f7a4 39 = .ok (.iadd, 1) := by decide +kernel
theorem dJ6_bitCount_0f7a4_40 : decode cJ6_bitCount_0f7a4 40 = .ok (.istore_n 0, 1) := by decide +kernel
theorem dJ6_bitCount_0f7a4_41 : decode cJ6_bitCount_0f7a4 41 = .ok (.iload_n 0, 1) := by decide +kernel
theorem dJ6_bitCount_0f7a4_42 : decode cJ6_bitCount_0f7a4 42 = .ok (.iload_n 0, 1) := by decide +kernel
theorem dJ6_bitCount_0f7a4_43 : decode cJ6_bitCount_0f7a4 43 = .ok (.bipush 16, 2) := by decide +kernel
theorem dJ6_bitCount_0f7a4_45 : decode cJ6_bitCount_0f7a4 45 = .ok (.iushr, 1) := by decide +kernel
theorem dJ6_bitCount_0f7a4_46 : decode cJ6_bitCount_0f7a4 46 = .ok (.iadd, 1) := by decide +kernel
theorem dJ6_bitCount_0f7a4_47 : decode cJ6_bitCount_0f7a4 47 = .ok (.istore_n 0, 1) := by decide +kernel
theorem dJ6_bitCount_0f7a4_48 : decode cJ6_bitCount_0f7a4 48 = .ok (.iload_n 0, 1) := by decide +kernel
theorem dJ6_bitCount_0f7a4_49 : decode cJ6_bitCount_0f7a4 49 = .ok (.bipush 63, 2) := by decide +kernel
theorem dJ6_bitCount_0f7a4_51 : decode cJ6_bitCount_0f7a4 51 = .ok (.iand, 1) := by decide +kernel
theorem dJ6_bitCount_0f7a4_52 : decode cJ6_bitCount_0f7a4 52 = .ok (.ireturn, 1) := by decide +kernel
theorem dJ9_max_7cf53_0 : decode cJ9_max_7cf53 0 = .ok (.iload_n 0, 1) := by decide +kernel
theorem dJ9_max_7cf53_1 : decode cJ9_max_7cf53 1 = .ok (.iload_n 1, 1) := by decide +kernel
theorem dJ9_max_7cf53_2 : decode cJ9_max_7cf53 2 = .ok (.if_icmp .lt 7, 3) := by decide +kernel
theorem dJ9_max_7cf53_5 : decode cJ9_max_7cf53 5 = .ok (.iload_n 0, 1) := by decide +kernel
theorem dJ9_max_7cf53_6 : decode cJ9_max_7cf53 6 = .ok (.goto 4, 3) := by decide +kernel
theorem dJ9_max_7cf53_9 : decode cJ9_max_7cf53 9 = .ok (.iload_n 1, 1) := by decide +kernel
theorem dJ9_max_7cf53_10 : decode cJ9_max_7cf53 10 = .ok (.ireturn, 1) := by decide +kernel
theorem dJ9_min_7cf53_0 : decode cJ9_min_7cf53 0 = .ok (.iload_n 0, 1) := by decide +kernel
theorem dJ9_min_7cf53_1 : decode cJ9_min_7cf53 1 = .ok (.iload_n 1, 1) := by decide +kernel
theorem dJ9_min_7cf53_2 : decode cJ9_min_7cf53 2 = .ok (.if_icmp .gt 7, 3) := by decide +kernel
theorem dJ9_min_7cf53_5 : decode cJ9_min_7cf53 5 = .ok (.iload_n 0, 1) := by decide +kernel
theorem dJ9_min_7cf53_6 : decode cJ9_min_7cf53 6 = .ok (.goto 4, 3) := by decide +kernel
theorem dJ9_min_7cf53_9 : decode cJ9_min_7cf53 9 = .ok (.iload_n 1, 1) := by decide +kernel
theorem dJ9_min_7cf53_10 : decode cJ9_min_7cf53 10 = .ok (.ireturn, 1) := by decide +kernel
set_option maxRecDepth 20000 in
theorem ggJ0_length_8abf5_J0_coder_7d493 : GoodIn wsJ0_length_8abf5 wsJ0_coder_7d493 := goodIn_r _ [6, 7, 8] (by decide +kernel) (by decide +kernel)
set_option maxRecDepth 20000 in
theorem gJ0_length_8abf5_J0_coder_7d493 : GoodIn wsJ0_length_8abf5 (wsV RJ0 335 RJ0 yJ0_coder_7d493 wsJ0_coder_7d493) := goodIn_app (goodIn_of _ (by decide +kernel)) ggJ0_length_8abf5_J0_coder_7d493
theorem dJ0_length_8abf5_0 : decode cJ0_length_8abf5 0 = .ok (.aload_n 0, 1) := by decide +kernel
theorem dJ0_length_8abf5_1 : decode cJ0_length_8abf5 1 = .ok (.getfield 9, 3) := by decide +kernel
theorem dJ0_length_8abf5_4 : decode cJ0_length_8abf5 4 = .ok (.arraylength, 1) := by decide +kernel
theorem dJ0_length_8abf5_5 : decode cJ0_length_8abf5 5 = .ok (.aload_n 0, 1) := by decide +kernel
theorem dJ0_length_8abf5_6 : decode cJ0_length_8abf5 6 = .ok (.invokevirtual 335, 3) := by decide +kernel
theorem dJ0_length_8abf5_9 : decode cJ0_length_8abf5 9 = .ok (.ishr, 1) := by decide +kernel
theorem dJ0_length_8abf5_10 : decode cJ0_length_8abf5 10 = .ok (.ireturn, 1) := by decide +kernel
theorem dJ0_isEmpty_aae02_0 : decode cJ0_isEmpty_aae02 0 = .ok (.aload_n 0, 1) := by decide +kernel
theorem dJ0_isEmpty_aae02_1 : decode cJ0_isEmpty_aae02 1 = .ok (.getfield 9, 3) := by decide +kernel
theorem dJ0_isEmpty_aae02_4 : decode cJ0_isEmpty_aae02 4 = .ok (.arraylength, 1) := by decide +kernel
theorem dJ0_isEmpty_aae02_5 : decode cJ0_isEmpty_aae02 5 = .ok (.ifCond .ne 7, 3) := by decide +kernel
theorem dJ0_isEmpty_aae02_8 : decode cJ0_isEmpty_aae02 8 = .ok (.iconst 1, 1) := by decide +kernel
theorem dJ0_isEmpty_aae02_9 : decode cJ0_isEmpty_aae02 9 = .ok (.goto 4, 3) := by decide +kernel
theorem dJ0_isEmpty_aae02_12 : decode cJ0_isEmpty_aae02 12 = .ok (.iconst 0, 1) := by decide +kernel
theorem dJ0_isEmpty_aae02_13 : decode cJ0_isEmpty_aae02 13 = .ok (.ireturn, 1) := by decide +kernel
set_option maxRecDepth 20000 in
theorem ggJ0_charAt_5068e_J0_isLatin1_aae02 : GoodIn wsJ0_charAt_5068e wsJ0_isLatin1_aae02 := goodIn_r _ [6, 7, 8] (by decide +kernel) (by decide +kernel)
set_option maxRecDepth 20000 in
theorem gJ0_charAt_5068e_J0_isLatin1_aae02 : GoodIn wsJ0_charAt_5068e (wsV RJ0 492 RJ0 yJ0_isLatin1_aae02 wsJ0_isLatin1_aae02) := goodIn_app (goodIn_of _ (by decide +kernel)) ggJ0_charAt_5068e_J0_isLatin1_aae02
set_option maxRecDepth 20000 in
theorem ggJ0_charAt_5068e_J1_charAt_3b067 : GoodIn wsJ0_charAt_5068e wsJ1_charAt_3b067 := goodIn_r _ [12, 13, 14, 5, 15, 16, 17, 18, 19, 20] (by decide +kernel) (by decide +kernel)
set_option maxRecDepth 20000 in
theorem gJ0_charAt_5068e_J1_charAt_3b067 : GoodIn wsJ0_charAt_5068e (va_wsS RJ0 495 yJ1_charAt_3b067 wsJ1_charAt_3b067) := goodIn_app (goodIn_of _ (by decide +kernel)) ggJ0_charAt_5068e_J1_charAt_3b067
set_option maxRecDepth 20000 in
theorem ggJ0_charAt_5068e_J2_charAt_3b067 : GoodIn wsJ0_charAt_5068e wsJ2_charAt_3b067 := goodIn_r _ [24, 25, 26, 23, 27, 28, 29, 30, 31, 14, 5, 15, 16, 17, 18, 19, 20, 32, 33, 34, 35, 36, 37] (by decide +kernel) (by decide +kernel)
set_option maxRecDepth 20000 in
theorem gJ0_charAt_5068e_J2_charAt_3b067 : GoodIn wsJ0_charAt_5068e (va_wsS RJ0 498 yJ2_charAt_3b067 wsJ2_charAt_3b067) := goodIn_app (goodIn_of _ (by decide +kernel)) ggJ0_charAt_5068e_J2_charAt_3b067
theorem dJ0_charAt_5068e_0 : decode cJ0_charAt_5068e 0 = .ok (.aload_n 0, 1) := by decide +kernel
theorem dJ0_charAt_5068e_1 : decode cJ0_charAt_5068e 1 = .ok (.invokevirtual 492, 3) := by decide +kernel
theorem dJ0_charAt_5068e_4 : decode cJ0_charAt_5068e 4 = .ok (.ifCond .eq 12, 3) := by decide +kernel
theorem dJ0_charAt_5068e_7 : decode cJ0_charAt_5068e 7 = .ok (.aload_n 0, 1) := by decide +kernel
theorem dJ0_charAt_5068e_8 : decode cJ0_charAt_5068e 8 = .ok (.getfield 9, 3) := by decide +kernel
theorem dJ0_charAt_5068e_11 : decode cJ0_charAt_5068e 11 = .ok (.iload_n 1, 1) := by decide +kernel
theorem dJ0_charAt_5068e_12 : decode cJ0_charAt_5068e 12 = .ok (.invokestatic 495, 3) := by decide +kernel
theorem dJ0_charAt_5068e_15 : decode cJ0_charAt_5068e 15 = .ok (.ireturn, 1) := by decide +kernel
theorem dJ0_charAt_5068e_16 : decode cJ0_charAt_5068e 16 = .ok (.aload_n 0, 1) := by decide +kernel
theorem dJ0_charAt_5068e_17 : decode cJ0_charAt_5068e 17 = .ok (.getfield 9, 3) := by decide +kernel
theorem dJ0_charAt_5068e_20 : decode cJ0_charAt_5068e 20 = .ok (.iload_n 1, 1) := by decide +kernel
theorem dJ0_charAt_5068e_21 : decode cJ0_charAt_5068e 21 = .ok (.invokestatic 498, 3) := by decide +kernel
theorem dJ0_charAt_5068e_24 : decode cJ0_charAt_5068e 24 = .ok (.ireturn, 1) := by decide +kernel
theorem dJ0_coder_7d493_0 : decode cJ0_coder_7d493 0 = .ok (.getstatic 38, 3) := by decide +kernel
theorem dJ0_coder_7d493_3 : decode cJ0_coder_7d493 3 = .ok (.ifCond .eq 10, 3) := by decide +kernel
theorem dJ0_coder_7d493_6 : decode cJ0_coder_7d493 6 = .ok (.aload_n 0, 1) := by decide +kernel
theorem dJ0_coder_7d493_7 : decode cJ0_coder_7d493 7 = .ok (.getfield 15, 3) := by decide +kernel
theorem dJ0_coder_7d493_10 : decode cJ0_coder_7d493 10 = .ok (.goto 4, 3) := by decide +kernel
theorem dJ0_coder_7d493_13 : decode cJ0_coder_7d493 13 = .ok (.iconst 1, 1) := by decide +kernel
theorem dJ0_coder_7d493_14 : decode cJ0_coder_7d493 14 = .ok (.ireturn, 1) := by decide +kernel
theorem dJ0_isLatin1_aae02_0 : decode cJ0_isLatin1_aae02 0 = .ok (.getstatic 38, 3) := by decide +kernel
theorem dJ0_isLatin1_aae02_3 : decode cJ0_isLatin1_aae02 3 = .ok (.ifCond .eq 14, 3) := by decide +kernel
theorem dJ0_isLatin1_aae02_6 : decode cJ0_isLatin1_aae02 6 = .ok (.aload_n 0, 1) := by decide +kernel
theorem dJ0_isLatin1_aae02_7 : decode cJ0_isLatin1_aae02 7 = .ok (.getfield 15, 3) := by decide +kernel
theorem dJ0_isLatin1_aae02_10 : decode cJ0_isLatin1_aae02 10 = .ok (.ifCond .ne 7, 3) := by decide +kernel
theorem dJ0_isLatin1_aae02_13 : decode cJ0_isLatin1_aae02 13 = .ok (.iconst 1, 1) := by decide +kernel
theorem dJ0_isLatin1_aae02_14 : decode cJ0_isLatin1_aae02 14 = .ok (.goto 4, 3) := by decide +kernel
theorem dJ0_isLatin1_aae02_17 : decode cJ0_isLatin1_aae02 17 = .ok (.iconst 0, 1) := by decide +kernel
theorem dJ0_isLatin1_aae02_18 : decode cJ0_isLatin1_aae02 18 = .ok (.ireturn, 1) := by decide +kernel
set_option maxRecDepth 20000 in
theorem ggJ0_checkIndex_df160_J3_checkIndex_8e157 : GoodIn wsJ0_checkIndex_df160 wsJ3_checkIndex_8e157 := goodIn_r _ [5] (by decide +kernel) (by decide +kernel)
set_option maxRecDepth 20000 in
theorem gJ0_checkIndex_df160_J3_checkIndex_8e157 : GoodIn wsJ0_checkIndex_df160 (va_wsS RJ0 1059 yJ3_checkIndex_8e157 wsJ3_checkIndex_8e157) := goodIn_app (goodIn_of _ (by decide +kernel)) ggJ0_checkIndex_df160_J3_checkIndex_8e157
theorem dJ0_checkIndex_df160_0 : decode cJ0_checkIndex_df160 0 = .ok (.iload_n 0, 1) := by decide +kernel
theorem dJ0_checkIndex_df160_1 : decode cJ0_checkIndex_df160 1 = .ok (.iload_n 1, 1) := by decide +kernel
theorem dJ0_checkIndex_df160_2 : decode cJ0_checkIndex_df160 2 = .ok (.getstatic 1053, 3) := by decide +kernel
theorem dJ0_checkIndex_df160_5 : decode cJ0_checkIndex_df160 5 = .ok (.invokestatic 1059, 3) := by decide +kernel
theorem dJ0_checkIndex_df160_8 : decode cJ0_checkIndex_df160 8 = .ok (.pop, 1) := by decide +kernel
theorem dJ0_checkIndex_df160_9 : decode cJ0_checkIndex_df160 9 = .ok (.return_, 1) := by decide +kernel
set_option maxRecDepth 20000 in
theorem ggJ1_charAt_3b067_J0_checkIndex_df160 : GoodIn wsJ1_charAt_3b067 wsJ0_checkIndex_df160 := goodIn_r _ [4, 5, 6, 7, 8, 9] (by decide +kernel) (by decide +kernel)
set_option maxRecDepth 20000 in
theorem gJ1_charAt_3b067_J0_checkIndex_df160 : GoodIn wsJ1_charAt_3b067 (va_wsS RJ1 9 yJ0_checkIndex_df160 wsJ0_checkIndex_df160) := goodIn_app (goodIn_of _ (by decide +kernel)) ggJ1_charAt_3b067_J0_checkIndex_df160
theorem dJ1_charAt_3b067_0 : decode cJ1_charAt_3b067 0 = .ok (.iload_n 1, 1) := by decide +kernel
theorem dJ1_charAt_3b067_1 : decode cJ1_charAt_3b067 1 = .ok (.aload_n 0, 1) := by decide +kernel
theorem dJ1_charAt_3b067_2 : decode cJ1_charAt_3b067 2 = .ok (.arraylength, 1) := by decide +kernel
theorem dJ1_charAt_3b067_3 : decode cJ1_charAt_3b067 3 = .ok (.invokestatic 9, 3) := by decide +kernel
theorem dJ1_charAt_3b067_6 : decode cJ1_charAt_3b067 6 = .ok (.aload_n 0, 1) := by decide +kernel
theorem dJ1_charAt_3b067_7 : decode cJ1_charAt_3b067 7 = .ok (.iload_n 1, 1) := by decide +kernel
theorem dJ1_charAt_3b067_8 : decode cJ1_charAt_3b067 8 = .ok (.baload, 1) := by decide +kernel
theorem dJ1_charAt_3b067_9 : decode cJ1_charAt_3b067 9 = .ok (.sipush 255, 3) := by decide +kernel
theorem dJ1_charAt_3b067_12 : decode cJ1_charAt_3b067 12 = .ok (.iand, 1) := by decide +kernel
theorem dJ1_charAt_3b067_13 : decode cJ1_charAt_3b067 13 = .ok (.i2c, 1) := by decide +kernel
theorem dJ1_charAt_3b067_14 : decode cJ1_charAt_3b067 14 = .ok (.ireturn, 1) := by decide +kernel
set_option maxRecDepth 20000 in
theorem ggJ2_getChar_3b067_J2_length_9d52b : GoodIn wsJ2_getChar_3b067 wsJ2_length_9d52b := goodIn_r _ [7] (by decide +kernel) (by decide +kernel)
set_option maxRecDepth 20000 in
theorem gJ2_getChar_3b067_J2_length_9d52b : GoodIn wsJ2_getChar_3b067 (va_wsS RJ2 48 yJ2_length_9d52b wsJ2_length_9d52b) := goodIn_app (goodIn_of _ (by decide +kernel)) ggJ2_getChar_3b067_J2_length_9d52b
theorem dJ2_getChar_3b067_0 : decode cJ2_getChar_3b067 0 = .ok (.getstatic 44, 3) := by decide +kernel
theorem dJ2_getChar_3b067_3 : decode cJ2_getChar_3b067 3 = .ok (.ifCond .ne 25, 3) := by decide +kernel
theorem dJ2_getChar_3b067_6 : decode cJ2_getChar_3b067 6 = .ok (.iload_n 1, 1) := by decide +kernel
theorem dJ2_getChar_3b067_7 : decode cJ2_getChar_3b067 7 = .ok (.ifCond .lt 11, 3) := by decide +kernel
theorem dJ2_getChar_3b067_10 : decode cJ2_getChar_3b067 10 = .ok (.iload_n 1, 1) := by decide +kernel
theorem dJ2_getChar_3b067_11 : decode cJ2_getChar_3b067 11 = .ok (.aload_n 0, 1) := by decide +kernel
theorem dJ2_getChar_3b067_12 : decode cJ2_getChar_3b067 12 = .ok (.invokestatic 48, 3) := by decide +kernel
theorem dJ2_getChar_3b067_15 : decode cJ2_getChar_3b067 15 = .ok (.if_icmp .lt 13, 3) := by decide +kernel
theorem dJ2_getChar_3b067_18 : decode cJ2_getChar_3b067 18 = .ok (.new 52, 3) := by decide +kernel
theorem dJ2_getChar_3b067_21 : decode cJ2_getChar_3b067 21 = .ok (.dup, 1) := by decide +kernel
theorem dJ2_getChar_3b067_22 : decode cJ2_getChar_3b067 22 = .ok (.ldc 54, 2) := by decide +kernel
theorem dJ2_getChar_3b067_24 : decode cJ2_getChar_3b067 24 = .ok (.invokespecial 56, 3) := by decide +kernel
theorem dJ2_getChar_3b067_27 : decode cJ2_getChar_3b067 27 = .ok (.athrow, 1) := by decide +kernel
theorem dJ2_getChar_3b067_28 : decode cJ2_getChar_3b067 28 = .ok (.iload_n 1, 1) := by decide +kernel
theorem dJ2_getChar_3b067_29 : decode cJ2_getChar_3b067 29 = .ok (.iconst 1, 1) := by decide +kernel
theorem dJ2_getChar_3b067_30 : decode cJ2_getChar_3b067 30 = .ok (.ishl, 1) := by decide +kernel
theorem dJ2_getChar_3b067_31 : decode cJ2_getChar_3b067 31 = .ok (.istore_n 1, 1) := by decide +kernel
theorem dJ2_getChar_3b067_32 : decode cJ2_getChar_3b067 32 = .ok (.aload_n 0, 1) := by decide +kernel
theorem dJ2_getChar_3b067_33 : decode cJ2_getChar_3b067 33 = .ok (.iload_n 1, 1) := by decide +kernel
theorem dJ2_getChar_3b067_34 : decode cJ2_getChar_3b067 34 = .ok (.iinc 1 1, 3) := by decide +kernel
theorem dJ2_getChar_3b067_37 : decode cJ2_getChar_3b067 37 = .ok (.baload, 1) := by decide +kernel
theorem dJ2_getChar_3b067_38 : decode cJ2_getChar_3b067 38 = .ok (.sipush 255, 3) := by decide +kernel
theorem dJ2_getChar_3b067_41 : decode cJ2_getChar_3b067 41 = .ok (.iand, 1) := by decide +kernel
theorem dJ2_getChar_3b067_42 : decode cJ2_getChar_3b067 42 = .ok (.getstatic 59, 3) := by decide +kernel
theorem dJ2_getChar_3b067_45 : decode cJ2_getChar_3b067 45 = .ok (.ishl, 1) := by decide +kernel
theorem dJ2_getChar_3b067_46 : decode cJ2_getChar_3b067 46 = .ok (.aload_n 0, 1) := by decide +kernel
theorem dJ2_getChar_3b067_47 : decode cJ2_getChar_3b067 47 = .ok (.iload_n 1, 1) := by decide +kernel
theorem dJ2_getChar_3b067_48 : decode cJ2_getChar_3b067 48 = .ok (.baload, 1) := by decide +kernel
theorem dJ2_getChar_3b067_49 : decode cJ2_getChar_3b067 49 = .ok (.sipush 255, 3) := by decide +kernel
theorem dJ2_getChar_3b067_52 : decode cJ2_getChar_3b067 52 = .ok (.iand, 1) := by decide +kernel
theorem dJ2_getChar_3b067_53 : decode cJ2_getChar_3b067 53 = .ok (.getstatic 63, 3) := by decide +kernel
theorem dJ2_getChar_3b067_56 : decode cJ2_getChar_3b067 56 = .ok (.ishl, 1) := by decide +kernel
theorem dJ2_getChar_3b067_57 : decode cJ2_getChar_3b067 57 = .ok (.ior, 1) := by decide +kernel
theorem dJ2_getChar_3b067_58 : decode cJ2_getChar_3b067 58 = .ok (.i2c, 1) := by decide +kernel
theorem dJ2_getChar_3b067_59 : decode cJ2_getChar_3b067 59 = .ok (.ireturn, 1) := by decide +kernel
theorem dJ2_length_9d52b_0 : decode cJ2_length_9d52b 0 = .ok (.aload_n 0, 1) := by decide +kernel
theorem dJ2_length_9d52b_1 : decode cJ2_length_9d52b 1 = .ok (.arraylength, 1) := by decide +kernel
theorem dJ2_length_9d52b_2 : decode cJ2_length_9d52b 2 = .ok (.iconst 1, 1) := by decide +kernel
theorem dJ2_length_9d52b_3 : decode cJ2_length_9d52b 3 = .ok (.ishr, 1) := by decide +kernel
theorem dJ2_length_9d52b_4 : decode cJ2_length_9d52b 4 = .ok (.ireturn, 1) := by decide +kernel
set_option maxRecDepth 20000 in
theorem ggJ2_charAt_3b067_J2_checkIndex_2214a : GoodIn wsJ2_charAt_3b067 wsJ2_checkIndex_2214a := goodIn_r _ [4, 5, 6, 3, 7, 8, 9, 10, 11, 12, 13, 14, 15, 16] (by decide +kernel) (by decide +kernel)
set_option maxRecDepth 20000 in
theorem gJ2_charAt_3b067_J2_checkIndex_2214a : GoodIn wsJ2_charAt_3b067 (va_wsS RJ2 67 yJ2_checkIndex_2214a wsJ2_checkIndex_2214a) := goodIn_app (goodIn_of _ (by decide +kernel)) ggJ2_charAt_3b067_J2_checkIndex_2214a
set_option maxRecDepth 20000 in
theorem ggJ2_charAt_3b067_J2_getChar_3b067 : GoodIn wsJ2_charAt_3b067 wsJ2_getChar_3b067 := goodIn_r _ [19, 20, 21, 22, 5, 6, 3, 7] (by decide +kernel) (by decide +kernel)
set_option maxRecDepth 20000 in
theorem gJ2_charAt_3b067_J2_getChar_3b067 : GoodIn wsJ2_charAt_3b067 (va_wsS RJ2 71 yJ2_getChar_3b067 wsJ2_getChar_3b067) := goodIn_app (goodIn_of _ (by decide +kernel)) ggJ2_charAt_3b067_J2_getChar_3b067
theorem dJ2_charAt_3b067_0 : decode cJ2_charAt_3b067 0 = .ok (.iload_n 1, 1) := by decide +kernel
theorem dJ2_charAt_3b067_1 : decode cJ2_charAt_3b067 1 = .ok (.aload_n 0, 1) := by decide +kernel
theorem dJ2_charAt_3b067_2 : decode cJ2_charAt_3b067 2 = .ok (.invokestatic 67, 3) := by decide +kernel
theorem dJ2_charAt_3b067_5 : decode cJ2_charAt_3b067 5 = .ok (.aload_n 0, 1) := by decide +kernel
theorem dJ2_charAt_3b067_6 : decode cJ2_charAt_3b067 6 = .ok (.iload_n 1, 1) := by decide +kernel
theorem dJ2_charAt_3b067_7 : decode cJ2_charAt_3b067 7 = .ok (.invokestatic 71, 3) := by decide +kernel
theorem dJ2_charAt_3b067_10 : decode cJ2_charAt_3b067 10 = .ok (.ireturn, 1) := by decide +kernel
set_option maxRecDepth 20000 in
theorem ggJ2_checkIndex_2214a_J2_length_9d52b : GoodIn wsJ2_checkIndex_2214a wsJ2_length_9d52b := goodIn_r _ [4] (by decide +kernel) (by decide +kernel)
set_option maxRecDepth 20000 in
theorem gJ2_checkIndex_2214a_J2_length_9d52b : GoodIn wsJ2_checkIndex_2214a (va_wsS RJ2 48 yJ2_length_9d52b wsJ2_length_9d52b) := goodIn_app (goodIn_of _ (by decide +kernel)) ggJ2_checkIndex_2214a_J2_length_9d52b
set_option maxRecDepth 20000 in
theorem ggJ2_checkIndex_2214a_J0_checkIndex_df160 : GoodIn wsJ2_checkIndex_2214a wsJ0_checkIndex_df160 := goodIn_r _ [8, 9, 10, 11, 12, 13] (by decide +kernel) (by decide +kernel)
set_option maxRecDepth 20000 in
theorem gJ2_checkIndex_2214a_J0_checkIndex_df160 : GoodIn wsJ2_checkIndex_2214a (va_wsS RJ2 414 yJ0_checkIndex_df160 wsJ0_checkIndex_df160) := goodIn_app (goodIn_of _ (by decide +kernel)) ggJ2_checkIndex_2214a_J0_checkIndex_df160
theorem dJ2_checkIndex_2214a_0 : decode cJ2_checkIndex_2214a 0 = .ok (.iload_n 0, 1) := by decide +kernel
theorem dJ2_checkIndex_2214a_1 : decode cJ2_checkIndex_2214a 1 = .ok (.aload_n 1, 1) := by decide +kernel
theorem dJ2_checkIndex_2214a_2 : decode cJ2_checkIndex_2214a 2 = .ok (.invokestatic 48, 3) := by decide +kernel
theorem dJ2_checkIndex_2214a_5 : decode cJ2_checkIndex_2214a 5 = .ok (.invokestatic 414, 3) := by decide +kernel
theorem dJ2_checkIndex_2214a_8 : decode cJ2_checkIndex_2214a 8 = .ok (.return_, 1) := by decide +kernel
theorem dJ3_checkIndex_8e157_0 : decode cJ3_checkIndex_8e157 0 = .ok (.iload_n 0, 1) := by decide +kernel
theorem dJ3_checkIndex_8e157_1 : decode cJ3_checkIndex_8e157 1 = .ok (.ifCond .lt 8, 3) := by decide +kernel
theorem dJ3_checkIndex_8e157_4 : decode cJ3_checkIndex_8e157 4 = .ok (.iload_n 0, 1) := by decide +kernel
theorem dJ3_checkIndex_8e157_5 : decode cJ3_checkIndex_8e157 5 = .ok (.iload_n 1, 1) := by decide +kernel
theorem dJ3_checkIndex_8e157_6 : decode cJ3_checkIndex_8e157 6 = .ok (.if_icmp .lt 10, 3) := by decide +kernel
theorem dJ3_checkIndex_8e157_9 : decode cJ3_checkIndex_8e157 9 = .ok (.aload_n 2, 1) := by decide +kernel
theorem dJ3_checkIndex_8e157_10 : decode cJ3_checkIndex_8e157 10 = .ok (.iload_n 0, 1) := by decide +kernel
theorem dJ3_checkIndex_8e157_11 : decode cJ3_checkIndex_8e157 11 = .ok (.iload_n 1, 1) := by decide +kernel
theorem dJ3_checkIndex_8e157_12 : decode cJ3_checkIndex_8e157 12 = .ok (.invokestatic 95, 3) := by decide +kernel
theorem dJ3_checkIndex_8e157_15 : decode cJ3_checkIndex_8e157 15 = .ok (.athrow, 1) := by decide +kernel
theorem dJ3_checkIndex_8e157_16 : decode cJ3_checkIndex_8e157 16 = .ok (.iload_n 0, 1) := by decide +kernel
theorem dJ3_checkIndex_8e157_17 : decode cJ3_checkIndex_8e157 17 = .ok (.ireturn, 1) := by decide +kernel
theorem dL_cell_0 : decode cL_cell 0 = .ok (.aload_n 0, 1) := by decide +kernel
theorem dL_cell_1 : decode cL_cell 1 = .ok (.arraylength, 1) := by decide +kernel
theorem dL_cell_2 : decode cL_cell 2 = .ok (.ifCond .ne 11, 3) := by decide +kernel
theorem dL_cell_5 : decode cL_cell 5 = .ok (.sipush 577, 3) := by decide +kernel
theorem dL_cell_8 : decode cL_cell 8 = .ok (.iload_n 1, 1) := by decide +kernel
theorem dL_cell_9 : decode cL_cell 9 = .ok (.imul, 1) := by decide +kernel
theorem dL_cell_10 : decode cL_cell 10 = .ok (.goto 12, 3) := by decide +kernel
theorem dL_cell_13 : decode cL_cell 13 = .ok (.aload_n 0, 1) := by decide +kernel
theorem dL_cell_14 : decode cL_cell 14 = .ok (.iload_n 1, 1) := by decide +kernel
theorem dL_cell_15 : decode cL_cell 15 = .ok (.ldc 7, 2) := by decide +kernel
theorem dL_cell_17 : decode cL_cell 17 = .ok (.iand, 1) := by decide +kernel
theorem dL_cell_18 : decode cL_cell 18 = .ok (.aload_n 0, 1) := by decide +kernel
theorem dL_cell_19 : decode cL_cell 19 = .ok (.arraylength, 1) := by decide +kernel
theorem dL_cell_20 : decode cL_cell 20 = .ok (.irem, 1) := by decide +kernel
theorem dL_cell_21 : decode cL_cell 21 = .ok (.iaload, 1) := by decide +kernel
theorem dL_cell_22 : decode cL_cell 22 = .ok (.ireturn, 1) := by decide +kernel
set_option maxRecDepth 20000 in
theorem ggL_write_J0_length_8abf5 : GoodIn wsL_write wsJ0_length_8abf5 := goodIn_r _ [5, 6, 7, 8, 9, 4, 10, 11, 12] (by decide +kernel) (by decide +kernel)
set_option maxRecDepth 20000 in
theorem gL_write_J0_length_8abf5 : GoodIn wsL_write (wsV RL 8 RJ0 yJ0_length_8abf5 wsJ0_length_8abf5) := goodIn_app (goodIn_of _ (by decide +kernel)) ggL_write_J0_length_8abf5
set_option maxRecDepth 20000 in
theorem ggL_write_J0_charAt_5068e : GoodIn wsL_write wsJ0_charAt_5068e := goodIn_r _ [16, 6, 17, 18, 19, 4, 20, 11, 12, 21, 22, 23, 24, 25, 26, 27, 28, 29, 30, 31, 32, 33, 34, 35, 36, 37, 38, 39, 40, 41, 42, 43, 44, 45, 46, 47, 48, 49] (by decide +kernel) (by decide +kernel)
set_option maxRecDepth 20000 in
theorem gL_write_J0_charAt_5068e : GoodIn wsL_write (wsV RL 14 RJ0 yJ0_charAt_5068e wsJ0_charAt_5068e) := goodIn_app (goodIn_of _ (by decide +kernel)) ggL_write_J0_charAt_5068e
set_option maxRecDepth 20000 in
theorem ggL_write_X4_append : GoodIn wsL_write wsX4_append := goodIn_r _ [54, 55, 56, 57, 53, 58, 59, 60, 61, 62, 63, 64, 65, 66, 67, 68, 69, 70, 71, 72, 73, 74, 75, 76, 77, 78, 79, 80, 81, 82, 83] (by decide +kernel) (by decide +kernel)
set_option maxRecDepth 20000 in
theorem gL_write_X4_append : GoodIn wsL_write (wsV RL 18 RX4 yX4_append wsX4_append) := goodIn_app (goodIn_of _ (by decide +kernel)) ggL_write_X4_append
theorem dL_write_0 : decode cL_write 0 = .ok (.iconst 0, 1) := by decide +kernel
theorem dL_write_1 : decode cL_write 1 = .ok (.istore_n 2, 1) := by decide +kernel
theorem dL_write_2 : decode cL_write 2 = .ok (.iload_n 2, 1) := by decide +kernel
theorem dL_write_3 : decode cL_write 3 = .ok (.aload_n 1, 1) := by decide +kernel
theorem dL_write_4 : decode cL_write 4 = .ok (.invokevirtual 8, 3) := by decide +kernel
theorem dL_write_7 : decode cL_write 7 = .ok (.if_icmp .ge 19, 3) := by decide +kernel
theorem dL_write_10 : decode cL_write 10 = .ok (.aload_n 0, 1) := by decide +kernel
theorem dL_write_11 : decode cL_write 11 = .ok (.aload_n 1, 1) := by decide +kernel
theorem dL_write_12 : decode cL_write 12 = .ok (.iload_n 2, 1) := by decide +kernel
theorem dL_write_13 : decode cL_write 13 = .ok (.invokevirtual 14, 3) := by decide +kernel
theorem dL_write_16 : decode cL_write 16 = .ok (.invokevirtual 18, 3) := by decide +kernel
theorem dL_write_19 : decode cL_write 19 = .ok (.pop, 1) := by decide +kernel
theorem dL_write_20 : decode cL_write 20 = .ok (.iinc 2 1, 3) := by decide +kernel
theorem dL_write_23 : decode cL_write 23 = .ok (.goto (-21), 3) := by decide +kernel
theorem dL_write_26 : decode cL_write 26 = .ok (.aload_n 0, 1) := by decide +kernel
theorem dL_write_27 : decode cL_write 27 = .ok (.areturn, 1) := by decide +kernel
set_option maxRecDepth 20000 in
theorem ggL_act_X4_store : GoodIn wsL_act wsX4_store := goodIn_r _ [11, 12, 13, 14, 15, 16, 17, 18, 19, 20, 21, 22, 23, 24, 25, 10, 26, 27, 28, 29, 30, 31, 32, 33, 34, 35, 36, 37, 38, 39, 40, 41, 42, 43, 44, 45, 46, 47, 48, 49, 50, 51, 52, 53, 54, 55, 56, 57, 58, 59, 60, 61, 62, 63, 64, 65, 66, 67, 68, 69, 70, 71, 72, 73, 74, 75, 76, 77, 78, 79, 80, 81, 82, 83, 84, 85, 86, 87, 88, 89, 90, 91, 92, 93, 94, 95, 96, 97, 98, 99, 100, 101, 102, 103, 104, 105, 106, 107, 108, 109, 110, 111, 112, 113, 114, 115, 116, 117, 118, 5, 119, 120, 386, 387, 388, 389, 390, 391, 392, 393, 394, 395, 396, 397, 398, 399, 400, 401, 402, 403, 404] (by decide +kernel) (by decide +kernel)
set_option maxRecDepth 20000 in
theorem gL_act_X4_store : GoodIn wsL_act (wsV RL 24 RX4 yX4_store wsX4_store) := goodIn_app (goodIn_of _ (by decide +kernel)) ggL_act_X4_store
set_option maxRecDepth 20000 in
theorem ggL_act_X4_take : GoodIn wsL_act wsX4_take := goodIn_r _ [124, 12, 13, 14, 15, 16, 17, 18, 19, 20, 21, 22, 23, 24, 25, 10, 26, 125, 126, 127, 128, 31, 32, 33, 34, 35, 36, 129, 130, 131, 132, 54, 55, 56, 57, 48, 49, 133, 134, 135, 136, 44, 45, 46, 47, 62, 63, 64, 65, 66, 67, 137, 138, 139, 140, 82, 83, 84, 85, 72, 73, 86, 87, 141, 68, 69, 70, 71, 104, 105, 106, 107, 108, 109, 110, 111, 112, 113, 114, 115, 116, 117, 118, 5, 119, 120, 386, 387, 388, 389, 390, 391, 392, 393, 394, 395, 396, 397, 398, 399, 400, 401, 402, 403, 404] (by decide +kernel) (by decide +kernel)
set_option maxRecDepth 20000 in
theorem gL_act_X4_take : GoodIn wsL_act (wsV RL 28 RX4 yX4_take wsX4_take) := goodIn_app (goodIn_of _ (by decide +kernel)) ggL_act_X4_take
set_option maxRecDepth 20000 in
theorem ggL_act_X4_move : GoodIn wsL_act wsX4_move := goodIn_r _ [145, 12, 13, 14, 15, 16, 17, 18, 19, 20, 21, 22, 23, 24, 25, 10, 26, 146, 147, 148, 149, 150, 4, 5, 6, 31, 32, 33, 34, 35, 36, 62, 63, 64, 65, 66, 67, 129, 130, 131, 132, 54, 55, 56, 57, 48, 49, 133, 134, 135, 136, 44, 45, 46, 47, 50, 51, 52, 53, 40, 41, 42, 43, 58, 59, 60, 61, 74, 75, 76, 77, 137, 138, 139, 140, 82, 83, 84, 85, 72, 73, 86, 87, 141, 68, 69, 70, 71, 78, 79, 80, 81, 88, 89, 90, 91, 92, 93, 94, 95, 96, 97, 98, 99, 100, 101, 102, 103, 104, 105, 106, 107, 108, 109, 110, 111, 112, 113, 114, 115, 116, 117, 118, 119, 120, 386, 387, 388, 389, 390, 391, 392, 393, 394, 395, 396, 397, 398, 399, 400, 401, 402, 403, 404] (by decide +kernel) (by decide +kernel)
set_option maxRecDepth 20000 in
theorem gL_act_X4_move : GoodIn wsL_act (wsV RL 32 RX4 yX4_move wsX4_move) := goodIn_app (goodIn_of _ (by decide +kernel)) ggL_act_X4_move
set_option maxRecDepth 20000 in
theorem ggL_act_X4_order : GoodIn wsL_act wsX4_order := goodIn_r _ [154, 12, 13, 14, 15, 16, 17, 18, 19, 20, 21, 22, 23, 24, 25, 10, 26, 155, 156, 157, 158, 159, 118, 5, 119, 37, 38, 39, 34, 35, 36, 160, 161, 162, 163, 164, 51, 52, 53, 48, 49, 165, 55, 56, 57, 62, 63, 64, 65, 66, 67, 166, 167, 168, 169, 141, 45, 46, 47, 170, 75, 76, 77, 54, 137, 138, 139, 140, 82, 83, 84, 85, 72, 73, 86, 87, 68, 69, 70, 71, 171, 172, 173, 104, 105, 106, 107, 108, 109, 110, 111, 112, 113, 114, 115, 116, 117, 120, 386, 387, 388, 389, 390, 391, 392, 393, 394, 395, 396, 397, 398, 399, 400, 401, 402, 403, 404] (by decide +kernel) (by decide +kernel)
set_option maxRecDepth 20000 in
theorem gL_act_X4_order : GoodIn wsL_act (wsV RL 35 RX4 yX4_order wsX4_order) := goodIn_app (goodIn_of _ (by decide +kernel)) ggL_act_X4_order
set_option maxRecDepth 20000 in
theorem ggL_act_X4_fix : GoodIn wsL_act wsX4_fix := goodIn_r _ [177, 12, 13, 14, 15, 16, 17, 18, 19, 20, 21, 22, 23, 24, 25, 10, 26, 178, 179, 180, 181, 182, 183, 184, 34, 35, 36, 185, 93, 94, 95, 48, 49, 62, 63, 64, 65, 66, 67, 186, 97, 98, 99, 187, 100, 101, 102, 86, 87, 188, 189, 190, 191, 192, 193, 194, 195, 72, 73, 68, 69, 70, 71, 104, 105, 106, 107, 108, 109, 110, 111, 112, 113, 114, 115, 116, 117, 118, 5, 119, 120, 386, 387, 388, 389, 390, 391, 392, 393, 394, 395, 396, 397, 398, 399, 400, 401, 402, 403, 404] (by decide +kernel) (by decide +kernel)
set_option maxRecDepth 20000 in
theorem gL_act_X4_fix : GoodIn wsL_act (wsV RL 38 RX4 yX4_fix wsX4_fix) := goodIn_app (goodIn_of _ (by decide +kernel)) ggL_act_X4_fix
set_option maxRecDepth 20000 in
theorem ggL_act_X4_pass : GoodIn wsL_act wsX4_pass := goodIn_r _ [199, 12, 13, 14, 15, 16, 17, 18, 19, 20, 21, 22, 23, 24, 25, 10, 26, 200, 201, 202, 203, 34, 35, 36, 204, 205, 206, 207, 141, 45, 46, 47, 48, 49, 170, 75, 76, 77, 72, 73, 208, 209, 210, 211, 164, 51, 52, 53, 165, 55, 56, 57, 212, 138, 139, 140, 82, 83, 84, 85, 86, 87, 68, 69, 70, 71, 104, 105, 106, 107, 108, 109, 110, 111, 112, 113, 114, 115, 116, 117, 118, 5, 119, 120, 386, 387, 388, 389, 390, 391, 392, 393, 394, 395, 396, 397, 398, 399, 400, 401, 402, 403, 404] (by decide +kernel) (by decide +kernel)
set_option maxRecDepth 20000 in
theorem gL_act_X4_pass : GoodIn wsL_act (wsV RL 41 RX4 yX4_pass wsX4_pass) := goodIn_app (goodIn_of _ (by decide +kernel)) ggL_act_X4_pass
set_option maxRecDepth 20000 in
theorem ggL_act_L_write : GoodIn wsL_act wsL_write := goodIn_r _ [216, 217, 218, 219, 220, 221, 222, 223, 224, 225, 226, 227, 228, 229, 230, 231, 232, 233, 234, 235, 236, 237, 238, 239, 240, 241, 242, 243, 244, 245, 246, 247, 248, 249, 250, 251, 252, 253, 254, 255, 256, 257, 258, 259, 260, 261, 262, 263, 264, 265, 266, 267, 268, 10, 269, 270, 34, 35, 36, 271, 272, 273, 274, 275, 276, 277, 72, 73, 386, 387, 388, 389, 390, 391, 392, 393, 394, 395, 405, 406, 407, 408, 409, 410] (by decide +kernel) (by decide +kernel)
set_option maxRecDepth 20000 in
theorem gL_act_L_write : GoodIn wsL_act (va_wsS RL 50 yL_write wsL_write) := goodIn_app (goodIn_of _ (by decide +kernel)) ggL_act_L_write
set_option maxRecDepth 20000 in
theorem ggL_act_X4_run : GoodIn wsL_act wsX4_run := goodIn_r _ [281, 270, 12, 13, 282, 283, 284, 274, 285, 286, 287, 276, 288, 289, 290, 291, 292, 293, 294, 295, 296, 297, 298, 220, 299, 222, 300, 301, 302, 303, 277, 48, 10, 49, 304, 230, 231, 232, 233, 234, 235, 236, 227, 228, 237, 238, 239, 240, 241, 242, 243, 244, 245, 246, 247, 248, 249, 250, 251, 252, 253, 254, 255, 256, 257, 258, 259, 260, 261, 262, 263, 264, 265, 305, 306, 307, 308, 309, 72, 73, 310, 311, 312, 313, 314, 218, 219, 221, 223, 224, 225, 226, 315, 316, 317, 318, 35, 36, 319, 320, 321, 322, 323, 324, 325, 326, 327, 328, 329, 330, 331, 332, 333, 334, 14, 15, 16, 17, 18, 19, 20, 21, 22, 23, 24, 25, 26, 335, 336, 337, 338, 339, 340, 341, 342, 343, 344, 345, 346, 347, 348, 349, 350, 27, 28, 29, 30, 31, 32, 33, 34, 37, 38, 39, 40, 41, 42, 43, 44, 45, 46, 47, 50, 51, 52, 53, 54, 55, 56, 57, 58, 59, 60, 61, 62, 63, 64, 65, 66, 67, 68, 69, 70, 71, 74, 75, 76, 77, 78, 79, 80, 81, 82, 83, 84, 85, 86, 87, 88, 89, 90, 91, 92, 93, 94, 95, 96, 97, 98, 99, 100, 101, 102, 103, 125, 126, 127, 128, 129, 130, 131, 132, 133, 134, 135, 136, 137, 138, 139, 140, 141, 146, 147, 148, 149, 150, 4, 5, 6, 155, 156, 157, 158, 159, 118, 119, 160, 161, 162, 163, 164, 165, 166, 167, 168, 169, 170, 171, 172, 173, 178, 179, 180, 181, 182, 183, 184, 185, 186, 187, 188, 189, 190, 191, 192, 193, 194, 195, 200, 201, 202, 203, 204, 205, 206, 207, 208, 209, 210, 211, 212, 104, 105, 106, 107, 108, 109, 110, 111, 112, 113, 114, 115, 116, 117, 120, 386, 387, 388, 389, 390, 391, 392, 393, 394, 395, 405, 406, 407, 408, 409, 410, 396, 397, 398, 399, 400, 401, 402, 403, 404] (by decide +kernel) (by decide +kernel)
set_option maxRecDepth 20000 in
theorem gL_act_X4_run : GoodIn wsL_act (wsV RL 54 RX4 yX4_run wsX4_run) := goodIn_app (goodIn_of _ (by decide +kernel)) ggL_act_X4_run
set_option maxRecDepth 20000 in
theorem ggL_act_X4_save : GoodIn wsL_act wsX4_save := goodIn_r _ [354, 355, 13, 356, 14, 15, 16, 17, 18, 19, 20, 21, 22, 23, 24, 25, 10, 26, 357, 358, 359, 360, 361, 362, 363, 364, 165, 55, 56, 57, 48, 49, 386, 387, 388, 389, 390, 391, 392, 393, 394, 395, 396, 397, 398, 399, 400, 401] (by decide +kernel) (by decide +kernel)
set_option maxRecDepth 20000 in
theorem gL_act_X4_save : GoodIn wsL_act (wsV RL 62 RX4 yX4_save wsX4_save) := goodIn_app (goodIn_of _ (by decide +kernel)) ggL_act_X4_save
set_option maxRecDepth 20000 in
theorem ggL_act_X4_restore : GoodIn wsL_act wsX4_restore := goodIn_r _ [368, 356, 13, 355, 108, 14, 15, 16, 17, 18, 19, 20, 21, 22, 23, 24, 25, 10, 26, 369, 370, 371, 112, 372, 116, 357, 358, 359, 360, 361, 362, 363, 364, 165, 55, 56, 57, 48, 49, 386, 387, 388, 389, 390, 391, 392, 393, 394, 395, 396, 397, 398, 399, 400, 401, 402, 403, 404] (by decide +kernel) (by decide +kernel)
set_option maxRecDepth 20000 in
theorem gL_act_X4_restore : GoodIn wsL_act (wsV RL 65 RX4 yX4_restore wsX4_restore) := goodIn_app (goodIn_of _ (by decide +kernel)) ggL_act_X4_restore
set_option maxRecDepth 20000 in
theorem ggL_act_X4_undo : GoodIn wsL_act wsX4_undo := goodIn_r _ [376, 108, 13, 377, 378, 379, 112, 380, 116, 381, 382, 383, 384, 114, 385, 4, 5, 6, 115, 120, 15, 16, 17, 18, 19, 20, 21, 22, 23, 24, 25, 10, 26, 386, 387, 388, 389, 390, 391, 392, 393, 394, 395, 402, 403, 404, 396, 397, 398, 399, 400, 401] (by decide +kernel) (by decide +kernel)
set_option maxRecDepth 20000 in
theorem gL_act_X4_undo : GoodIn wsL_act (wsV RL 68 RX4 yX4_undo wsX4_undo) := goodIn_app (goodIn_of _ (by decide +kernel)) ggL_act_X4_undo
theorem dL_act_0 : decode cL_act 0 = .ok (.iload_n 1, 1) := by decide +kernel
theorem dL_act_1 : decode cL_act 1 = .ok (.iconst 4, 1) := by decide +kernel
theorem dL_act_2 : decode cL_act 2 = .ok (.ishr, 1) := by decide +kernel
theorem dL_act_3 : decode cL_act 3 = .ok (.ldc 7, 2) := by decide +kernel
theorem dL_act_5 : decode cL_act 5 = .ok (.iand, 1) := by decide +kernel
theorem dL_act_6 : decode cL_act 6 = .ok (.istore_n 2, 1) := by decide +kernel
theorem dL_act_7 : decode cL_act 7 = .ok (.iload_n 2, 1) := by decide +kernel
theorem dL_act_8 : decode cL_act 8 = .ok (.iconst 1, 1) := by decide +kernel
theorem dL_act_9 : decode cL_act 9 = .ok (.iand, 1) := by decide +kernel
theorem dL_act_10 : decode cL_act 10 = .ok (.ifCond .ne 12, 3) := by decide +kernel
theorem dL_act_13 : decode cL_act 13 = .ok (.iload_n 2, 1) := by decide +kernel
theorem dL_act_14 : decode cL_act 14 = .ok (.iconst 1, 1) := by decide +kernel
theorem dL_act_15 : decode cL_act 15 = .ok (.ishr, 1) := by decide +kernel
theorem dL_act_16 : decode cL_act 16 = .ok (.bipush 33, 2) := by decide +kernel
theorem dL_act_18 : decode cL_act 18 = .ok (.irem, 1) := by decide +kernel
theorem dL_act_19 : decode cL_act 19 = .ok (.goto 9, 3) := by decide +kernel
theorem dL_act_22 : decode cL_act 22 = .ok (.iload_n 2, 1) := by decide +kernel
theorem dL_act_23 : decode cL_act 23 = .ok (.iconst 1, 1) := by decide +kernel
theorem dL_act_24 : decode cL_act 24 = .ok (.ishr, 1) := by decide +kernel
theorem dL_act_25 : decode cL_act 25 = .ok (.bipush 6, 2) := by decide +kernel
theorem dL_act_27 : decode cL_act 27 = .ok (.irem, 1) := by decide +kernel
theorem dL_act_28 : decode cL_act 28 = .ok (.istore_n 3, 1) := by decide +kernel
theorem dL_act_29 : decode cL_act 29 = .ok (.iload_n 1, 1) := by decide +kernel
theorem dL_act_30 : decode cL_act 30 = .ok (.bipush 15, 2) := by decide +kernel
theorem dL_act_32 : decode cL_act 32 = .ok (.iand, 1) := by decide +kernel
theorem dL_act_33 : decode cL_act 33 = .ok (.tableswitch 218 0 14 #[75, 75, 75, 75, 75, 109, 121, 121, 121, 140, 157, 157, 168, 195, 195], 75) := by decide +kernel
theorem dL_act_108 : decode cL_act 108 = .ok (.aload_n 0, 1) := by decide +kernel
theorem dL_act_109 : decode cL_act 109 = .ok (.iload_n 3, 1) := by decide +kernel
theorem dL_act_110 : decode cL_act 110 = .ok (.iload_n 2, 1) := by decide +kernel
theorem dL_act_111 : decode cL_act 111 = .ok (.bipush 7, 2) := by decide +kernel
theorem dL_act_113 : decode cL_act 113 = .ok (.ishr, 1) := by decide +kernel
theorem dL_act_114 : decode cL_act 114 = .ok (.iconst 5, 1) := by decide +kernel
theorem dL_act_115 : decode cL_act 115 = .ok (.irem, 1) := by decide +kernel
theorem dL_act_116 : decode cL_act 116 = .ok (.iload_n 2, 1) := by decide +kernel
theorem dL_act_117 : decode cL_act 117 = .ok (.iconst 5, 1) := by decide +kernel
theorem dL_act_118 : decode cL_act 118 = .ok (.ishr, 1) := by decide +kernel
theorem dL_act_119 : decode cL_act 119 = .ok (.bipush 8, 2) := by decide +kernel
theorem dL_act_121 : decode cL_act 121 = .ok (.irem, 1) := by decide +kernel
theorem dL_act_122 : decode cL_act 122 = .ok (.ifCond .ne 9, 3) := by decide +kernel
theorem dL_act_125 : decode cL_act 125 = .ok (.sipush 200, 3) := by decide +kernel
theorem dL_act_128 : decode cL_act 128 = .ok (.goto 10, 3) := by decide +kernel
theorem dL_act_131 : decode cL_act 131 = .ok (.iload_n 2, 1) := by decide +kernel
theorem dL_act_132 : decode cL_act 132 = .ok (.iconst 4, 1) := by decide +kernel
theorem dL_act_133 : decode cL_act 133 = .ok (.ishr, 1) := by decide +kernel
theorem dL_act_134 : decode cL_act 134 = .ok (.sipush 202, 3) := by decide +kernel
theorem dL_act_137 : decode cL_act 137 = .ok (.irem, 1) := by decide +kernel
theorem dL_act_138 : decode cL_act 138 = .ok (.invokevirtual 24, 3) := by decide +kernel
theorem dL_act_141 : decode cL_act 141 = .ok (.ireturn, 1) := by decide +kernel
theorem dL_act_142 : decode cL_act 142 = .ok (.aload_n 0, 1) := by decide +kernel
theorem dL_act_143 : decode cL_act 143 = .ok (.iload_n 3, 1) := by decide +kernel
theorem dL_act_144 : decode cL_act 144 = .ok (.iload_n 2, 1) := by decide +kernel
theorem dL_act_145 : decode cL_act 145 = .ok (.iconst 5, 1) := by decide +kernel
theorem dL_act_146 : decode cL_act 146 = .ok (.ishr, 1) := by decide +kernel
theorem dL_act_147 : decode cL_act 147 = .ok (.bipush 60, 2) := by decide +kernel
theorem dL_act_149 : decode cL_act 149 = .ok (.irem, 1) := by decide +kernel
theorem dL_act_150 : decode cL_act 150 = .ok (.invokevirtual 28, 3) := by decide +kernel
theorem dL_act_153 : decode cL_act 153 = .ok (.ireturn, 1) := by decide +kernel
theorem dL_act_154 : decode cL_act 154 = .ok (.aload_n 0, 1) := by decide +kernel
theorem dL_act_155 : decode cL_act 155 = .ok (.iload_n 3, 1) := by decide +kernel
theorem dL_act_156 : decode cL_act 156 = .ok (.iload_n 2, 1) := by decide +kernel
theorem dL_act_157 : decode cL_act 157 = .ok (.bipush 8, 2) := by decide +kernel
theorem dL_act_159 : decode cL_act 159 = .ok (.ishr, 1) := by decide +kernel
theorem dL_act_160 : decode cL_act 160 = .ok (.bipush 8, 2) := by decide +kernel
theorem dL_act_162 : decode cL_act 162 = .ok (.irem, 1) := by decide +kernel
theorem dL_act_163 : decode cL_act 163 = .ok (.iload_n 2, 1) := by decide +kernel
theorem dL_act_164 : decode cL_act 164 = .ok (.iconst 4, 1) := by decide +kernel
theorem dL_act_165 : decode cL_act 165 = .ok (.ishr, 1) := by decide +kernel
theorem dL_act_166 : decode cL_act 166 = .ok (.bipush 120, 2) := by decide +kernel
theorem dL_act_168 : decode cL_act 168 = .ok (.irem, 1) := by decide +kernel
theorem dL_act_169 : decode cL_act 169 = .ok (.invokevirtual 32, 3) := by decide +kernel
theorem dL_act_172 : decode cL_act 172 = .ok (.ireturn, 1) := by decide +kernel
theorem dL_act_173 : decode cL_act 173 = .ok (.aload_n 0, 1) := by decide +kernel
theorem dL_act_174 : decode cL_act 174 = .ok (.iload_n 2, 1) := by decide +kernel
theorem dL_act_175 : decode cL_act 175 = .ok (.iconst 1, 1) := by decide +kernel
theorem dL_act_176 : decode cL_act 176 = .ok (.ishr, 1) := by decide +kernel
theorem dL_act_177 : decode cL_act 177 = .ok (.iconst 5, 1) := by decide +kernel
theorem dL_act_178 : decode cL_act 178 = .ok (.irem, 1) := by decide +kernel
theorem dL_act_179 : decode cL_act 179 = .ok (.iload_n 2, 1) := by decide +kernel
theorem dL_act_180 : decode cL_act 180 = .ok (.iconst 3, 1) := by decide +kernel
theorem dL_act_181 : decode cL_act 181 = .ok (.ishr, 1) := by decide +kernel
theorem dL_act_182 : decode cL_act 182 = .ok (.sipush 300, 3) := by decide +kernel
theorem dL_act_185 : decode cL_act 185 = .ok (.irem, 1) := by decide +kernel
theorem dL_act_186 : decode cL_act 186 = .ok (.invokevirtual 35, 3) := by decide +kernel
theorem dL_act_189 : decode cL_act 189 = .ok (.ireturn, 1) := by decide +kernel
theorem dL_act_190 : decode cL_act 190 = .ok (.aload_n 0, 1) := by decide +kernel
theorem dL_act_191 : decode cL_act 191 = .ok (.iload_n 2, 1) := by decide +kernel
theorem dL_act_192 : decode cL_act 192 = .ok (.iconst 1, 1) := by decide +kernel
theorem dL_act_193 : decode cL_act 193 = .ok (.ishr, 1) := by decide +kernel
theorem dL_act_194 : decode cL_act 194 = .ok (.bipush 34, 2) := by decide +kernel
theorem dL_act_196 : decode cL_act 196 = .ok (.irem, 1) := by decide +kernel
theorem dL_act_197 : decode cL_act 197 = .ok (.invokevirtual 38, 3) := by decide +kernel
theorem dL_act_200 : decode cL_act 200 = .ok (.ireturn, 1) := by decide +kernel
theorem dL_act_201 : decode cL_act 201 = .ok (.aload_n 0, 1) := by decide +kernel
theorem dL_act_202 : decode cL_act 202 = .ok (.iload_n 2, 1) := by decide +kernel
theorem dL_act_203 : decode cL_act 203 = .ok (.bipush 7, 2) := by decide +kernel
theorem dL_act_205 : decode cL_act 205 = .ok (.iand, 1) := by decide +kernel
theorem dL_act_206 : decode cL_act 206 = .ok (.ifCond .ne 12, 3) := by decide +kernel
theorem dL_act_209 : decode cL_act 209 = .ok (.iload_n 2, 1) := by decide +kernel
theorem dL_act_210 : decode cL_act 210 = .ok (.iconst 3, 1) := by decide +kernel
theorem dL_act_211 : decode cL_act 211 = .ok (.ishr, 1) := by decide +kernel
theorem dL_act_212 : decode cL_act 212 = .ok (.bipush 54, 2) := by decide +kernel
theorem dL_act_214 : decode cL_act 214 = .ok (.irem, 1) := by decide +kernel
theorem dL_act_215 : decode cL_act 215 = .ok (.goto 9, 3) := by decide +kernel
theorem dL_act_218 : decode cL_act 218 = .ok (.iconst 1, 1) := by decide +kernel
theorem dL_act_219 : decode cL_act 219 = .ok (.iload_n 2, 1) := by decide +kernel
theorem dL_act_220 : decode cL_act 220 = .ok (.bipush 6, 2) := by decide +kernel
theorem dL_act_222 : decode cL_act 222 = .ok (.irem, 1) := by decide +kernel
theorem dL_act_223 : decode cL_act 223 = .ok (.iadd, 1) := by decide +kernel
theorem dL_act_224 : decode cL_act 224 = .ok (.invokevirtual 41, 3) := by decide +kernel
theorem dL_act_227 : decode cL_act 227 = .ok (.ireturn, 1) := by decide +kernel
theorem dL_act_228 : decode cL_act 228 = .ok (.bipush (-14), 2) := by decide +kernel
theorem dL_act_230 : decode cL_act 230 = .ok (.aload_n 0, 1) := by decide +kernel
theorem dL_act_231 : decode cL_act 231 = .ok (.getstatic 44, 3) := by decide +kernel
theorem dL_act_234 : decode cL_act 234 = .ok (.iload_n 2, 1) := by decide +kernel
theorem dL_act_235 : decode cL_act 235 = .ok (.getstatic 44, 3) := by decide +kernel
theorem dL_act_238 : decode cL_act 238 = .ok (.arraylength, 1) := by decide +kernel
theorem dL_act_239 : decode cL_act 239 = .ok (.irem, 1) := by decide +kernel
theorem dL_act_240 : decode cL_act 240 = .ok (.aaload, 1) := by decide +kernel
theorem dL_act_241 : decode cL_act 241 = .ok (.invokestatic 50, 3) := by decide +kernel
theorem dL_act_244 : decode cL_act 244 = .ok (.invokevirtual 54, 3) := by decide +kernel
theorem dL_act_247 : decode cL_act 247 = .ok (.invokestatic 57, 3) := by decide +kernel
theorem dL_act_250 : decode cL_act 250 = .ok (.ireturn, 1) := by decide +kernel
theorem dL_act_251 : decode cL_act 251 = .ok (.iload_n 2, 1) := by decide +kernel
theorem dL_act_252 : decode cL_act 252 = .ok (.iconst 3, 1) := by decide +kernel
theorem dL_act_253 : decode cL_act 253 = .ok (.iand, 1) := by decide +kernel
theorem dL_act_254 : decode cL_act 254 = .ok (.ifCond .ne 10, 3) := by decide +kernel
theorem dL_act_257 : decode cL_act 257 = .ok (.aload_n 0, 1) := by decide +kernel
theorem dL_act_258 : decode cL_act 258 = .ok (.invokevirtual 62, 3) := by decide +kernel
theorem dL_act_261 : decode cL_act 261 = .ok (.goto 21, 3) := by decide +kernel
theorem dL_act_264 : decode cL_act 264 = .ok (.iload_n 2, 1) := by decide +kernel
theorem dL_act_265 : decode cL_act 265 = .ok (.iconst 3, 1) := by decide +kernel
theorem dL_act_266 : decode cL_act 266 = .ok (.iand, 1) := by decide +kernel
theorem dL_act_267 : decode cL_act 267 = .ok (.iconst 1, 1) := by decide +kernel
theorem dL_act_268 : decode cL_act 268 = .ok (.if_icmp .ne 10, 3) := by decide +kernel
theorem dL_act_271 : decode cL_act 271 = .ok (.aload_n 0, 1) := by decide +kernel
theorem dL_act_272 : decode cL_act 272 = .ok (.invokevirtual 65, 3) := by decide +kernel
theorem dL_act_275 : decode cL_act 275 = .ok (.goto 7, 3) := by decide +kernel
theorem dL_act_278 : decode cL_act 278 = .ok (.aload_n 0, 1) := by decide +kernel
theorem dL_act_279 : decode cL_act 279 = .ok (.invokevirtual 68, 3) := by decide +kernel
theorem dL_act_282 : decode cL_act 282 = .ok (.ireturn, 1) := by decide +kernel
set_option maxRecDepth 20000 in
theorem ggL_digest_X4_account : GoodIn wsL_digest wsX4_account := goodIn_r _ [7, 8, 9, 10, 11, 12, 13, 14, 15, 16, 17, 18, 19, 20, 21, 6, 22, 23, 24, 25, 26, 27, 28, 29, 30, 31, 32, 33, 34, 35, 36, 37, 38, 39, 40, 41, 42, 43, 44, 45, 46, 47, 48, 49, 50, 51, 52, 53, 54, 55, 56, 57, 58, 59, 60, 61, 62, 63, 64, 65, 66, 67, 68, 69, 70, 71, 72, 125, 126, 127, 128, 129, 130, 131, 132, 133, 134, 135, 136, 137, 138, 139, 140, 141, 142, 143, 144, 145, 146, 147, 148, 149] (by decide +kernel) (by decide +kernel)
set_option maxRecDepth 20000 in
theorem gL_digest_X4_account : GoodIn wsL_digest (wsV RL 75 RX4 yX4_account wsX4_account) := goodIn_app (goodIn_of _ (by decide +kernel)) ggL_digest_X4_account
set_option maxRecDepth 20000 in
theorem ggL_digest_X4_bayOf : GoodIn wsL_digest wsX4_bayOf := goodIn_r _ [76, 8, 77, 78, 6, 79, 65, 66, 67, 80, 17, 18, 14, 19, 20, 21, 22, 81, 40, 41, 42, 43, 82, 32, 33, 34, 83, 84, 85, 86, 87, 88, 89, 90, 91, 39, 31, 92, 93, 94, 95, 96, 97, 98, 99, 100, 101, 48, 49, 50, 51, 52, 125, 126, 127, 128, 129, 130, 131, 132, 133, 134, 135, 136, 137, 138, 139, 140] (by decide +kernel) (by decide +kernel)
set_option maxRecDepth 20000 in
theorem gL_digest_X4_bayOf : GoodIn wsL_digest (wsV RL 78 RX4 yX4_bayOf wsX4_bayOf) := goodIn_app (goodIn_of _ (by decide +kernel)) ggL_digest_X4_bayOf
set_option maxRecDepth 20000 in
theorem ggL_digest_X4_rungOf : GoodIn wsL_digest wsX4_rungOf := goodIn_r _ [105, 8, 106, 107, 6, 108, 65, 66, 67, 109, 96, 97, 110, 111, 112, 14, 113, 114, 21, 22, 115, 116, 117, 118, 49, 50, 51, 52, 119, 120, 121, 122, 123, 124, 125, 126, 127, 128, 129, 130, 131, 132, 133, 134, 135, 136, 137, 138, 139, 140] (by decide +kernel) (by decide +kernel)
set_option maxRecDepth 20000 in
theorem gL_digest_X4_rungOf : GoodIn wsL_digest (wsV RL 81 RX4 yX4_rungOf wsX4_rungOf) := goodIn_app (goodIn_of _ (by decide +kernel)) ggL_digest_X4_rungOf
theorem dL_digest_0 : decode cL_digest 0 = .ok (.ldc2_w 71, 3) := by decide +kernel
theorem dL_digest_3 : decode cL_digest 3 = .ok (.lstore_n 1, 1) := by decide +kernel
theorem dL_digest_4 : decode cL_digest 4 = .ok (.iconst 0, 1) := by decide +kernel
theorem dL_digest_5 : decode cL_digest 5 = .ok (.istore_n 3, 1) := by decide +kernel
theorem dL_digest_6 : decode cL_digest 6 = .ok (.iload_n 3, 1) := by decide +kernel
theorem dL_digest_7 : decode cL_digest 7 = .ok (.bipush 16, 2) := by decide +kernel
theorem dL_digest_9 : decode cL_digest 9 = .ok (.if_icmp .ge 22, 3) := by decide +kernel
theorem dL_digest_12 : decode cL_digest 12 = .ok (.ldc2_w 73, 3) := by decide +kernel
theorem dL_digest_15 : decode cL_digest 15 = .ok (.lload_n 1, 1) := by decide +kernel
theorem dL_digest_16 : decode cL_digest 16 = .ok (.lmul, 1) := by decide +kernel
theorem dL_digest_17 : decode cL_digest 17 = .ok (.aload_n 0, 1) := by decide +kernel
theorem dL_digest_18 : decode cL_digest 18 = .ok (.iload_n 3, 1) := by decide +kernel
theorem dL_digest_19 : decode cL_digest 19 = .ok (.invokevirtual 75, 3) := by decide +kernel
theorem dL_digest_22 : decode cL_digest 22 = .ok (.i2l, 1) := by decide +kernel
theorem dL_digest_23 : decode cL_digest 23 = .ok (.ladd, 1) := by decide +kernel
theorem dL_digest_24 : decode cL_digest 24 = .ok (.lstore_n 1, 1) := by decide +kernel
theorem dL_digest_25 : decode cL_digest 25 = .ok (.iinc 3 1, 3) := by decide +kernel
theorem dL_digest_28 : decode cL_digest 28 = .ok (.goto (-22), 3) := by decide +kernel
theorem dL_digest_31 : decode cL_digest 31 = .ok (.iconst 0, 1) := by decide +kernel
theorem dL_digest_32 : decode cL_digest 32 = .ok (.istore_n 3, 1) := by decide +kernel
theorem dL_digest_33 : decode cL_digest 33 = .ok (.iload_n 3, 1) := by decide +kernel
theorem dL_digest_34 : decode cL_digest 34 = .ok (.bipush 96, 2) := by decide +kernel
theorem dL_digest_36 : decode cL_digest 36 = .ok (.if_icmp .ge 27, 3) := by decide +kernel
theorem dL_digest_39 : decode cL_digest 39 = .ok (.ldc2_w 73, 3) := by decide +kernel
theorem dL_digest_42 : decode cL_digest 42 = .ok (.lload_n 1, 1) := by decide +kernel
theorem dL_digest_43 : decode cL_digest 43 = .ok (.lmul, 1) := by decide +kernel
theorem dL_digest_44 : decode cL_digest 44 = .ok (.aload_n 0, 1) := by decide +kernel
theorem dL_digest_45 : decode cL_digest 45 = .ok (.iload_n 3, 1) := by decide +kernel
theorem dL_digest_46 : decode cL_digest 46 = .ok (.iconst 3, 1) := by decide +kernel
theorem dL_digest_47 : decode cL_digest 47 = .ok (.idiv, 1) := by decide +kernel
theorem dL_digest_48 : decode cL_digest 48 = .ok (.iload_n 3, 1) := by decide +kernel
theorem dL_digest_49 : decode cL_digest 49 = .ok (.iconst 3, 1) := by decide +kernel
theorem dL_digest_50 : decode cL_digest 50 = .ok (.irem, 1) := by decide +kernel
theorem dL_digest_51 : decode cL_digest 51 = .ok (.invokevirtual 78, 3) := by decide +kernel
theorem dL_digest_54 : decode cL_digest 54 = .ok (.i2l, 1) := by decide +kernel
theorem dL_digest_55 : decode cL_digest 55 = .ok (.ladd, 1) := by decide +kernel
theorem dL_digest_56 : decode cL_digest 56 = .ok (.lstore_n 1, 1) := by decide +kernel
theorem dL_digest_57 : decode cL_digest 57 = .ok (.iinc 3 1, 3) := by decide +kernel
theorem dL_digest_60 : decode cL_digest 60 = .ok (.goto (-27), 3) := by decide +kernel
theorem dL_digest_63 : decode cL_digest 63 = .ok (.iconst 1, 1) := by decide +kernel
theorem dL_digest_64 : decode cL_digest 64 = .ok (.istore_n 3, 1) := by decide +kernel
theorem dL_digest_65 : decode cL_digest 65 = .ok (.iload_n 3, 1) := by decide +kernel
theorem dL_digest_66 : decode cL_digest 66 = .ok (.bipush 33, 2) := by decide +kernel
theorem dL_digest_68 : decode cL_digest 68 = .ok (.if_icmp .ge 23, 3) := by decide +kernel
theorem dL_digest_71 : decode cL_digest 71 = .ok (.ldc2_w 73, 3) := by decide +kernel
theorem dL_digest_74 : decode cL_digest 74 = .ok (.lload_n 1, 1) := by decide +kernel
theorem dL_digest_75 : decode cL_digest 75 = .ok (.lmul, 1) := by decide +kernel
theorem dL_digest_76 : decode cL_digest 76 = .ok (.aload_n 0, 1) := by decide +kernel
theorem dL_digest_77 : decode cL_digest 77 = .ok (.iload_n 3, 1) := by decide +kernel
theorem dL_digest_78 : decode cL_digest 78 = .ok (.iconst 3, 1) := by decide +kernel
theorem dL_digest_79 : decode cL_digest 79 = .ok (.invokevirtual 81, 3) := by decide +kernel
theorem dL_digest_82 : decode cL_digest 82 = .ok (.i2l, 1) := by decide +kernel
theorem dL_digest_83 : decode cL_digest 83 = .ok (.ladd, 1) := by decide +kernel
theorem dL_digest_84 : decode cL_digest 84 = .ok (.lstore_n 1, 1) := by decide +kernel
theorem dL_digest_85 : decode cL_digest 85 = .ok (.iinc 3 1, 3) := by decide +kernel
theorem dL_digest_88 : decode cL_digest 88 = .ok (.goto (-23), 3) := by decide +kernel
theorem dL_digest_91 : decode cL_digest 91 = .ok (.lload_n 1, 1) := by decide +kernel
theorem dL_digest_92 : decode cL_digest 92 = .ok (.lreturn, 1) := by decide +kernel
theorem dL_keeps_0 : decode cL_keeps 0 = .ok (.iload_n 0, 1) := by decide +kernel
theorem dL_keeps_1 : decode cL_keeps 1 = .ok (.ifCond .ne 8, 3) := by decide +kernel
theorem dL_keeps_4 : decode cL_keeps 4 = .ok (.bipush 20, 2) := by decide +kernel
theorem dL_keeps_6 : decode cL_keeps 6 = .ok (.goto 25, 3) := by decide +kernel
theorem dL_keeps_9 : decode cL_keeps 9 = .ok (.iload_n 0, 1) := by decide +kernel
theorem dL_keeps_10 : decode cL_keeps 10 = .ok (.iconst 1, 1) := by decide +kernel
theorem dL_keeps_11 : decode cL_keeps 11 = .ok (.if_icmp .ne 8, 3) := by decide +kernel
theorem dL_keeps_14 : decode cL_keeps 14 = .ok (.bipush 15, 2) := by decide +kernel
theorem dL_keeps_16 : decode cL_keeps 16 = .ok (.goto 15, 3) := by decide +kernel
theorem dL_keeps_19 : decode cL_keeps 19 = .ok (.iload_n 0, 1) := by decide +kernel
theorem dL_keeps_20 : decode cL_keeps 20 = .ok (.iconst 2, 1) := by decide +kernel
theorem dL_keeps_21 : decode cL_keeps 21 = .ok (.if_icmp .ne 8, 3) := by decide +kernel
theorem dL_keeps_24 : decode cL_keeps 24 = .ok (.bipush 10, 2) := by decide +kernel
theorem dL_keeps_26 : decode cL_keeps 26 = .ok (.goto 5, 3) := by decide +kernel
theorem dL_keeps_29 : decode cL_keeps 29 = .ok (.bipush 12, 2) := by decide +kernel
theorem dL_keeps_31 : decode cL_keeps 31 = .ok (.ireturn, 1) := by decide +kernel
set_option maxRecDepth 20000 in
theorem ggL_isBay_X4_bayOf : GoodIn wsL_isBay wsX4_bayOf := goodIn_r _ [5, 6, 7, 8, 4, 9, 10, 11, 12, 13, 14, 15, 16, 17, 18, 19, 20, 21, 22, 23, 24, 25, 26, 27, 28, 29, 30, 31, 32, 33, 34, 35, 36, 37, 38, 39, 40, 41, 42, 43, 44, 45, 46, 47, 48, 49, 50, 51, 52, 53, 54, 55, 131, 132, 133, 134, 135, 136, 137, 138, 139, 140, 141, 142, 143, 144, 145, 146] (by decide +kernel) (by decide +kernel)
set_option maxRecDepth 20000 in
theorem gL_isBay_X4_bayOf : GoodIn wsL_isBay (wsV RL 78 RX4 yX4_bayOf wsX4_bayOf) := goodIn_app (goodIn_of _ (by decide +kernel)) ggL_isBay_X4_bayOf
set_option maxRecDepth 20000 in
theorem ggL_isBay_L_keeps : GoodIn wsL_isBay wsL_keeps := goodIn_r _ [59] (by decide +kernel) (by decide +kernel)
set_option maxRecDepth 20000 in
theorem gL_isBay_L_keeps : GoodIn wsL_isBay (va_wsS RL 84 yL_keeps wsL_keeps) := goodIn_app (goodIn_of _ (by decide +kernel)) ggL_isBay_L_keeps
set_option maxRecDepth 20000 in
theorem ggL_isBay_X4_rungOf : GoodIn wsL_isBay wsX4_rungOf := goodIn_r _ [63, 6, 64, 65, 4, 66, 10, 11, 12, 67, 45, 46, 68, 69, 70, 16, 71, 72, 19, 20, 73, 74, 75, 76, 52, 53, 54, 55, 77, 78, 79, 80, 81, 82, 131, 132, 133, 134, 135, 136, 137, 138, 139, 140, 141, 142, 143, 144, 145, 146] (by decide +kernel) (by decide +kernel)
set_option maxRecDepth 20000 in
theorem gL_isBay_X4_rungOf : GoodIn wsL_isBay (wsV RL 81 RX4 yX4_rungOf wsX4_rungOf) := goodIn_app (goodIn_of _ (by decide +kernel)) ggL_isBay_X4_rungOf
set_option maxRecDepth 20000 in
theorem ggL_isBay_X4_steps : GoodIn wsL_isBay wsX4_steps := goodIn_r _ [86, 6, 7, 8, 4, 9, 10, 11, 12, 87, 88, 89, 76, 52, 53, 16, 54, 55, 19, 20, 77, 78, 79, 67, 45, 46, 131, 132, 133, 134, 135, 136, 137, 138, 139, 140, 141, 142, 143, 144, 145, 146] (by decide +kernel) (by decide +kernel)
set_option maxRecDepth 20000 in
theorem gL_isBay_X4_steps : GoodIn wsL_isBay (wsV RL 87 RX4 yX4_steps wsX4_steps) := goodIn_app (goodIn_of _ (by decide +kernel)) ggL_isBay_X4_steps
set_option maxRecDepth 20000 in
theorem ggL_isBay_X4_stepsAgain : GoodIn wsL_isBay wsX4_stepsAgain := goodIn_r _ [93, 94, 7, 8, 4, 9, 10, 11, 12, 95, 96, 97, 98, 6, 76, 52, 53, 16, 54, 55, 19, 20, 77, 78, 79, 67, 45, 46, 99, 100, 101, 102, 103, 104, 105, 106, 131, 132, 133, 134, 135, 136, 137, 138, 139, 140, 141, 142, 143, 144, 145, 146] (by decide +kernel) (by decide +kernel)
set_option maxRecDepth 20000 in
theorem gL_isBay_X4_stepsAgain : GoodIn wsL_isBay (wsV RL 90 RX4 yX4_stepsAgain wsX4_stepsAgain) := goodIn_app (goodIn_of _ (by decide +kernel)) ggL_isBay_X4_stepsAgain
set_option maxRecDepth 20000 in
theorem ggL_isBay_J6_bitCount_0f7a4 : GoodIn wsL_isBay wsJ6_bitCount_0f7a4 := goodIn_r _ [110, 111, 112, 113] (by decide +kernel) (by decide +kernel)
set_option maxRecDepth 20000 in
theorem gL_isBay_J6_bitCount_0f7a4 : GoodIn wsL_isBay (va_wsS RL 93 yJ6_bitCount_0f7a4 wsJ6_bitCount_0f7a4) := goodIn_app (goodIn_of _ (by decide +kernel)) ggL_isBay_J6_bitCount_0f7a4
set_option maxRecDepth 20000 in
theorem ggL_isBay_X4_sum : GoodIn wsL_isBay wsX4_sum := goodIn_r _ [117, 6, 7, 8, 4, 9, 10, 11, 12, 118, 119, 120, 16, 121, 122, 69, 70, 71, 72, 19, 20, 45, 46, 131, 132, 133, 134, 135, 136, 137, 138, 139, 140, 141, 142, 143, 144, 145, 146] (by decide +kernel) (by decide +kernel)
set_option maxRecDepth 20000 in
theorem gL_isBay_X4_sum : GoodIn wsL_isBay (wsV RL 98 RX4 yX4_sum wsX4_sum) := goodIn_app (goodIn_of _ (by decide +kernel)) ggL_isBay_X4_sum
set_option maxRecDepth 20000 in
theorem ggL_isBay_X4_sumAgain : GoodIn wsL_isBay wsX4_sumAgain := goodIn_r _ [126, 6, 7, 8, 4, 9, 10, 11, 12, 127, 128, 129, 16, 130, 40, 27, 28, 29, 18, 19, 20, 131, 132, 133, 134, 135, 136, 137, 138, 139, 140, 141, 142, 143, 144, 145, 146] (by decide +kernel) (by decide +kernel)
set_option maxRecDepth 20000 in
theorem gL_isBay_X4_sumAgain : GoodIn wsL_isBay (wsV RL 101 RX4 yX4_sumAgain wsX4_sumAgain) := goodIn_app (goodIn_of _ (by decide +kernel)) ggL_isBay_X4_sumAgain
theorem dL_isBay_0 : decode cL_isBay 0 = .ok (.aload_n 0, 1) := by decide +kernel
theorem dL_isBay_1 : decode cL_isBay 1 = .ok (.iload_n 1, 1) := by decide +kernel
theorem dL_isBay_2 : decode cL_isBay 2 = .ok (.iconst 0, 1) := by decide +kernel
theorem dL_isBay_3 : decode cL_isBay 3 = .ok (.invokevirtual 78, 3) := by decide +kernel
theorem dL_isBay_6 : decode cL_isBay 6 = .ok (.istore_n 2, 1) := by decide +kernel
theorem dL_isBay_7 : decode cL_isBay 7 = .ok (.aload_n 0, 1) := by decide +kernel
theorem dL_isBay_8 : decode cL_isBay 8 = .ok (.iload_n 1, 1) := by decide +kernel
theorem dL_isBay_9 : decode cL_isBay 9 = .ok (.iconst 1, 1) := by decide +kernel
theorem dL_isBay_10 : decode cL_isBay 10 = .ok (.invokevirtual 78, 3) := by decide +kernel
theorem dL_isBay_13 : decode cL_isBay 13 = .ok (.istore_n 3, 1) := by decide +kernel
theorem dL_isBay_14 : decode cL_isBay 14 = .ok (.aload_n 0, 1) := by decide +kernel
theorem dL_isBay_15 : decode cL_isBay 15 = .ok (.iload_n 1, 1) := by decide +kernel
theorem dL_isBay_16 : decode cL_isBay 16 = .ok (.iconst 2, 1) := by decide +kernel
theorem dL_isBay_17 : decode cL_isBay 17 = .ok (.invokevirtual 78, 3) := by decide +kernel
theorem dL_isBay_20 : decode cL_isBay 20 = .ok (.istore 4, 2) := by decide +kernel
theorem dL_isBay_22 : decode cL_isBay 22 = .ok (.iload_n 3, 1) := by decide +kernel
theorem dL_isBay_23 : decode cL_isBay 23 = .ok (.ifCond .ne 7, 3) := by decide +kernel
theorem dL_isBay_26 : decode cL_isBay 26 = .ok (.iconst 1, 1) := by decide +kernel
theorem dL_isBay_27 : decode cL_isBay 27 = .ok (.goto 4, 3) := by decide +kernel
theorem dL_isBay_30 : decode cL_isBay 30 = .ok (.iconst 0, 1) := by decide +kernel
theorem dL_isBay_31 : decode cL_isBay 31 = .ok (.istore 5, 2) := by decide +kernel
theorem dL_isBay_33 : decode cL_isBay 33 = .ok (.iload_n 2, 1) := by decide +kernel
theorem dL_isBay_34 : decode cL_isBay 34 = .ok (.bipush (-15), 2) := by decide +kernel
theorem dL_isBay_36 : decode cL_isBay 36 = .ok (.if_icmp .ne 7, 3) := by decide +kernel
theorem dL_isBay_39 : decode cL_isBay 39 = .ok (.iconst 1, 1) := by decide +kernel
theorem dL_isBay_40 : decode cL_isBay 40 = .ok (.goto 4, 3) := by decide +kernel
theorem dL_isBay_43 : decode cL_isBay 43 = .ok (.iconst 0, 1) := by decide +kernel
theorem dL_isBay_44 : decode cL_isBay 44 = .ok (.iload 5, 2) := by decide +kernel
theorem dL_isBay_46 : decode cL_isBay 46 = .ok (.if_icmp .ne 69, 3) := by decide +kernel
theorem dL_isBay_49 : decode cL_isBay 49 = .ok (.iload_n 3, 1) := by decide +kernel
theorem dL_isBay_50 : decode cL_isBay 50 = .ok (.ifCond .lt 65, 3) := by decide +kernel
theorem dL_isBay_53 : decode cL_isBay 53 = .ok (.iload_n 3, 1) := by decide +kernel
theorem dL_isBay_54 : decode cL_isBay 54 = .ok (.sipush 200, 3) := by decide +kernel
theorem dL_isBay_57 : decode cL_isBay 57 = .ok (.if_icmp .gt 58, 3) := by decide +kernel
theorem dL_isBay_60 : decode cL_isBay 60 = .ok (.iload 4, 2) := by decide +kernel
theorem dL_isBay_62 : decode cL_isBay 62 = .ok (.ifCond .lt 53, 3) := by decide +kernel
theorem dL_isBay_65 : decode cL_isBay 65 = .ok (.iload 5, 2) := by decide +kernel
theorem dL_isBay_67 : decode cL_isBay 67 = .ok (.ifCond .eq 8, 3) := by decide +kernel
theorem dL_isBay_70 : decode cL_isBay 70 = .ok (.iload 4, 2) := by decide +kernel
theorem dL_isBay_72 : decode cL_isBay 72 = .ok (.ifCond .ne 43, 3) := by decide +kernel
theorem dL_isBay_75 : decode cL_isBay 75 = .ok (.aload_n 0, 1) := by decide +kernel
theorem dL_isBay_76 : decode cL_isBay 76 = .ok (.iload_n 1, 1) := by decide +kernel
theorem dL_isBay_77 : decode cL_isBay 77 = .ok (.iconst 3, 1) := by decide +kernel
theorem dL_isBay_78 : decode cL_isBay 78 = .ok (.invokevirtual 78, 3) := by decide +kernel
theorem dL_isBay_81 : decode cL_isBay 81 = .ok (.iload 5, 2) := by decide +kernel
theorem dL_isBay_83 : decode cL_isBay 83 = .ok (.ifCond .ne 24, 3) := by decide +kernel
theorem dL_isBay_86 : decode cL_isBay 86 = .ok (.iload 4, 2) := by decide +kernel
theorem dL_isBay_88 : decode cL_isBay 88 = .ok (.iconst 1, 1) := by decide +kernel
theorem dL_isBay_89 : decode cL_isBay 89 = .ok (.iadd, 1) := by decide +kernel
theorem dL_isBay_90 : decode cL_isBay 90 = .ok (.iload_n 2, 1) := by decide +kernel
theorem dL_isBay_91 : decode cL_isBay 91 = .ok (.invokestatic 84, 3) := by decide +kernel
theorem dL_isBay_94 : decode cL_isBay 94 = .ok (.if_icmp .le 13, 3) := by decide +kernel
theorem dL_isBay_97 : decode cL_isBay 97 = .ok (.iload_n 3, 1) := by decide +kernel
theorem dL_isBay_98 : decode cL_isBay 98 = .ok (.bipush 9, 2) := by decide +kernel
theorem dL_isBay_100 : decode cL_isBay 100 = .ok (.iadd, 1) := by decide +kernel
theorem dL_isBay_101 : decode cL_isBay 101 = .ok (.bipush 10, 2) := by decide +kernel
theorem dL_isBay_103 : decode cL_isBay 103 = .ok (.idiv, 1) := by decide +kernel
theorem dL_isBay_104 : decode cL_isBay 104 = .ok (.goto 4, 3) := by decide +kernel
theorem dL_isBay_107 : decode cL_isBay 107 = .ok (.iconst 0, 1) := by decide +kernel
theorem dL_isBay_108 : decode cL_isBay 108 = .ok (.if_icmp .ne 7, 3) := by decide +kernel
theorem dL_isBay_111 : decode cL_isBay 111 = .ok (.iconst 1, 1) := by decide +kernel
theorem dL_isBay_112 : decode cL_isBay 112 = .ok (.goto 4, 3) := by decide +kernel
theorem dL_isBay_115 : decode cL_isBay 115 = .ok (.iconst 0, 1) := by decide +kernel
theorem dL_isBay_116 : decode cL_isBay 116 = .ok (.istore 6, 2) := by decide +kernel
theorem dL_isBay_118 : decode cL_isBay 118 = .ok (.iconst 0, 1) := by decide +kernel
theorem dL_isBay_119 : decode cL_isBay 119 = .ok (.istore 7, 2) := by decide +kernel
theorem dL_isBay_121 : decode cL_isBay 121 = .ok (.iconst 0, 1) := by decide +kernel
theorem dL_isBay_122 : decode cL_isBay 122 = .ok (.istore 8, 2) := by decide +kernel
theorem dL_isBay_124 : decode cL_isBay 124 = .ok (.iconst 1, 1) := by decide +kernel
theorem dL_isBay_125 : decode cL_isBay 125 = .ok (.istore 9, 2) := by decide +kernel
theorem dL_isBay_127 : decode cL_isBay 127 = .ok (.iload 9, 2) := by decide +kernel
theorem dL_isBay_129 : decode cL_isBay 129 = .ok (.bipush 33, 2) := by decide +kernel
theorem dL_isBay_131 : decode cL_isBay 131 = .ok (.if_icmp .ge 60, 3) := by decide +kernel
theorem dL_isBay_134 : decode cL_isBay 134 = .ok (.aload_n 0, 1) := by decide +kernel
theorem dL_isBay_135 : decode cL_isBay 135 = .ok (.iload 9, 2) := by decide +kernel
theorem dL_isBay_137 : decode cL_isBay 137 = .ok (.iconst 0, 1) := by decide +kernel
theorem dL_isBay_138 : decode cL_isBay 138 = .ok (.invokevirtual 81, 3) := by decide +kernel
theorem dL_isBay_141 : decode cL_isBay 141 = .ok (.istore 10, 2) := by decide +kernel
theorem dL_isBay_143 : decode cL_isBay 143 = .ok (.aload_n 0, 1) := by decide +kernel
theorem dL_isBay_144 : decode cL_isBay 144 = .ok (.iload 9, 2) := by decide +kernel
theorem dL_isBay_146 : decode cL_isBay 146 = .ok (.iconst 4, 1) := by decide +kernel
theorem dL_isBay_147 : decode cL_isBay 147 = .ok (.invokevirtual 81, 3) := by decide +kernel
theorem dL_isBay_150 : decode cL_isBay 150 = .ok (.iload_n 1, 1) := by decide +kernel
theorem dL_isBay_151 : decode cL_isBay 151 = .ok (.if_icmp .gt 34, 3) := by decide +kernel
theorem dL_isBay_154 : decode cL_isBay 154 = .ok (.iload_n 1, 1) := by decide +kernel
theorem dL_isBay_155 : decode cL_isBay 155 = .ok (.iload 9, 2) := by decide +kernel
theorem dL_isBay_157 : decode cL_isBay 157 = .ok (.if_icmp .ge 28, 3) := by decide +kernel
theorem dL_isBay_160 : decode cL_isBay 160 = .ok (.iinc 7 1, 3) := by decide +kernel
theorem dL_isBay_163 : decode cL_isBay 163 = .ok (.iload 8, 2) := by decide +kernel
theorem dL_isBay_165 : decode cL_isBay 165 = .ok (.aload_n 0, 1) := by decide +kernel
theorem dL_isBay_166 : decode cL_isBay 166 = .ok (.iload 9, 2) := by decide +kernel
theorem dL_isBay_168 : decode cL_isBay 168 = .ok (.iconst 3, 1) := by decide +kernel
theorem dL_isBay_169 : decode cL_isBay 169 = .ok (.invokevirtual 81, 3) := by decide +kernel
theorem dL_isBay_172 : decode cL_isBay 172 = .ok (.iconst 1, 1) := by decide +kernel
theorem dL_isBay_173 : decode cL_isBay 173 = .ok (.if_icmp .ne 8, 3) := by decide +kernel
theorem dL_isBay_176 : decode cL_isBay 176 = .ok (.iload 10, 2) := by decide +kernel
theorem dL_isBay_178 : decode cL_isBay 178 = .ok (.goto 4, 3) := by decide +kernel
theorem dL_isBay_181 : decode cL_isBay 181 = .ok (.iconst 0, 1) := by decide +kernel
theorem dL_isBay_182 : decode cL_isBay 182 = .ok (.ior, 1) := by decide +kernel
theorem dL_isBay_183 : decode cL_isBay 183 = .ok (.istore 8, 2) := by decide +kernel
theorem dL_isBay_185 : decode cL_isBay 185 = .ok (.iinc 9 1, 3) := by decide +kernel
theorem dL_isBay_188 : decode cL_isBay 188 = .ok (.goto (-61), 3) := by decide +kernel
theorem dL_isBay_191 : decode cL_isBay 191 = .ok (.iload 6, 2) := by decide +kernel
theorem dL_isBay_193 : decode cL_isBay 193 = .ok (.ifCond .eq 98, 3) := by decide +kernel
theorem dL_isBay_196 : decode cL_isBay 196 = .ok (.iload 7, 2) := by decide +kernel
theorem dL_isBay_198 : decode cL_isBay 198 = .ok (.aload_n 0, 1) := by decide +kernel
theorem dL_isBay_199 : decode cL_isBay 199 = .ok (.iload_n 1, 1) := by decide +kernel
theorem dL_isBay_200 : decode cL_isBay 200 = .ok (.iconst 4, 1) := by decide +kernel
theorem dL_isBay_201 : decode cL_isBay 201 = .ok (.invokevirtual 78, 3) := by decide +kernel
theorem dL_isBay_204 : decode cL_isBay 204 = .ok (.if_icmp .ne 87, 3) := by decide +kernel
theorem dL_isBay_207 : decode cL_isBay 207 = .ok (.iload 8, 2) := by decide +kernel
theorem dL_isBay_209 : decode cL_isBay 209 = .ok (.aload_n 0, 1) := by decide +kernel
theorem dL_isBay_210 : decode cL_isBay 210 = .ok (.iload_n 1, 1) := by decide +kernel
theorem dL_isBay_211 : decode cL_isBay 211 = .ok (.iconst 5, 1) := by decide +kernel
theorem dL_isBay_212 : decode cL_isBay 212 = .ok (.invokevirtual 78, 3) := by decide +kernel
theorem dL_isBay_215 : decode cL_isBay 215 = .ok (.if_icmp .ne 76, 3) := by decide +kernel
theorem dL_isBay_218 : decode cL_isBay 218 = .ok (.aload_n 0, 1) := by decide +kernel
theorem dL_isBay_219 : decode cL_isBay 219 = .ok (.iload_n 1, 1) := by decide +kernel
theorem dL_isBay_220 : decode cL_isBay 220 = .ok (.invokevirtual 87, 3) := by decide +kernel
theorem dL_isBay_223 : decode cL_isBay 223 = .ok (.aload_n 0, 1) := by decide +kernel
theorem dL_isBay_224 : decode cL_isBay 224 = .ok (.iload_n 1, 1) := by decide +kernel
theorem dL_isBay_225 : decode cL_isBay 225 = .ok (.invokevirtual 90, 3) := by decide +kernel
theorem dL_isBay_228 : decode cL_isBay 228 = .ok (.if_icmp .ne 63, 3) := by decide +kernel
theorem dL_isBay_231 : decode cL_isBay 231 = .ok (.aload_n 0, 1) := by decide +kernel
theorem dL_isBay_232 : decode cL_isBay 232 = .ok (.iload_n 1, 1) := by decide +kernel
theorem dL_isBay_233 : decode cL_isBay 233 = .ok (.invokevirtual 87, 3) := by decide +kernel
theorem dL_isBay_236 : decode cL_isBay 236 = .ok (.iload_n 1, 1) := by decide +kernel
theorem dL_isBay_237 : decode cL_isBay 237 = .ok (.iconst 1, 1) := by decide +kernel
theorem dL_isBay_238 : decode cL_isBay 238 = .ok (.iadd, 1) := by decide +kernel
theorem dL_isBay_239 : decode cL_isBay 239 = .ok (.invokestatic 93, 3) := by decide +kernel
theorem dL_isBay_242 : decode cL_isBay 242 = .ok (.if_icmp .lt 49, 3) := by decide +kernel
theorem dL_isBay_245 : decode cL_isBay 245 = .ok (.aload_n 0, 1) := by decide +kernel
theorem dL_isBay_246 : decode cL_isBay 246 = .ok (.iconst 0, 1) := by decide +kernel
theorem dL_isBay_247 : decode cL_isBay 247 = .ok (.iload_n 1, 1) := by decide +kernel
theorem dL_isBay_248 : decode cL_isBay 248 = .ok (.invokevirtual 98, 3) := by decide +kernel
theorem dL_isBay_251 : decode cL_isBay 251 = .ok (.aload_n 0, 1) := by decide +kernel
theorem dL_isBay_252 : decode cL_isBay 252 = .ok (.iconst 0, 1) := by decide +kernel
theorem dL_isBay_253 : decode cL_isBay 253 = .ok (.iload_n 1, 1) := by decide +kernel
theorem dL_isBay_254 : decode cL_isBay 254 = .ok (.invokevirtual 101, 3) := by decide +kernel
theorem dL_isBay_257 : decode cL_isBay 257 = .ok (.if_icmp .ne 34, 3) := by decide +kernel
theorem dL_isBay_260 : decode cL_isBay 260 = .ok (.aload_n 0, 1) := by decide +kernel
theorem dL_isBay_261 : decode cL_isBay 261 = .ok (.iload_n 1, 1) := by decide +kernel
theorem dL_isBay_262 : decode cL_isBay 262 = .ok (.iload_n 1, 1) := by decide +kernel
theorem dL_isBay_263 : decode cL_isBay 263 = .ok (.invokevirtual 98, 3) := by decide +kernel
theorem dL_isBay_266 : decode cL_isBay 266 = .ok (.iload_n 3, 1) := by decide +kernel
theorem dL_isBay_267 : decode cL_isBay 267 = .ok (.if_icmp .ne 24, 3) := by decide +kernel
theorem dL_isBay_270 : decode cL_isBay 270 = .ok (.aload_n 0, 1) := by decide +kernel
theorem dL_isBay_271 : decode cL_isBay 271 = .ok (.iload_n 1, 1) := by decide +kernel
theorem dL_isBay_272 : decode cL_isBay 272 = .ok (.bipush 31, 2) := by decide +kernel
theorem dL_isBay_274 : decode cL_isBay 274 = .ok (.invokevirtual 98, 3) := by decide +kernel
theorem dL_isBay_277 : decode cL_isBay 277 = .ok (.aload_n 0, 1) := by decide +kernel
theorem dL_isBay_278 : decode cL_isBay 278 = .ok (.iload_n 1, 1) := by decide +kernel
theorem dL_isBay_279 : decode cL_isBay 279 = .ok (.bipush 31, 2) := by decide +kernel
theorem dL_isBay_281 : decode cL_isBay 281 = .ok (.invokevirtual 101, 3) := by decide +kernel
theorem dL_isBay_284 : decode cL_isBay 284 = .ok (.if_icmp .ne 7, 3) := by decide +kernel
theorem dL_isBay_287 : decode cL_isBay 287 = .ok (.iconst 1, 1) := by decide +kernel
theorem dL_isBay_288 : decode cL_isBay 288 = .ok (.goto 4, 3) := by decide +kernel
theorem dL_isBay_291 : decode cL_isBay 291 = .ok (.iconst 0, 1) := by decide +kernel
theorem dL_isBay_292 : decode cL_isBay 292 = .ok (.ireturn, 1) := by decide +kernel
set_option maxRecDepth 20000 in
theorem ggL_isRung_X4_sumAgain : GoodIn wsL_isRung wsX4_sumAgain := goodIn_r _ [5, 6, 7, 8, 4, 9, 10, 11, 12, 13, 14, 15, 16, 17, 18, 19, 20, 21, 22, 23, 24, 89, 90, 91, 92, 93, 94, 95, 96, 97, 98, 99, 100, 101, 102, 103, 104] (by decide +kernel) (by decide +kernel)
set_option maxRecDepth 20000 in
theorem gL_isRung_X4_sumAgain : GoodIn wsL_isRung (wsV RL 101 RX4 yX4_sumAgain wsX4_sumAgain) := goodIn_app (goodIn_of _ (by decide +kernel)) ggL_isRung_X4_sumAgain
set_option maxRecDepth 20000 in
theorem ggL_isRung_X4_rungOf : GoodIn wsL_isRung wsX4_rungOf := goodIn_r _ [28, 6, 29, 30, 4, 31, 10, 11, 12, 32, 33, 34, 35, 36, 37, 16, 38, 39, 23, 24, 40, 41, 42, 43, 44, 45, 46, 47, 48, 49, 50, 51, 52, 53, 89, 90, 91, 92, 93, 94, 95, 96, 97, 98, 99, 100, 101, 102, 103, 104] (by decide +kernel) (by decide +kernel)
set_option maxRecDepth 20000 in
theorem gL_isRung_X4_rungOf : GoodIn wsL_isRung (wsV RL 81 RX4 yX4_rungOf wsX4_rungOf) := goodIn_app (goodIn_of _ (by decide +kernel)) ggL_isRung_X4_rungOf
set_option maxRecDepth 20000 in
theorem ggL_isRung_X4_tellRung : GoodIn wsL_isRung wsX4_tellRung := goodIn_r _ [57, 58, 6, 29, 30, 4, 31, 10, 11, 12, 59, 60, 61, 62, 63, 64, 65, 66, 67, 68, 69, 70, 71, 72, 73, 74, 75, 76, 48, 49, 50, 32, 33, 34, 35, 36, 37, 16, 38, 39, 23, 24, 43, 44, 45, 46, 47, 77, 78, 79, 80, 89, 90, 91, 92, 93, 94, 95, 96, 97, 98, 105, 106, 99, 100, 101, 102, 103, 104] (by decide +kernel) (by decide +kernel)
set_option maxRecDepth 20000 in
theorem gL_isRung_X4_tellRung : GoodIn wsL_isRung (wsV RL 104 RX4 yX4_tellRung wsX4_tellRung) := goodIn_app (goodIn_of _ (by decide +kernel)) ggL_isRung_X4_tellRung
set_option maxRecDepth 20000 in
theorem ggL_isRung_X4_character : GoodIn wsL_isRung wsX4_character := goodIn_r _ [84, 58, 85, 86, 87, 62, 88, 64, 73, 11, 4, 12, 23, 24, 89, 90, 91, 92, 93, 94, 95, 96, 97, 98, 105, 106] (by decide +kernel) (by decide +kernel)
set_option maxRecDepth 20000 in
theorem gL_isRung_X4_character : GoodIn wsL_isRung (wsV RL 107 RX4 yX4_character wsX4_character) := goodIn_app (goodIn_of _ (by decide +kernel)) ggL_isRung_X4_character
theorem dL_isRung_0 : decode cL_isRung 0 = .ok (.iload_n 1, 1) := by decide +kernel
theorem dL_isRung_1 : decode cL_isRung 1 = .ok (.iload_n 1, 1) := by decide +kernel
theorem dL_isRung_2 : decode cL_isRung 2 = .ok (.ineg, 1) := by decide +kernel
theorem dL_isRung_3 : decode cL_isRung 3 = .ok (.iand, 1) := by decide +kernel
theorem dL_isRung_4 : decode cL_isRung 4 = .ok (.istore_n 2, 1) := by decide +kernel
theorem dL_isRung_5 : decode cL_isRung 5 = .ok (.aload_n 0, 1) := by decide +kernel
theorem dL_isRung_6 : decode cL_isRung 6 = .ok (.iload_n 1, 1) := by decide +kernel
theorem dL_isRung_7 : decode cL_isRung 7 = .ok (.iload_n 2, 1) := by decide +kernel
theorem dL_isRung_8 : decode cL_isRung 8 = .ok (.isub, 1) := by decide +kernel
theorem dL_isRung_9 : decode cL_isRung 9 = .ok (.iload_n 1, 1) := by decide +kernel
theorem dL_isRung_10 : decode cL_isRung 10 = .ok (.iconst 1, 1) := by decide +kernel
theorem dL_isRung_11 : decode cL_isRung 11 = .ok (.isub, 1) := by decide +kernel
theorem dL_isRung_12 : decode cL_isRung 12 = .ok (.invokevirtual 101, 3) := by decide +kernel
theorem dL_isRung_15 : decode cL_isRung 15 = .ok (.istore_n 3, 1) := by decide +kernel
theorem dL_isRung_16 : decode cL_isRung 16 = .ok (.aload_n 0, 1) := by decide +kernel
theorem dL_isRung_17 : decode cL_isRung 17 = .ok (.iload_n 1, 1) := by decide +kernel
theorem dL_isRung_18 : decode cL_isRung 18 = .ok (.iconst 3, 1) := by decide +kernel
theorem dL_isRung_19 : decode cL_isRung 19 = .ok (.invokevirtual 81, 3) := by decide +kernel
theorem dL_isRung_22 : decode cL_isRung 22 = .ok (.iconst 1, 1) := by decide +kernel
theorem dL_isRung_23 : decode cL_isRung 23 = .ok (.if_icmp .ne 7, 3) := by decide +kernel
theorem dL_isRung_26 : decode cL_isRung 26 = .ok (.iconst 1, 1) := by decide +kernel
theorem dL_isRung_27 : decode cL_isRung 27 = .ok (.goto 4, 3) := by decide +kernel
theorem dL_isRung_30 : decode cL_isRung 30 = .ok (.iconst 0, 1) := by decide +kernel
theorem dL_isRung_31 : decode cL_isRung 31 = .ok (.istore 4, 2) := by decide +kernel
theorem dL_isRung_33 : decode cL_isRung 33 = .ok (.aload_n 0, 1) := by decide +kernel
theorem dL_isRung_34 : decode cL_isRung 34 = .ok (.iload_n 1, 1) := by decide +kernel
theorem dL_isRung_35 : decode cL_isRung 35 = .ok (.invokevirtual 104, 3) := by decide +kernel
theorem dL_isRung_38 : decode cL_isRung 38 = .ok (.istore 5, 2) := by decide +kernel
theorem dL_isRung_40 : decode cL_isRung 40 = .ok (.aload_n 0, 1) := by decide +kernel
theorem dL_isRung_41 : decode cL_isRung 41 = .ok (.iload_n 1, 1) := by decide +kernel
theorem dL_isRung_42 : decode cL_isRung 42 = .ok (.iconst 0, 1) := by decide +kernel
theorem dL_isRung_43 : decode cL_isRung 43 = .ok (.invokevirtual 81, 3) := by decide +kernel
theorem dL_isRung_46 : decode cL_isRung 46 = .ok (.iload_n 2, 1) := by decide +kernel
theorem dL_isRung_47 : decode cL_isRung 47 = .ok (.if_icmp .ne 126, 3) := by decide +kernel
theorem dL_isRung_50 : decode cL_isRung 50 = .ok (.aload_n 0, 1) := by decide +kernel
theorem dL_isRung_51 : decode cL_isRung 51 = .ok (.iload_n 1, 1) := by decide +kernel
theorem dL_isRung_52 : decode cL_isRung 52 = .ok (.iconst 1, 1) := by decide +kernel
theorem dL_isRung_53 : decode cL_isRung 53 = .ok (.invokevirtual 81, 3) := by decide +kernel
theorem dL_isRung_56 : decode cL_isRung 56 = .ok (.iload_n 3, 1) := by decide +kernel
theorem dL_isRung_57 : decode cL_isRung 57 = .ok (.if_icmp .ne 116, 3) := by decide +kernel
theorem dL_isRung_60 : decode cL_isRung 60 = .ok (.aload_n 0, 1) := by decide +kernel
theorem dL_isRung_61 : decode cL_isRung 61 = .ok (.iload_n 1, 1) := by decide +kernel
theorem dL_isRung_62 : decode cL_isRung 62 = .ok (.iconst 2, 1) := by decide +kernel
theorem dL_isRung_63 : decode cL_isRung 63 = .ok (.invokevirtual 81, 3) := by decide +kernel
theorem dL_isRung_66 : decode cL_isRung 66 = .ok (.bipush 100, 2) := by decide +kernel
theorem dL_isRung_68 : decode cL_isRung 68 = .ok (.iload_n 2, 1) := by decide +kernel
theorem dL_isRung_69 : decode cL_isRung 69 = .ok (.imul, 1) := by decide +kernel
theorem dL_isRung_70 : decode cL_isRung 70 = .ok (.if_icmp .ne 103, 3) := by decide +kernel
theorem dL_isRung_73 : decode cL_isRung 73 = .ok (.aload_n 0, 1) := by decide +kernel
theorem dL_isRung_74 : decode cL_isRung 74 = .ok (.iload_n 1, 1) := by decide +kernel
theorem dL_isRung_75 : decode cL_isRung 75 = .ok (.iconst 4, 1) := by decide +kernel
theorem dL_isRung_76 : decode cL_isRung 76 = .ok (.invokevirtual 81, 3) := by decide +kernel
theorem dL_isRung_79 : decode cL_isRung 79 = .ok (.iload_n 1, 1) := by decide +kernel
theorem dL_isRung_80 : decode cL_isRung 80 = .ok (.iload_n 2, 1) := by decide +kernel
theorem dL_isRung_81 : decode cL_isRung 81 = .ok (.isub, 1) := by decide +kernel
theorem dL_isRung_82 : decode cL_isRung 82 = .ok (.if_icmp .ne 91, 3) := by decide +kernel
theorem dL_isRung_85 : decode cL_isRung 85 = .ok (.iconst 1, 1) := by decide +kernel
theorem dL_isRung_86 : decode cL_isRung 86 = .ok (.aload_n 0, 1) := by decide +kernel
theorem dL_isRung_87 : decode cL_isRung 87 = .ok (.iload_n 1, 1) := by decide +kernel
theorem dL_isRung_88 : decode cL_isRung 88 = .ok (.iconst 5, 1) := by decide +kernel
theorem dL_isRung_89 : decode cL_isRung 89 = .ok (.invokevirtual 81, 3) := by decide +kernel
theorem dL_isRung_92 : decode cL_isRung 92 = .ok (.ishl, 1) := by decide +kernel
theorem dL_isRung_93 : decode cL_isRung 93 = .ok (.iload_n 2, 1) := by decide +kernel
theorem dL_isRung_94 : decode cL_isRung 94 = .ok (.if_icmp .ne 79, 3) := by decide +kernel
theorem dL_isRung_97 : decode cL_isRung 97 = .ok (.iload 4, 2) := by decide +kernel
theorem dL_isRung_99 : decode cL_isRung 99 = .ok (.ifCond .ne 11, 3) := by decide +kernel
theorem dL_isRung_102 : decode cL_isRung 102 = .ok (.iload_n 3, 1) := by decide +kernel
theorem dL_isRung_103 : decode cL_isRung 103 = .ok (.bipush 100, 2) := by decide +kernel
theorem dL_isRung_105 : decode cL_isRung 105 = .ok (.iload_n 2, 1) := by decide +kernel
theorem dL_isRung_106 : decode cL_isRung 106 = .ok (.imul, 1) := by decide +kernel
theorem dL_isRung_107 : decode cL_isRung 107 = .ok (.if_icmp .gt 66, 3) := by decide +kernel
theorem dL_isRung_110 : decode cL_isRung 110 = .ok (.aload_n 0, 1) := by decide +kernel
theorem dL_isRung_111 : decode cL_isRung 111 = .ok (.iload 5, 2) := by decide +kernel
theorem dL_isRung_113 : decode cL_isRung 113 = .ok (.iconst 1, 1) := by decide +kernel
theorem dL_isRung_114 : decode cL_isRung 114 = .ok (.isub, 1) := by decide +kernel
theorem dL_isRung_115 : decode cL_isRung 115 = .ok (.invokevirtual 107, 3) := by decide +kernel
theorem dL_isRung_118 : decode cL_isRung 118 = .ok (.bipush 33, 2) := by decide +kernel
theorem dL_isRung_120 : decode cL_isRung 120 = .ok (.if_icmp .ne 7, 3) := by decide +kernel
theorem dL_isRung_123 : decode cL_isRung 123 = .ok (.iconst 1, 1) := by decide +kernel
theorem dL_isRung_124 : decode cL_isRung 124 = .ok (.goto 4, 3) := by decide +kernel
theorem dL_isRung_127 : decode cL_isRung 127 = .ok (.iconst 0, 1) := by decide +kernel
theorem dL_isRung_128 : decode cL_isRung 128 = .ok (.iload 4, 2) := by decide +kernel
theorem dL_isRung_130 : decode cL_isRung 130 = .ok (.if_icmp .ne 43, 3) := by decide +kernel
theorem dL_isRung_133 : decode cL_isRung 133 = .ok (.aload_n 0, 1) := by decide +kernel
theorem dL_isRung_134 : decode cL_isRung 134 = .ok (.iload 5, 2) := by decide +kernel
theorem dL_isRung_136 : decode cL_isRung 136 = .ok (.invokevirtual 107, 3) := by decide +kernel
theorem dL_isRung_139 : decode cL_isRung 139 = .ok (.bipush (-11), 2) := by decide +kernel
theorem dL_isRung_141 : decode cL_isRung 141 = .ok (.if_icmp .ne 32, 3) := by decide +kernel
theorem dL_isRung_144 : decode cL_isRung 144 = .ok (.aload_n 0, 1) := by decide +kernel
theorem dL_isRung_145 : decode cL_isRung 145 = .ok (.iconst 0, 1) := by decide +kernel
theorem dL_isRung_146 : decode cL_isRung 146 = .ok (.invokevirtual 107, 3) := by decide +kernel
theorem dL_isRung_149 : decode cL_isRung 149 = .ok (.bipush 48, 2) := by decide +kernel
theorem dL_isRung_151 : decode cL_isRung 151 = .ok (.iload_n 1, 1) := by decide +kernel
theorem dL_isRung_152 : decode cL_isRung 152 = .ok (.bipush 9, 2) := by decide +kernel
theorem dL_isRung_154 : decode cL_isRung 154 = .ok (.if_icmp .le 10, 3) := by decide +kernel
theorem dL_isRung_157 : decode cL_isRung 157 = .ok (.iload_n 1, 1) := by decide +kernel
theorem dL_isRung_158 : decode cL_isRung 158 = .ok (.bipush 10, 2) := by decide +kernel
theorem dL_isRung_160 : decode cL_isRung 160 = .ok (.idiv, 1) := by decide +kernel
theorem dL_isRung_161 : decode cL_isRung 161 = .ok (.goto 4, 3) := by decide +kernel
theorem dL_isRung_164 : decode cL_isRung 164 = .ok (.iload_n 1, 1) := by decide +kernel
theorem dL_isRung_165 : decode cL_isRung 165 = .ok (.iadd, 1) := by decide +kernel
theorem dL_isRung_166 : decode cL_isRung 166 = .ok (.if_icmp .ne 7, 3) := by decide +kernel
theorem dL_isRung_169 : decode cL_isRung 169 = .ok (.iconst 1, 1) := by decide +kernel
theorem dL_isRung_170 : decode cL_isRung 170 = .ok (.goto 4, 3) := by decide +kernel
theorem dL_isRung_173 : decode cL_isRung 173 = .ok (.iconst 0, 1) := by decide +kernel
theorem dL_isRung_174 : decode cL_isRung 174 = .ok (.ireturn, 1) := by decide +kernel
set_option maxRecDepth 20000 in
theorem ggL_areRanks_X4_account : GoodIn wsL_areRanks wsX4_account := goodIn_r _ [6, 7, 8, 9, 10, 11, 12, 13, 14, 15, 16, 17, 18, 19, 20, 5, 21, 22, 23, 24, 25, 26, 27, 28, 29, 30, 31, 32, 33, 34, 35, 36, 37, 38, 39, 40, 41, 42, 43, 44, 45, 46, 47, 48, 49, 50, 51, 52, 53, 54, 55, 56, 57, 58, 59, 60, 61, 62, 63, 64, 65, 66, 67, 68, 69, 70, 71, 154, 155, 156, 157, 158, 159, 160, 161, 162, 163, 164, 165, 166, 167, 168, 169, 170, 171, 172, 173, 174, 175, 176, 177, 178] (by decide +kernel) (by decide +kernel)
set_option maxRecDepth 20000 in
theorem gL_areRanks_X4_account : GoodIn wsL_areRanks (wsV RL 75 RX4 yX4_account wsX4_account) := goodIn_app (goodIn_of _ (by decide +kernel)) ggL_areRanks_X4_account
set_option maxRecDepth 20000 in
theorem ggL_areRanks_X4_oldest : GoodIn wsL_areRanks wsX4_oldest := goodIn_r _ [75, 7, 76, 16, 17, 13, 18, 19, 20, 5, 21, 77, 78, 79, 80, 15, 81, 82, 83, 84, 85, 86, 87, 88, 89, 30, 31, 32, 33, 154, 155, 156, 157, 158, 159, 160, 161, 162, 163, 164, 165, 166, 167, 168, 169] (by decide +kernel) (by decide +kernel)
set_option maxRecDepth 20000 in
theorem gL_areRanks_X4_oldest : GoodIn wsL_areRanks (wsV RL 110 RX4 yX4_oldest wsX4_oldest) := goodIn_app (goodIn_of _ (by decide +kernel)) ggL_areRanks_X4_oldest
set_option maxRecDepth 20000 in
theorem ggL_areRanks_X4_bayOf : GoodIn wsL_areRanks wsX4_bayOf := goodIn_r _ [93, 7, 94, 95, 5, 96, 64, 65, 66, 76, 16, 17, 13, 18, 19, 20, 21, 97, 39, 40, 41, 42, 98, 31, 32, 33, 99, 86, 87, 88, 89, 100, 101, 102, 103, 38, 30, 104, 105, 106, 107, 108, 109, 110, 111, 112, 113, 47, 48, 49, 50, 51, 154, 155, 156, 157, 158, 159, 160, 161, 162, 163, 164, 165, 166, 167, 168, 169] (by decide +kernel) (by decide +kernel)
set_option maxRecDepth 20000 in
theorem gL_areRanks_X4_bayOf : GoodIn wsL_areRanks (wsV RL 78 RX4 yX4_bayOf wsX4_bayOf) := goodIn_app (goodIn_of _ (by decide +kernel)) ggL_areRanks_X4_bayOf
set_option maxRecDepth 20000 in
theorem ggL_areRanks_X4_tightest : GoodIn wsL_areRanks wsX4_tightest := goodIn_r _ [117, 7, 118, 119, 5, 120, 121, 108, 109, 122, 123, 124, 13, 125, 126, 20, 21, 127, 48, 49, 50, 51, 154, 155, 156, 157, 158, 159, 160, 161, 162, 163, 164, 165, 166, 167, 168, 169] (by decide +kernel) (by decide +kernel)
set_option maxRecDepth 20000 in
theorem gL_areRanks_X4_tightest : GoodIn wsL_areRanks (wsV RL 113 RX4 yX4_tightest wsX4_tightest) := goodIn_app (goodIn_of _ (by decide +kernel)) ggL_areRanks_X4_tightest
set_option maxRecDepth 20000 in
theorem ggL_areRanks_X4_rungOf : GoodIn wsL_areRanks wsX4_rungOf := goodIn_r _ [131, 7, 132, 133, 5, 134, 64, 65, 66, 121, 108, 109, 122, 123, 124, 13, 125, 126, 20, 21, 118, 119, 120, 127, 48, 49, 50, 51, 135, 136, 137, 138, 139, 140, 154, 155, 156, 157, 158, 159, 160, 161, 162, 163, 164, 165, 166, 167, 168, 169] (by decide +kernel) (by decide +kernel)
set_option maxRecDepth 20000 in
theorem gL_areRanks_X4_rungOf : GoodIn wsL_areRanks (wsV RL 81 RX4 yX4_rungOf wsX4_rungOf) := goodIn_app (goodIn_of _ (by decide +kernel)) ggL_areRanks_X4_rungOf
set_option maxRecDepth 20000 in
theorem ggL_areRanks_X4_commonAge : GoodIn wsL_areRanks wsX4_commonAge := goodIn_r _ [144, 7, 99, 86, 87, 13, 88, 89, 20, 5, 21, 145, 146, 147, 148, 85, 30, 31, 32, 33, 19, 76, 16, 17, 18, 154, 155, 156, 157, 158, 159, 160, 161, 162, 163, 164, 165, 166, 167, 168, 169] (by decide +kernel) (by decide +kernel)
set_option maxRecDepth 20000 in
theorem gL_areRanks_X4_commonAge : GoodIn wsL_areRanks (wsV RL 116 RX4 yX4_commonAge wsX4_commonAge) := goodIn_app (goodIn_of _ (by decide +kernel)) ggL_areRanks_X4_commonAge
set_option maxRecDepth 20000 in
theorem ggL_areRanks_X4_soundShare : GoodIn wsL_areRanks wsX4_soundShare := goodIn_r _ [152, 7, 153, 43, 44, 45, 13, 46, 47, 48, 49, 50, 51, 20, 5, 21, 154, 155, 156, 157, 158, 159, 160, 161, 162, 163, 164, 165, 166, 167, 168, 169] (by decide +kernel) (by decide +kernel)
set_option maxRecDepth 20000 in
theorem gL_areRanks_X4_soundShare : GoodIn wsL_areRanks (wsV RL 119 RX4 yX4_soundShare wsX4_soundShare) := goodIn_app (goodIn_of _ (by decide +kernel)) ggL_areRanks_X4_soundShare
theorem dL_areRanks_0 : decode cL_areRanks 0 = .ok (.aload_n 0, 1) := by decide +kernel
theorem dL_areRanks_1 : decode cL_areRanks 1 = .ok (.iconst 2, 1) := by decide +kernel
theorem dL_areRanks_2 : decode cL_areRanks 2 = .ok (.invokevirtual 75, 3) := by decide +kernel
theorem dL_areRanks_5 : decode cL_areRanks 5 = .ok (.istore_n 1, 1) := by decide +kernel
theorem dL_areRanks_6 : decode cL_areRanks 6 = .ok (.aload_n 0, 1) := by decide +kernel
theorem dL_areRanks_7 : decode cL_areRanks 7 = .ok (.iload_n 1, 1) := by decide +kernel
theorem dL_areRanks_8 : decode cL_areRanks 8 = .ok (.invokevirtual 110, 3) := by decide +kernel
theorem dL_areRanks_11 : decode cL_areRanks 11 = .ok (.bipush (-11), 2) := by decide +kernel
theorem dL_areRanks_13 : decode cL_areRanks 13 = .ok (.if_icmp .ne 17, 3) := by decide +kernel
theorem dL_areRanks_16 : decode cL_areRanks 16 = .ok (.aload_n 0, 1) := by decide +kernel
theorem dL_areRanks_17 : decode cL_areRanks 17 = .ok (.iconst (-1), 1) := by decide +kernel
theorem dL_areRanks_18 : decode cL_areRanks 18 = .ok (.invokevirtual 110, 3) := by decide +kernel
theorem dL_areRanks_21 : decode cL_areRanks 21 = .ok (.bipush (-11), 2) := by decide +kernel
theorem dL_areRanks_23 : decode cL_areRanks 23 = .ok (.if_icmp .ne 7, 3) := by decide +kernel
theorem dL_areRanks_26 : decode cL_areRanks 26 = .ok (.iconst 1, 1) := by decide +kernel
theorem dL_areRanks_27 : decode cL_areRanks 27 = .ok (.goto 4, 3) := by decide +kernel
theorem dL_areRanks_30 : decode cL_areRanks 30 = .ok (.iconst 0, 1) := by decide +kernel
theorem dL_areRanks_31 : decode cL_areRanks 31 = .ok (.istore_n 2, 1) := by decide +kernel
theorem dL_areRanks_32 : decode cL_areRanks 32 = .ok (.iconst 1, 1) := by decide +kernel
theorem dL_areRanks_33 : decode cL_areRanks 33 = .ok (.istore_n 3, 1) := by decide +kernel
theorem dL_areRanks_34 : decode cL_areRanks 34 = .ok (.iload_n 2, 1) := by decide +kernel
theorem dL_areRanks_35 : decode cL_areRanks 35 = .ok (.ifCond .eq 97, 3) := by decide +kernel
theorem dL_areRanks_38 : decode cL_areRanks 38 = .ok (.iload_n 3, 1) := by decide +kernel
theorem dL_areRanks_39 : decode cL_areRanks 39 = .ok (.iload_n 1, 1) := by decide +kernel
theorem dL_areRanks_40 : decode cL_areRanks 40 = .ok (.if_icmp .ge 92, 3) := by decide +kernel
theorem dL_areRanks_43 : decode cL_areRanks 43 = .ok (.aload_n 0, 1) := by decide +kernel
theorem dL_areRanks_44 : decode cL_areRanks 44 = .ok (.iload_n 3, 1) := by decide +kernel
theorem dL_areRanks_45 : decode cL_areRanks 45 = .ok (.iconst 1, 1) := by decide +kernel
theorem dL_areRanks_46 : decode cL_areRanks 46 = .ok (.isub, 1) := by decide +kernel
theorem dL_areRanks_47 : decode cL_areRanks 47 = .ok (.invokevirtual 110, 3) := by decide +kernel
theorem dL_areRanks_50 : decode cL_areRanks 50 = .ok (.istore 4, 2) := by decide +kernel
theorem dL_areRanks_52 : decode cL_areRanks 52 = .ok (.aload_n 0, 1) := by decide +kernel
theorem dL_areRanks_53 : decode cL_areRanks 53 = .ok (.iload_n 3, 1) := by decide +kernel
theorem dL_areRanks_54 : decode cL_areRanks 54 = .ok (.invokevirtual 110, 3) := by decide +kernel
theorem dL_areRanks_57 : decode cL_areRanks 57 = .ok (.istore 5, 2) := by decide +kernel
theorem dL_areRanks_59 : decode cL_areRanks 59 = .ok (.aload_n 0, 1) := by decide +kernel
theorem dL_areRanks_60 : decode cL_areRanks 60 = .ok (.iload 4, 2) := by decide +kernel
theorem dL_areRanks_62 : decode cL_areRanks 62 = .ok (.iconst 2, 1) := by decide +kernel
theorem dL_areRanks_63 : decode cL_areRanks 63 = .ok (.invokevirtual 78, 3) := by decide +kernel
theorem dL_areRanks_66 : decode cL_areRanks 66 = .ok (.aload_n 0, 1) := by decide +kernel
theorem dL_areRanks_67 : decode cL_areRanks 67 = .ok (.iload 5, 2) := by decide +kernel
theorem dL_areRanks_69 : decode cL_areRanks 69 = .ok (.iconst 2, 1) := by decide +kernel
theorem dL_areRanks_70 : decode cL_areRanks 70 = .ok (.invokevirtual 78, 3) := by decide +kernel
theorem dL_areRanks_73 : decode cL_areRanks 73 = .ok (.isub, 1) := by decide +kernel
theorem dL_areRanks_74 : decode cL_areRanks 74 = .ok (.istore 6, 2) := by decide +kernel
theorem dL_areRanks_76 : decode cL_areRanks 76 = .ok (.aload_n 0, 1) := by decide +kernel
theorem dL_areRanks_77 : decode cL_areRanks 77 = .ok (.iload 4, 2) := by decide +kernel
theorem dL_areRanks_79 : decode cL_areRanks 79 = .ok (.iconst 1, 1) := by decide +kernel
theorem dL_areRanks_80 : decode cL_areRanks 80 = .ok (.invokevirtual 78, 3) := by decide +kernel
theorem dL_areRanks_83 : decode cL_areRanks 83 = .ok (.aload_n 0, 1) := by decide +kernel
theorem dL_areRanks_84 : decode cL_areRanks 84 = .ok (.iload 5, 2) := by decide +kernel
theorem dL_areRanks_86 : decode cL_areRanks 86 = .ok (.iconst 1, 1) := by decide +kernel
theorem dL_areRanks_87 : decode cL_areRanks 87 = .ok (.invokevirtual 78, 3) := by decide +kernel
theorem dL_areRanks_90 : decode cL_areRanks 90 = .ok (.isub, 1) := by decide +kernel
theorem dL_areRanks_91 : decode cL_areRanks 91 = .ok (.istore 7, 2) := by decide +kernel
theorem dL_areRanks_93 : decode cL_areRanks 93 = .ok (.iload 6, 2) := by decide +kernel
theorem dL_areRanks_95 : decode cL_areRanks 95 = .ok (.ifCond .gt 25, 3) := by decide +kernel
theorem dL_areRanks_98 : decode cL_areRanks 98 = .ok (.iload 6, 2) := by decide +kernel
theorem dL_areRanks_100 : decode cL_areRanks 100 = .ok (.ifCond .ne 24, 3) := by decide +kernel
theorem dL_areRanks_103 : decode cL_areRanks 103 = .ok (.iload 7, 2) := by decide +kernel
theorem dL_areRanks_105 : decode cL_areRanks 105 = .ok (.ifCond .gt 15, 3) := by decide +kernel
theorem dL_areRanks_108 : decode cL_areRanks 108 = .ok (.iload 7, 2) := by decide +kernel
theorem dL_areRanks_110 : decode cL_areRanks 110 = .ok (.ifCond .ne 14, 3) := by decide +kernel
theorem dL_areRanks_113 : decode cL_areRanks 113 = .ok (.iload 4, 2) := by decide +kernel
theorem dL_areRanks_115 : decode cL_areRanks 115 = .ok (.iload 5, 2) := by decide +kernel
theorem dL_areRanks_117 : decode cL_areRanks 117 = .ok (.if_icmp .ge 7, 3) := by decide +kernel
theorem dL_areRanks_120 : decode cL_areRanks 120 = .ok (.iconst 1, 1) := by decide +kernel
theorem dL_areRanks_121 : decode cL_areRanks 121 = .ok (.goto 4, 3) := by decide +kernel
theorem dL_areRanks_124 : decode cL_areRanks 124 = .ok (.iconst 0, 1) := by decide +kernel
theorem dL_areRanks_125 : decode cL_areRanks 125 = .ok (.istore_n 2, 1) := by decide +kernel
theorem dL_areRanks_126 : decode cL_areRanks 126 = .ok (.iinc 3 1, 3) := by decide +kernel
theorem dL_areRanks_129 : decode cL_areRanks 129 = .ok (.goto (-95), 3) := by decide +kernel
theorem dL_areRanks_132 : decode cL_areRanks 132 = .ok (.aload_n 0, 1) := by decide +kernel
theorem dL_areRanks_133 : decode cL_areRanks 133 = .ok (.invokevirtual 113, 3) := by decide +kernel
theorem dL_areRanks_136 : decode cL_areRanks 136 = .ok (.istore_n 3, 1) := by decide +kernel
theorem dL_areRanks_137 : decode cL_areRanks 137 = .ok (.iconst 1, 1) := by decide +kernel
theorem dL_areRanks_138 : decode cL_areRanks 138 = .ok (.istore 4, 2) := by decide +kernel
theorem dL_areRanks_140 : decode cL_areRanks 140 = .ok (.iload_n 2, 1) := by decide +kernel
theorem dL_areRanks_141 : decode cL_areRanks 141 = .ok (.ifCond .eq 74, 3) := by decide +kernel
theorem dL_areRanks_144 : decode cL_areRanks 144 = .ok (.iload 4, 2) := by decide +kernel
theorem dL_areRanks_146 : decode cL_areRanks 146 = .ok (.bipush 33, 2) := by decide +kernel
theorem dL_areRanks_148 : decode cL_areRanks 148 = .ok (.if_icmp .ge 67, 3) := by decide +kernel
theorem dL_areRanks_151 : decode cL_areRanks 151 = .ok (.aload_n 0, 1) := by decide +kernel
theorem dL_areRanks_152 : decode cL_areRanks 152 = .ok (.iload 4, 2) := by decide +kernel
theorem dL_areRanks_154 : decode cL_areRanks 154 = .ok (.iconst 2, 1) := by decide +kernel
theorem dL_areRanks_155 : decode cL_areRanks 155 = .ok (.invokevirtual 81, 3) := by decide +kernel
theorem dL_areRanks_158 : decode cL_areRanks 158 = .ok (.aload_n 0, 1) := by decide +kernel
theorem dL_areRanks_159 : decode cL_areRanks 159 = .ok (.iload 4, 2) := by decide +kernel
theorem dL_areRanks_161 : decode cL_areRanks 161 = .ok (.iconst 1, 1) := by decide +kernel
theorem dL_areRanks_162 : decode cL_areRanks 162 = .ok (.invokevirtual 81, 3) := by decide +kernel
theorem dL_areRanks_165 : decode cL_areRanks 165 = .ok (.isub, 1) := by decide +kernel
theorem dL_areRanks_166 : decode cL_areRanks 166 = .ok (.istore 5, 2) := by decide +kernel
theorem dL_areRanks_168 : decode cL_areRanks 168 = .ok (.aload_n 0, 1) := by decide +kernel
theorem dL_areRanks_169 : decode cL_areRanks 169 = .ok (.iload 4, 2) := by decide +kernel
theorem dL_areRanks_171 : decode cL_areRanks 171 = .ok (.iconst 3, 1) := by decide +kernel
theorem dL_areRanks_172 : decode cL_areRanks 172 = .ok (.invokevirtual 81, 3) := by decide +kernel
theorem dL_areRanks_175 : decode cL_areRanks 175 = .ok (.iconst 1, 1) := by decide +kernel
theorem dL_areRanks_176 : decode cL_areRanks 176 = .ok (.if_icmp .eq 27, 3) := by decide +kernel
theorem dL_areRanks_179 : decode cL_areRanks 179 = .ok (.iload_n 3, 1) := by decide +kernel
theorem dL_areRanks_180 : decode cL_areRanks 180 = .ok (.bipush (-15), 2) := by decide +kernel
theorem dL_areRanks_182 : decode cL_areRanks 182 = .ok (.if_icmp .eq 25, 3) := by decide +kernel
theorem dL_areRanks_185 : decode cL_areRanks 185 = .ok (.iload 5, 2) := by decide +kernel
theorem dL_areRanks_187 : decode cL_areRanks 187 = .ok (.aload_n 0, 1) := by decide +kernel
theorem dL_areRanks_188 : decode cL_areRanks 188 = .ok (.iload_n 3, 1) := by decide +kernel
theorem dL_areRanks_189 : decode cL_areRanks 189 = .ok (.iconst 2, 1) := by decide +kernel
theorem dL_areRanks_190 : decode cL_areRanks 190 = .ok (.invokevirtual 81, 3) := by decide +kernel
theorem dL_areRanks_193 : decode cL_areRanks 193 = .ok (.aload_n 0, 1) := by decide +kernel
theorem dL_areRanks_194 : decode cL_areRanks 194 = .ok (.iload_n 3, 1) := by decide +kernel
theorem dL_areRanks_195 : decode cL_areRanks 195 = .ok (.iconst 1, 1) := by decide +kernel
theorem dL_areRanks_196 : decode cL_areRanks 196 = .ok (.invokevirtual 81, 3) := by decide +kernel
theorem dL_areRanks_199 : decode cL_areRanks 199 = .ok (.isub, 1) := by decide +kernel
theorem dL_areRanks_200 : decode cL_areRanks 200 = .ok (.if_icmp .lt 7, 3) := by decide +kernel
theorem dL_areRanks_203 : decode cL_areRanks 203 = .ok (.iconst 1, 1) := by decide +kernel
theorem dL_areRanks_204 : decode cL_areRanks 204 = .ok (.goto 4, 3) := by decide +kernel
theorem dL_areRanks_207 : decode cL_areRanks 207 = .ok (.iconst 0, 1) := by decide +kernel
theorem dL_areRanks_208 : decode cL_areRanks 208 = .ok (.istore_n 2, 1) := by decide +kernel
theorem dL_areRanks_209 : decode cL_areRanks 209 = .ok (.iinc 4 1, 3) := by decide +kernel
theorem dL_areRanks_212 : decode cL_areRanks 212 = .ok (.goto (-72), 3) := by decide +kernel
theorem dL_areRanks_215 : decode cL_areRanks 215 = .ok (.iload_n 2, 1) := by decide +kernel
theorem dL_areRanks_216 : decode cL_areRanks 216 = .ok (.ifCond .eq 54, 3) := by decide +kernel
theorem dL_areRanks_219 : decode cL_areRanks 219 = .ok (.iload_n 1, 1) := by decide +kernel
theorem dL_areRanks_220 : decode cL_areRanks 220 = .ok (.ifCond .ne 7, 3) := by decide +kernel
theorem dL_areRanks_223 : decode cL_areRanks 223 = .ok (.iconst 1, 1) := by decide +kernel
theorem dL_areRanks_224 : decode cL_areRanks 224 = .ok (.goto 4, 3) := by decide +kernel
theorem dL_areRanks_227 : decode cL_areRanks 227 = .ok (.iconst 0, 1) := by decide +kernel
theorem dL_areRanks_228 : decode cL_areRanks 228 = .ok (.aload_n 0, 1) := by decide +kernel
theorem dL_areRanks_229 : decode cL_areRanks 229 = .ok (.invokevirtual 116, 3) := by decide +kernel
theorem dL_areRanks_232 : decode cL_areRanks 232 = .ok (.bipush (-15), 2) := by decide +kernel
theorem dL_areRanks_234 : decode cL_areRanks 234 = .ok (.if_icmp .ne 7, 3) := by decide +kernel
theorem dL_areRanks_237 : decode cL_areRanks 237 = .ok (.iconst 1, 1) := by decide +kernel
theorem dL_areRanks_238 : decode cL_areRanks 238 = .ok (.goto 4, 3) := by decide +kernel
theorem dL_areRanks_241 : decode cL_areRanks 241 = .ok (.iconst 0, 1) := by decide +kernel
theorem dL_areRanks_242 : decode cL_areRanks 242 = .ok (.if_icmp .ne 28, 3) := by decide +kernel
theorem dL_areRanks_245 : decode cL_areRanks 245 = .ok (.aload_n 0, 1) := by decide +kernel
theorem dL_areRanks_246 : decode cL_areRanks 246 = .ok (.invokevirtual 119, 3) := by decide +kernel
theorem dL_areRanks_249 : decode cL_areRanks 249 = .ok (.bipush 32, 2) := by decide +kernel
theorem dL_areRanks_251 : decode cL_areRanks 251 = .ok (.aload_n 0, 1) := by decide +kernel
theorem dL_areRanks_252 : decode cL_areRanks 252 = .ok (.bipush 13, 2) := by decide +kernel
theorem dL_areRanks_254 : decode cL_areRanks 254 = .ok (.invokevirtual 75, 3) := by decide +kernel
theorem dL_areRanks_257 : decode cL_areRanks 257 = .ok (.isub, 1) := by decide +kernel
theorem dL_areRanks_258 : decode cL_areRanks 258 = .ok (.i2f, 1) := by decide +kernel
theorem dL_areRanks_259 : decode cL_areRanks 259 = .ok (.ldc 123, 2) := by decide +kernel
theorem dL_areRanks_261 : decode cL_areRanks 261 = .ok (.fdiv, 1) := by decide +kernel
theorem dL_areRanks_262 : decode cL_areRanks 262 = .ok (.fcmp .l, 1) := by decide +kernel
theorem dL_areRanks_263 : decode cL_areRanks 263 = .ok (.ifCond .ne 7, 3) := by decide +kernel
theorem dL_areRanks_266 : decode cL_areRanks 266 = .ok (.iconst 1, 1) := by decide +kernel
theorem dL_areRanks_267 : decode cL_areRanks 267 = .ok (.goto 4, 3) := by decide +kernel
theorem dL_areRanks_270 : decode cL_areRanks 270 = .ok (.iconst 0, 1) := by decide +kernel
theorem dL_areRanks_271 : decode cL_areRanks 271 = .ok (.ireturn, 1) := by decide +kernel
set_option maxRecDepth 20000 in
theorem ggL_areReached_X4_account : GoodIn wsL_areReached wsX4_account := goodIn_r _ [5, 6, 7, 8, 9, 10, 11, 12, 13, 14, 15, 16, 17, 18, 19, 4, 20, 21, 22, 23, 24, 25, 26, 27, 28, 29, 30, 31, 32, 33, 34, 35, 36, 37, 38, 39, 40, 41, 42, 43, 44, 45, 46, 47, 48, 49, 50, 51, 52, 53, 54, 55, 56, 57, 58, 59, 60, 61, 62, 63, 64, 65, 66, 67, 68, 69, 70, 99, 100, 101, 102, 103, 104, 105, 106, 107, 108, 109, 110, 111, 112, 113, 114, 115, 116, 117, 118, 119, 120, 121, 122, 123] (by decide +kernel) (by decide +kernel)
set_option maxRecDepth 20000 in
theorem gL_areReached_X4_account : GoodIn wsL_areReached (wsV RL 75 RX4 yX4_account wsX4_account) := goodIn_app (goodIn_of _ (by decide +kernel)) ggL_areReached_X4_account
set_option maxRecDepth 20000 in
theorem ggL_areReached_X4_reach : GoodIn wsL_areReached wsX4_reach := goodIn_r _ [74, 6, 63, 64, 4, 65, 75, 76, 77, 12, 78, 79, 19, 20, 99, 100, 101, 102, 103, 104, 105, 106, 107, 108, 109, 110, 111, 112, 113, 114] (by decide +kernel) (by decide +kernel)
set_option maxRecDepth 20000 in
theorem gL_areReached_X4_reach : GoodIn wsL_areReached (wsV RL 124 RX4 yX4_reach wsX4_reach) := goodIn_app (goodIn_of _ (by decide +kernel)) ggL_areReached_X4_reach
set_option maxRecDepth 20000 in
theorem ggL_areReached_X4_reachAgain : GoodIn wsL_areReached wsX4_reachAgain := goodIn_r _ [83, 6, 63, 64, 4, 65, 84, 30, 31, 12, 32, 18, 19, 20, 99, 100, 101, 102, 103, 104, 105, 106, 107, 108, 109, 110, 111, 112, 113, 114] (by decide +kernel) (by decide +kernel)
set_option maxRecDepth 20000 in
theorem gL_areReached_X4_reachAgain : GoodIn wsL_areReached (wsV RL 127 RX4 yX4_reachAgain wsX4_reachAgain) := goodIn_app (goodIn_of _ (by decide +kernel)) ggL_areReached_X4_reachAgain
set_option maxRecDepth 20000 in
theorem ggL_areReached_X4_sum : GoodIn wsL_areReached wsX4_sum := goodIn_r _ [88, 6, 89, 90, 4, 91, 63, 64, 65, 92, 93, 94, 12, 95, 96, 76, 77, 78, 79, 19, 20, 97, 98, 99, 100, 101, 102, 103, 104, 105, 106, 107, 108, 109, 110, 111, 112, 113, 114] (by decide +kernel) (by decide +kernel)
set_option maxRecDepth 20000 in
theorem gL_areReached_X4_sum : GoodIn wsL_areReached (wsV RL 98 RX4 yX4_sum wsX4_sum) := goodIn_app (goodIn_of _ (by decide +kernel)) ggL_areReached_X4_sum
theorem dL_areReached_0 : decode cL_areReached 0 = .ok (.aload_n 0, 1) := by decide +kernel
theorem dL_areReached_1 : decode cL_areReached 1 = .ok (.iconst 3, 1) := by decide +kernel
theorem dL_areReached_2 : decode cL_areReached 2 = .ok (.invokevirtual 75, 3) := by decide +kernel
theorem dL_areReached_5 : decode cL_areReached 5 = .ok (.istore_n 1, 1) := by decide +kernel
theorem dL_areReached_6 : decode cL_areReached 6 = .ok (.aload_n 0, 1) := by decide +kernel
theorem dL_areReached_7 : decode cL_areReached 7 = .ok (.iload_n 1, 1) := by decide +kernel
theorem dL_areReached_8 : decode cL_areReached 8 = .ok (.iconst 1, 1) := by decide +kernel
theorem dL_areReached_9 : decode cL_areReached 9 = .ok (.iadd, 1) := by decide +kernel
theorem dL_areReached_10 : decode cL_areReached 10 = .ok (.invokevirtual 124, 3) := by decide +kernel
theorem dL_areReached_13 : decode cL_areReached 13 = .ok (.bipush (-15), 2) := by decide +kernel
theorem dL_areReached_15 : decode cL_areReached 15 = .ok (.if_icmp .ne 19, 3) := by decide +kernel
theorem dL_areReached_18 : decode cL_areReached 18 = .ok (.aload_n 0, 1) := by decide +kernel
theorem dL_areReached_19 : decode cL_areReached 19 = .ok (.iload_n 1, 1) := by decide +kernel
theorem dL_areReached_20 : decode cL_areReached 20 = .ok (.iconst 1, 1) := by decide +kernel
theorem dL_areReached_21 : decode cL_areReached 21 = .ok (.iadd, 1) := by decide +kernel
theorem dL_areReached_22 : decode cL_areReached 22 = .ok (.invokevirtual 127, 3) := by decide +kernel
theorem dL_areReached_25 : decode cL_areReached 25 = .ok (.bipush (-15), 2) := by decide +kernel
theorem dL_areReached_27 : decode cL_areReached 27 = .ok (.if_icmp .ne 7, 3) := by decide +kernel
theorem dL_areReached_30 : decode cL_areReached 30 = .ok (.iconst 1, 1) := by decide +kernel
theorem dL_areReached_31 : decode cL_areReached 31 = .ok (.goto 4, 3) := by decide +kernel
theorem dL_areReached_34 : decode cL_areReached 34 = .ok (.iconst 0, 1) := by decide +kernel
theorem dL_areReached_35 : decode cL_areReached 35 = .ok (.istore_n 2, 1) := by decide +kernel
theorem dL_areReached_36 : decode cL_areReached 36 = .ok (.iconst 1, 1) := by decide +kernel
theorem dL_areReached_37 : decode cL_areReached 37 = .ok (.istore_n 3, 1) := by decide +kernel
theorem dL_areReached_38 : decode cL_areReached 38 = .ok (.iload_n 2, 1) := by decide +kernel
theorem dL_areReached_39 : decode cL_areReached 39 = .ok (.ifCond .eq 87, 3) := by decide +kernel
theorem dL_areReached_42 : decode cL_areReached 42 = .ok (.iload_n 3, 1) := by decide +kernel
theorem dL_areReached_43 : decode cL_areReached 43 = .ok (.bipush 9, 2) := by decide +kernel
theorem dL_areReached_45 : decode cL_areReached 45 = .ok (.if_icmp .ge 81, 3) := by decide +kernel
theorem dL_areReached_48 : decode cL_areReached 48 = .ok (.iload_n 1, 1) := by decide +kernel
theorem dL_areReached_49 : decode cL_areReached 49 = .ok (.ifCond .le 77, 3) := by decide +kernel
theorem dL_areReached_52 : decode cL_areReached 52 = .ok (.iconst 1, 1) := by decide +kernel
theorem dL_areReached_53 : decode cL_areReached 53 = .ok (.iload_n 1, 1) := by decide +kernel
theorem dL_areReached_54 : decode cL_areReached 54 = .ok (.iconst 1, 1) := by decide +kernel
theorem dL_areReached_55 : decode cL_areReached 55 = .ok (.isub, 1) := by decide +kernel
theorem dL_areReached_56 : decode cL_areReached 56 = .ok (.iload_n 3, 1) := by decide +kernel
theorem dL_areReached_57 : decode cL_areReached 57 = .ok (.imul, 1) := by decide +kernel
theorem dL_areReached_58 : decode cL_areReached 58 = .ok (.bipush 8, 2) := by decide +kernel
theorem dL_areReached_60 : decode cL_areReached 60 = .ok (.idiv, 1) := by decide +kernel
theorem dL_areReached_61 : decode cL_areReached 61 = .ok (.iadd, 1) := by decide +kernel
theorem dL_areReached_62 : decode cL_areReached 62 = .ok (.istore 4, 2) := by decide +kernel
theorem dL_areReached_64 : decode cL_areReached 64 = .ok (.aload_n 0, 1) := by decide +kernel
theorem dL_areReached_65 : decode cL_areReached 65 = .ok (.iload 4, 2) := by decide +kernel
theorem dL_areReached_67 : decode cL_areReached 67 = .ok (.invokevirtual 124, 3) := by decide +kernel
theorem dL_areReached_70 : decode cL_areReached 70 = .ok (.istore 5, 2) := by decide +kernel
theorem dL_areReached_72 : decode cL_areReached 72 = .ok (.iload 5, 2) := by decide +kernel
theorem dL_areReached_74 : decode cL_areReached 74 = .ok (.aload_n 0, 1) := by decide +kernel
theorem dL_areReached_75 : decode cL_areReached 75 = .ok (.iload 4, 2) := by decide +kernel
theorem dL_areReached_77 : decode cL_areReached 77 = .ok (.invokevirtual 127, 3) := by decide +kernel
theorem dL_areReached_80 : decode cL_areReached 80 = .ok (.if_icmp .ne 38, 3) := by decide +kernel
theorem dL_areReached_83 : decode cL_areReached 83 = .ok (.aload_n 0, 1) := by decide +kernel
theorem dL_areReached_84 : decode cL_areReached 84 = .ok (.iconst 0, 1) := by decide +kernel
theorem dL_areReached_85 : decode cL_areReached 85 = .ok (.iload 5, 2) := by decide +kernel
theorem dL_areReached_87 : decode cL_areReached 87 = .ok (.invokevirtual 98, 3) := by decide +kernel
theorem dL_areReached_90 : decode cL_areReached 90 = .ok (.iload 4, 2) := by decide +kernel
theorem dL_areReached_92 : decode cL_areReached 92 = .ok (.if_icmp .lt 26, 3) := by decide +kernel
theorem dL_areReached_95 : decode cL_areReached 95 = .ok (.iload 5, 2) := by decide +kernel
theorem dL_areReached_97 : decode cL_areReached 97 = .ok (.ifCond .eq 17, 3) := by decide +kernel
theorem dL_areReached_100 : decode cL_areReached 100 = .ok (.aload_n 0, 1) := by decide +kernel
theorem dL_areReached_101 : decode cL_areReached 101 = .ok (.iconst 0, 1) := by decide +kernel
theorem dL_areReached_102 : decode cL_areReached 102 = .ok (.iload 5, 2) := by decide +kernel
theorem dL_areReached_104 : decode cL_areReached 104 = .ok (.iconst 1, 1) := by decide +kernel
theorem dL_areReached_105 : decode cL_areReached 105 = .ok (.isub, 1) := by decide +kernel
theorem dL_areReached_106 : decode cL_areReached 106 = .ok (.invokevirtual 98, 3) := by decide +kernel
theorem dL_areReached_109 : decode cL_areReached 109 = .ok (.iload 4, 2) := by decide +kernel
theorem dL_areReached_111 : decode cL_areReached 111 = .ok (.if_icmp .ge 7, 3) := by decide +kernel
theorem dL_areReached_114 : decode cL_areReached 114 = .ok (.iconst 1, 1) := by decide +kernel
theorem dL_areReached_115 : decode cL_areReached 115 = .ok (.goto 4, 3) := by decide +kernel
theorem dL_areReached_118 : decode cL_areReached 118 = .ok (.iconst 0, 1) := by decide +kernel
theorem dL_areReached_119 : decode cL_areReached 119 = .ok (.istore_n 2, 1) := by decide +kernel
theorem dL_areReached_120 : decode cL_areReached 120 = .ok (.iinc 3 1, 3) := by decide +kernel
theorem dL_areReached_123 : decode cL_areReached 123 = .ok (.goto (-85), 3) := by decide +kernel
theorem dL_areReached_126 : decode cL_areReached 126 = .ok (.iload_n 2, 1) := by decide +kernel
theorem dL_areReached_127 : decode cL_areReached 127 = .ok (.ireturn, 1) := by decide +kernel
set_option maxRecDepth 20000 in
theorem ggL_isFit_L_areRanks : GoodIn wsL_isFit wsL_areRanks := goodIn_r _ [4, 5, 6, 7, 8, 9, 10, 11, 12, 13, 14, 15, 16, 17, 18, 19, 20, 21, 22, 23, 24, 25, 26, 27, 28, 29, 30, 31, 32, 33, 34, 35, 36, 37, 38, 39, 40, 41, 42, 43, 44, 45, 46, 47, 48, 49, 50, 51, 52, 53, 54, 55, 56, 57, 58, 59, 60, 61, 62, 63, 64, 65, 66, 67, 68, 69, 70, 71, 72, 73, 74, 75, 76, 77, 78, 79, 80, 81, 82, 83, 84, 85, 86, 87, 88, 89, 90, 91, 92, 93, 94, 95, 96, 97, 98, 99, 100, 101, 102, 103, 104, 105, 106, 107, 108, 109, 110, 111, 112, 113, 114, 115, 116, 117, 118, 119, 120, 121, 122, 123, 124, 125, 126, 127, 128, 129, 130, 131, 132, 133, 134, 135, 136, 137, 138, 139, 140, 141, 142, 143, 144, 145, 146, 147, 148, 149, 150, 151, 152, 153, 154, 155, 156, 157, 264, 265, 266, 267, 268, 269, 270, 271, 272, 273, 274, 275, 276, 277, 278, 279, 280, 281, 282, 283, 284, 285, 286, 287, 288] (by decide +kernel) (by decide +kernel)
set_option maxRecDepth 20000 in
theorem gL_isFit_L_areRanks : GoodIn wsL_isFit (va_wsS RL 130 yL_areRanks wsL_areRanks) := goodIn_app (goodIn_of _ (by decide +kernel)) ggL_isFit_L_areRanks
set_option maxRecDepth 20000 in
theorem ggL_isFit_L_areReached : GoodIn wsL_isFit wsL_areReached := goodIn_r _ [160, 6, 7, 8, 9, 10, 11, 12, 13, 14, 15, 16, 17, 18, 19, 20, 21, 22, 23, 24, 25, 26, 27, 28, 29, 30, 31, 32, 33, 34, 35, 36, 37, 38, 39, 40, 41, 42, 43, 44, 45, 46, 47, 48, 49, 50, 51, 52, 53, 54, 55, 56, 57, 58, 59, 60, 61, 62, 63, 64, 65, 66, 67, 68, 69, 70, 71, 72, 73, 74, 75, 161, 162, 163, 164, 126, 127, 128, 129, 130, 165, 166, 167, 168, 102, 169, 170, 171, 172, 98, 99, 100, 173, 174, 175, 176, 177, 112, 113, 264, 265, 266, 267, 268, 269, 270, 271, 272, 273, 274, 275, 276, 277, 278, 279, 280, 281, 282, 283, 284, 285, 286, 287, 288] (by decide +kernel) (by decide +kernel)
set_option maxRecDepth 20000 in
theorem gL_isFit_L_areReached : GoodIn wsL_isFit (va_wsS RL 134 yL_areReached wsL_areReached) := goodIn_app (goodIn_of _ (by decide +kernel)) ggL_isFit_L_areReached
set_option maxRecDepth 20000 in
theorem ggL_isFit_X4_isBalanced : GoodIn wsL_isFit wsX4_isBalanced := goodIn_r _ [181, 11, 126, 127, 128, 17, 129, 130, 24, 9, 25, 139, 140, 141, 125, 112, 113, 182, 31, 32, 33, 34, 35, 36, 37, 23, 71, 72, 73, 74, 75, 26, 27, 28, 29, 30, 264, 265, 266, 267, 268, 269, 270, 271, 272, 273, 274, 275, 276, 277, 278, 279] (by decide +kernel) (by decide +kernel)
set_option maxRecDepth 20000 in
theorem gL_isFit_X4_isBalanced : GoodIn wsL_isFit (wsV RL 137 RX4 yX4_isBalanced wsX4_isBalanced) := goodIn_app (goodIn_of _ (by decide +kernel)) ggL_isFit_X4_isBalanced
set_option maxRecDepth 20000 in
theorem ggL_isFit_X4_bayOf : GoodIn wsL_isFit wsX4_bayOf := goodIn_r _ [97, 11, 98, 99, 9, 100, 68, 69, 70, 80, 20, 21, 17, 22, 23, 24, 25, 101, 43, 44, 45, 46, 102, 35, 36, 37, 103, 90, 91, 92, 93, 104, 105, 106, 107, 42, 34, 108, 109, 110, 111, 112, 113, 114, 115, 116, 117, 51, 52, 53, 54, 55, 264, 265, 266, 267, 268, 269, 270, 271, 272, 273, 274, 275, 276, 277, 278, 279] (by decide +kernel) (by decide +kernel)
set_option maxRecDepth 20000 in
theorem gL_isFit_X4_bayOf : GoodIn wsL_isFit (wsV RL 78 RX4 yX4_bayOf wsX4_bayOf) := goodIn_app (goodIn_of _ (by decide +kernel)) ggL_isFit_X4_bayOf
set_option maxRecDepth 20000 in
theorem ggL_isFit_L_isBay : GoodIn wsL_isFit wsL_isBay := goodIn_r _ [185, 94, 95, 96, 9, 97, 11, 98, 99, 100, 68, 69, 70, 80, 20, 21, 17, 22, 23, 24, 25, 101, 43, 44, 45, 46, 102, 35, 36, 37, 103, 90, 91, 92, 93, 104, 105, 106, 107, 42, 34, 108, 109, 110, 111, 112, 113, 114, 115, 116, 117, 51, 52, 53, 54, 55, 186, 187, 3, 188, 132, 133, 134, 135, 136, 137, 138, 125, 126, 127, 128, 129, 130, 122, 123, 124, 131, 139, 140, 141, 142, 143, 144, 189, 190, 191, 192, 193, 194, 195, 196, 197, 198, 199, 200, 201, 202, 203, 204, 205, 206, 207, 208, 209, 210, 211, 212, 213, 214, 215, 216, 217, 218, 219, 169, 170, 171, 172, 173, 174, 175, 176, 177, 220, 221, 222, 223, 182, 31, 32, 33, 264, 265, 266, 267, 268, 269, 270, 271, 272, 273, 274, 275, 276, 277, 278, 279] (by decide +kernel) (by decide +kernel)
set_option maxRecDepth 20000 in
theorem gL_isFit_L_isBay : GoodIn wsL_isFit (va_wsS RL 140 yL_isBay wsL_isBay) := goodIn_app (goodIn_of _ (by decide +kernel)) ggL_isFit_L_isBay
set_option maxRecDepth 20000 in
theorem ggL_isFit_X4_rungOf : GoodIn wsL_isFit wsX4_rungOf := goodIn_r _ [135, 11, 136, 137, 9, 138, 68, 69, 70, 125, 112, 113, 126, 127, 128, 17, 129, 130, 24, 25, 122, 123, 124, 131, 52, 53, 54, 55, 139, 140, 141, 142, 143, 144, 264, 265, 266, 267, 268, 269, 270, 271, 272, 273, 274, 275, 276, 277, 278, 279] (by decide +kernel) (by decide +kernel)
set_option maxRecDepth 20000 in
theorem gL_isFit_X4_rungOf : GoodIn wsL_isFit (wsV RL 81 RX4 yX4_rungOf wsX4_rungOf) := goodIn_app (goodIn_of _ (by decide +kernel)) ggL_isFit_X4_rungOf
set_option maxRecDepth 20000 in
theorem ggL_isFit_L_isRung : GoodIn wsL_isFit wsL_isRung := goodIn_r _ [226, 220, 221, 222, 9, 223, 11, 98, 99, 100, 68, 69, 70, 182, 31, 32, 17, 33, 34, 35, 36, 37, 23, 24, 25, 132, 133, 134, 135, 136, 137, 138, 125, 112, 113, 126, 127, 128, 129, 130, 122, 123, 124, 131, 52, 53, 54, 55, 139, 140, 141, 142, 143, 144, 227, 228, 229, 230, 231, 232, 233, 234, 235, 236, 237, 238, 239, 240, 241, 242, 243, 244, 245, 246, 211, 212, 247, 248, 249, 250, 251, 252, 253, 254, 255, 256, 257, 258, 259, 264, 265, 266, 267, 268, 269, 270, 271, 272, 273, 274, 275, 276, 277, 278, 279, 289, 290] (by decide +kernel) (by decide +kernel)
set_option maxRecDepth 20000 in
theorem gL_isFit_L_isRung : GoodIn wsL_isFit (va_wsS RL 144 yL_isRung wsL_isRung) := goodIn_app (goodIn_of _ (by decide +kernel)) ggL_isFit_L_isRung
set_option maxRecDepth 20000 in
theorem ggL_isFit_X4_account : GoodIn wsL_isFit wsX4_account := goodIn_r _ [10, 11, 12, 13, 14, 15, 16, 17, 18, 19, 20, 21, 22, 23, 24, 9, 25, 26, 27, 28, 29, 30, 31, 32, 33, 34, 35, 36, 37, 38, 39, 40, 41, 42, 43, 44, 45, 46, 47, 48, 49, 50, 51, 52, 53, 54, 55, 56, 57, 58, 59, 60, 61, 62, 63, 64, 65, 66, 67, 68, 69, 70, 71, 72, 73, 74, 75, 264, 265, 266, 267, 268, 269, 270, 271, 272, 273, 274, 275, 276, 277, 278, 279, 280, 281, 282, 283, 284, 285, 286, 287, 288] (by decide +kernel) (by decide +kernel)
set_option maxRecDepth 20000 in
theorem gL_isFit_X4_account : GoodIn wsL_isFit (wsV RL 75 RX4 yX4_account wsX4_account) := goodIn_app (goodIn_of _ (by decide +kernel)) ggL_isFit_X4_account
set_option maxRecDepth 20000 in
theorem ggL_isFit_X4_meanSacks : GoodIn wsL_isFit wsX4_meanSacks := goodIn_r _ [263, 11, 14, 15, 16, 17, 18, 19, 20, 21, 22, 23, 24, 9, 25, 26, 27, 28, 29, 30, 31, 32, 33, 34, 35, 36, 37, 264, 265, 266, 267, 268, 269, 270, 271, 272, 273, 274, 275, 276, 277, 278, 279] (by decide +kernel) (by decide +kernel)
set_option maxRecDepth 20000 in
theorem gL_isFit_X4_meanSacks : GoodIn wsL_isFit (wsV RL 147 RX4 yX4_meanSacks wsX4_meanSacks) := goodIn_app (goodIn_of _ (by decide +kernel)) ggL_isFit_X4_meanSacks
theorem dL_isFit_0 : decode cL_isFit 0 = .ok (.iconst 0, 1) := by decide +kernel
theorem dL_isFit_1 : decode cL_isFit 1 = .ok (.istore_n 1, 1) := by decide +kernel
theorem dL_isFit_2 : decode cL_isFit 2 = .ok (.iconst 0, 1) := by decide +kernel
theorem dL_isFit_3 : decode cL_isFit 3 = .ok (.istore_n 2, 1) := by decide +kernel
theorem dL_isFit_4 : decode cL_isFit 4 = .ok (.iconst 0, 1) := by decide +kernel
theorem dL_isFit_5 : decode cL_isFit 5 = .ok (.istore_n 3, 1) := by decide +kernel
theorem dL_isFit_6 : decode cL_isFit 6 = .ok (.aload_n 0, 1) := by decide +kernel
theorem dL_isFit_7 : decode cL_isFit 7 = .ok (.invokestatic 130, 3) := by decide +kernel
theorem dL_isFit_10 : decode cL_isFit 10 = .ok (.ifCond .eq 22, 3) := by decide +kernel
theorem dL_isFit_13 : decode cL_isFit 13 = .ok (.aload_n 0, 1) := by decide +kernel
theorem dL_isFit_14 : decode cL_isFit 14 = .ok (.invokestatic 134, 3) := by decide +kernel
theorem dL_isFit_17 : decode cL_isFit 17 = .ok (.ifCond .eq 15, 3) := by decide +kernel
theorem dL_isFit_20 : decode cL_isFit 20 = .ok (.aload_n 0, 1) := by decide +kernel
theorem dL_isFit_21 : decode cL_isFit 21 = .ok (.invokevirtual 137, 3) := by decide +kernel
theorem dL_isFit_24 : decode cL_isFit 24 = .ok (.iconst 1, 1) := by decide +kernel
theorem dL_isFit_25 : decode cL_isFit 25 = .ok (.if_icmp .ne 7, 3) := by decide +kernel
theorem dL_isFit_28 : decode cL_isFit 28 = .ok (.iconst 1, 1) := by decide +kernel
theorem dL_isFit_29 : decode cL_isFit 29 = .ok (.goto 4, 3) := by decide +kernel
theorem dL_isFit_32 : decode cL_isFit 32 = .ok (.iconst 0, 1) := by decide +kernel
theorem dL_isFit_33 : decode cL_isFit 33 = .ok (.istore 4, 2) := by decide +kernel
theorem dL_isFit_35 : decode cL_isFit 35 = .ok (.iconst 0, 1) := by decide +kernel
theorem dL_isFit_36 : decode cL_isFit 36 = .ok (.istore 5, 2) := by decide +kernel
theorem dL_isFit_38 : decode cL_isFit 38 = .ok (.iload 4, 2) := by decide +kernel
theorem dL_isFit_40 : decode cL_isFit 40 = .ok (.ifCond .eq 52, 3) := by decide +kernel
theorem dL_isFit_43 : decode cL_isFit 43 = .ok (.iload 5, 2) := by decide +kernel
theorem dL_isFit_45 : decode cL_isFit 45 = .ok (.bipush 32, 2) := by decide +kernel
theorem dL_isFit_47 : decode cL_isFit 47 = .ok (.if_icmp .ge 45, 3) := by decide +kernel
theorem dL_isFit_50 : decode cL_isFit 50 = .ok (.iload_n 1, 1) := by decide +kernel
theorem dL_isFit_51 : decode cL_isFit 51 = .ok (.aload_n 0, 1) := by decide +kernel
theorem dL_isFit_52 : decode cL_isFit 52 = .ok (.iload 5, 2) := by decide +kernel
theorem dL_isFit_54 : decode cL_isFit 54 = .ok (.iconst 1, 1) := by decide +kernel
theorem dL_isFit_55 : decode cL_isFit 55 = .ok (.invokevirtual 78, 3) := by decide +kernel
theorem dL_isFit_58 : decode cL_isFit 58 = .ok (.iadd, 1) := by decide +kernel
theorem dL_isFit_59 : decode cL_isFit 59 = .ok (.istore_n 1, 1) := by decide +kernel
theorem dL_isFit_60 : decode cL_isFit 60 = .ok (.iload_n 2, 1) := by decide +kernel
theorem dL_isFit_61 : decode cL_isFit 61 = .ok (.aload_n 0, 1) := by decide +kernel
theorem dL_isFit_62 : decode cL_isFit 62 = .ok (.iload 5, 2) := by decide +kernel
theorem dL_isFit_64 : decode cL_isFit 64 = .ok (.iconst 1, 1) := by decide +kernel
theorem dL_isFit_65 : decode cL_isFit 65 = .ok (.invokevirtual 78, 3) := by decide +kernel
theorem dL_isFit_68 : decode cL_isFit 68 = .ok (.ifCond .le 7, 3) := by decide +kernel
theorem dL_isFit_71 : decode cL_isFit 71 = .ok (.iconst 1, 1) := by decide +kernel
theorem dL_isFit_72 : decode cL_isFit 72 = .ok (.goto 4, 3) := by decide +kernel
theorem dL_isFit_75 : decode cL_isFit 75 = .ok (.iconst 0, 1) := by decide +kernel
theorem dL_isFit_76 : decode cL_isFit 76 = .ok (.iadd, 1) := by decide +kernel
theorem dL_isFit_77 : decode cL_isFit 77 = .ok (.istore_n 2, 1) := by decide +kernel
theorem dL_isFit_78 : decode cL_isFit 78 = .ok (.aload_n 0, 1) := by decide +kernel
theorem dL_isFit_79 : decode cL_isFit 79 = .ok (.iload 5, 2) := by decide +kernel
theorem dL_isFit_81 : decode cL_isFit 81 = .ok (.invokestatic 140, 3) := by decide +kernel
theorem dL_isFit_84 : decode cL_isFit 84 = .ok (.istore 4, 2) := by decide +kernel
theorem dL_isFit_86 : decode cL_isFit 86 = .ok (.iinc 5 1, 3) := by decide +kernel
theorem dL_isFit_89 : decode cL_isFit 89 = .ok (.goto (-51), 3) := by decide +kernel
theorem dL_isFit_92 : decode cL_isFit 92 = .ok (.iconst 1, 1) := by decide +kernel
theorem dL_isFit_93 : decode cL_isFit 93 = .ok (.istore 5, 2) := by decide +kernel
theorem dL_isFit_95 : decode cL_isFit 95 = .ok (.iload 4, 2) := by decide +kernel
theorem dL_isFit_97 : decode cL_isFit 97 = .ok (.ifCond .eq 34, 3) := by decide +kernel
theorem dL_isFit_100 : decode cL_isFit 100 = .ok (.iload 5, 2) := by decide +kernel
theorem dL_isFit_102 : decode cL_isFit 102 = .ok (.bipush 33, 2) := by decide +kernel
theorem dL_isFit_104 : decode cL_isFit 104 = .ok (.if_icmp .ge 27, 3) := by decide +kernel
theorem dL_isFit_107 : decode cL_isFit 107 = .ok (.iload_n 3, 1) := by decide +kernel
theorem dL_isFit_108 : decode cL_isFit 108 = .ok (.aload_n 0, 1) := by decide +kernel
theorem dL_isFit_109 : decode cL_isFit 109 = .ok (.iload 5, 2) := by decide +kernel
theorem dL_isFit_111 : decode cL_isFit 111 = .ok (.iconst 3, 1) := by decide +kernel
theorem dL_isFit_112 : decode cL_isFit 112 = .ok (.invokevirtual 81, 3) := by decide +kernel
theorem dL_isFit_115 : decode cL_isFit 115 = .ok (.iadd, 1) := by decide +kernel
theorem dL_isFit_116 : decode cL_isFit 116 = .ok (.istore_n 3, 1) := by decide +kernel
theorem dL_isFit_117 : decode cL_isFit 117 = .ok (.aload_n 0, 1) := by decide +kernel
theorem dL_isFit_118 : decode cL_isFit 118 = .ok (.iload 5, 2) := by decide +kernel
theorem dL_isFit_120 : decode cL_isFit 120 = .ok (.invokestatic 144, 3) := by decide +kernel
theorem dL_isFit_123 : decode cL_isFit 123 = .ok (.istore 4, 2) := by decide +kernel
theorem dL_isFit_125 : decode cL_isFit 125 = .ok (.iinc 5 1, 3) := by decide +kernel
theorem dL_isFit_128 : decode cL_isFit 128 = .ok (.goto (-33), 3) := by decide +kernel
theorem dL_isFit_131 : decode cL_isFit 131 = .ok (.iload_n 2, 1) := by decide +kernel
theorem dL_isFit_132 : decode cL_isFit 132 = .ok (.ifCond .ne 7, 3) := by decide +kernel
theorem dL_isFit_135 : decode cL_isFit 135 = .ok (.dconst 0, 1) := by decide +kernel
theorem dL_isFit_136 : decode cL_isFit 136 = .ok (.goto 8, 3) := by decide +kernel
theorem dL_isFit_139 : decode cL_isFit 139 = .ok (.iload_n 1, 1) := by decide +kernel
theorem dL_isFit_140 : decode cL_isFit 140 = .ok (.i2d, 1) := by decide +kernel
theorem dL_isFit_141 : decode cL_isFit 141 = .ok (.iload_n 2, 1) := by decide +kernel
theorem dL_isFit_142 : decode cL_isFit 142 = .ok (.i2d, 1) := by decide +kernel
theorem dL_isFit_143 : decode cL_isFit 143 = .ok (.ddiv, 1) := by decide +kernel
theorem dL_isFit_144 : decode cL_isFit 144 = .ok (.dstore 5, 2) := by decide +kernel
theorem dL_isFit_146 : decode cL_isFit 146 = .ok (.iload 4, 2) := by decide +kernel
theorem dL_isFit_148 : decode cL_isFit 148 = .ok (.ifCond .eq 123, 3) := by decide +kernel
theorem dL_isFit_151 : decode cL_isFit 151 = .ok (.iload_n 1, 1) := by decide +kernel
theorem dL_isFit_152 : decode cL_isFit 152 = .ok (.aload_n 0, 1) := by decide +kernel
theorem dL_isFit_153 : decode cL_isFit 153 = .ok (.iconst 3, 1) := by decide +kernel
theorem dL_isFit_154 : decode cL_isFit 154 = .ok (.invokevirtual 75, 3) := by decide +kernel
theorem dL_isFit_157 : decode cL_isFit 157 = .ok (.if_icmp .ne 114, 3) := by decide +kernel
theorem dL_isFit_160 : decode cL_isFit 160 = .ok (.iload_n 2, 1) := by decide +kernel
theorem dL_isFit_161 : decode cL_isFit 161 = .ok (.aload_n 0, 1) := by decide +kernel
theorem dL_isFit_162 : decode cL_isFit 162 = .ok (.iconst 2, 1) := by decide +kernel
theorem dL_isFit_163 : decode cL_isFit 163 = .ok (.invokevirtual 75, 3) := by decide +kernel
theorem dL_isFit_166 : decode cL_isFit 166 = .ok (.if_icmp .ne 105, 3) := by decide +kernel
theorem dL_isFit_169 : decode cL_isFit 169 = .ok (.iload_n 3, 1) := by decide +kernel
theorem dL_isFit_170 : decode cL_isFit 170 = .ok (.aload_n 0, 1) := by decide +kernel
theorem dL_isFit_171 : decode cL_isFit 171 = .ok (.bipush 13, 2) := by decide +kernel
theorem dL_isFit_173 : decode cL_isFit 173 = .ok (.invokevirtual 75, 3) := by decide +kernel
theorem dL_isFit_176 : decode cL_isFit 176 = .ok (.if_icmp .ne 95, 3) := by decide +kernel
theorem dL_isFit_179 : decode cL_isFit 179 = .ok (.iload_n 1, 1) := by decide +kernel
theorem dL_isFit_180 : decode cL_isFit 180 = .ok (.aload_n 0, 1) := by decide +kernel
theorem dL_isFit_181 : decode cL_isFit 181 = .ok (.iconst 4, 1) := by decide +kernel
theorem dL_isFit_182 : decode cL_isFit 182 = .ok (.invokevirtual 75, 3) := by decide +kernel
theorem dL_isFit_185 : decode cL_isFit 185 = .ok (.aload_n 0, 1) := by decide +kernel
theorem dL_isFit_186 : decode cL_isFit 186 = .ok (.iconst 5, 1) := by decide +kernel
theorem dL_isFit_187 : decode cL_isFit 187 = .ok (.invokevirtual 75, 3) := by decide +kernel
theorem dL_isFit_190 : decode cL_isFit 190 = .ok (.iadd, 1) := by decide +kernel
theorem dL_isFit_191 : decode cL_isFit 191 = .ok (.aload_n 0, 1) := by decide +kernel
theorem dL_isFit_192 : decode cL_isFit 192 = .ok (.bipush 6, 2) := by decide +kernel
theorem dL_isFit_194 : decode cL_isFit 194 = .ok (.invokevirtual 75, 3) := by decide +kernel
theorem dL_isFit_197 : decode cL_isFit 197 = .ok (.iadd, 1) := by decide +kernel
theorem dL_isFit_198 : decode cL_isFit 198 = .ok (.aload_n 0, 1) := by decide +kernel
theorem dL_isFit_199 : decode cL_isFit 199 = .ok (.bipush 7, 2) := by decide +kernel
theorem dL_isFit_201 : decode cL_isFit 201 = .ok (.invokevirtual 75, 3) := by decide +kernel
theorem dL_isFit_204 : decode cL_isFit 204 = .ok (.iadd, 1) := by decide +kernel
theorem dL_isFit_205 : decode cL_isFit 205 = .ok (.if_icmp .ne 66, 3) := by decide +kernel
theorem dL_isFit_208 : decode cL_isFit 208 = .ok (.iload_n 1, 1) := by decide +kernel
theorem dL_isFit_209 : decode cL_isFit 209 = .ok (.aload_n 0, 1) := by decide +kernel
theorem dL_isFit_210 : decode cL_isFit 210 = .ok (.bipush 8, 2) := by decide +kernel
theorem dL_isFit_212 : decode cL_isFit 212 = .ok (.invokevirtual 75, 3) := by decide +kernel
theorem dL_isFit_215 : decode cL_isFit 215 = .ok (.aload_n 0, 1) := by decide +kernel
theorem dL_isFit_216 : decode cL_isFit 216 = .ok (.bipush 9, 2) := by decide +kernel
theorem dL_isFit_218 : decode cL_isFit 218 = .ok (.invokevirtual 75, 3) := by decide +kernel
theorem dL_isFit_221 : decode cL_isFit 221 = .ok (.isub, 1) := by decide +kernel
theorem dL_isFit_222 : decode cL_isFit 222 = .ok (.aload_n 0, 1) := by decide +kernel
theorem dL_isFit_223 : decode cL_isFit 223 = .ok (.bipush 10, 2) := by decide +kernel
theorem dL_isFit_225 : decode cL_isFit 225 = .ok (.invokevirtual 75, 3) := by decide +kernel
theorem dL_isFit_228 : decode cL_isFit 228 = .ok (.isub, 1) := by decide +kernel
theorem dL_isFit_229 : decode cL_isFit 229 = .ok (.aload_n 0, 1) := by decide +kernel
theorem dL_isFit_230 : decode cL_isFit 230 = .ok (.bipush 11, 2) := by decide +kernel
theorem dL_isFit_232 : decode cL_isFit 232 = .ok (.invokevirtual 75, 3) := by decide +kernel
theorem dL_isFit_235 : decode cL_isFit 235 = .ok (.isub, 1) := by decide +kernel
theorem dL_isFit_236 : decode cL_isFit 236 = .ok (.if_icmp .ne 35, 3) := by decide +kernel
theorem dL_isFit_239 : decode cL_isFit 239 = .ok (.aload_n 0, 1) := by decide +kernel
theorem dL_isFit_240 : decode cL_isFit 240 = .ok (.invokevirtual 147, 3) := by decide +kernel
theorem dL_isFit_243 : decode cL_isFit 243 = .ok (.dload 5, 2) := by decide +kernel
theorem dL_isFit_245 : decode cL_isFit 245 = .ok (.dcmp .l, 1) := by decide +kernel
theorem dL_isFit_246 : decode cL_isFit 246 = .ok (.ifCond .ne 25, 3) := by decide +kernel
theorem dL_isFit_249 : decode cL_isFit 249 = .ok (.aload_n 0, 1) := by decide +kernel
theorem dL_isFit_250 : decode cL_isFit 250 = .ok (.iconst 1, 1) := by decide +kernel
theorem dL_isFit_251 : decode cL_isFit 251 = .ok (.invokevirtual 75, 3) := by decide +kernel
theorem dL_isFit_254 : decode cL_isFit 254 = .ok (.ifCond .lt 17, 3) := by decide +kernel
theorem dL_isFit_257 : decode cL_isFit 257 = .ok (.aload_n 0, 1) := by decide +kernel
theorem dL_isFit_258 : decode cL_isFit 258 = .ok (.bipush 14, 2) := by decide +kernel
theorem dL_isFit_260 : decode cL_isFit 260 = .ok (.invokevirtual 75, 3) := by decide +kernel
theorem dL_isFit_263 : decode cL_isFit 263 = .ok (.iload_n 3, 1) := by decide +kernel
theorem dL_isFit_264 : decode cL_isFit 264 = .ok (.if_icmp .lt 7, 3) := by decide +kernel
theorem dL_isFit_267 : decode cL_isFit 267 = .ok (.iconst 1, 1) := by decide +kernel
theorem dL_isFit_268 : decode cL_isFit 268 = .ok (.goto 4, 3) := by decide +kernel
theorem dL_isFit_271 : decode cL_isFit 271 = .ok (.iconst 0, 1) := by decide +kernel
theorem dL_isFit_272 : decode cL_isFit 272 = .ok (.ireturn, 1) := by decide +kernel
set_option maxRecDepth 20000 in
theorem ggL_isBest_L_digest : GoodIn wsL_isBest wsL_digest := goodIn_r _ [4, 5, 6, 7, 8, 9, 10, 11, 12, 13, 14, 15, 16, 17, 18, 19, 20, 21, 22, 23, 24, 25, 26, 27, 28, 29, 30, 31, 32, 33, 34, 35, 36, 37, 38, 39, 40, 41, 42, 43, 44, 45, 46, 47, 48, 49, 50, 51, 52, 53, 54, 55, 56, 57, 58, 59, 60, 61, 62, 63, 64, 65, 66, 67, 68, 69, 70, 71, 72, 73, 74, 75, 76, 77, 78, 79, 80, 81, 82, 83, 84, 85, 86, 87, 88, 89, 90, 91, 92, 93, 94, 95, 96, 97, 98, 99, 100, 101, 102, 103, 104, 105, 106, 107, 108, 109, 110, 111, 112, 113, 114, 115, 116, 117, 118, 119, 120, 121, 122, 123, 124, 125, 126, 127, 128, 355, 356, 357, 358, 359, 360, 361, 362, 363, 364, 365, 366, 367, 368, 369, 370, 371, 372, 373, 374, 375, 376, 377, 378, 379] (by decide +kernel) (by decide +kernel)
set_option maxRecDepth 20000 in
theorem gL_isBest_L_digest : GoodIn wsL_isBest (va_wsS RL 151 yL_digest wsL_digest) := goodIn_app (goodIn_of _ (by decide +kernel)) ggL_isBest_L_digest
set_option maxRecDepth 20000 in
theorem ggL_isBest_X4_bestBay : GoodIn wsL_isBest wsX4_bestBay := goodIn_r _ [132, 12, 133, 134, 10, 135, 69, 70, 71, 136, 137, 138, 139, 84, 21, 22, 18, 23, 24, 25, 26, 85, 44, 45, 46, 47, 86, 36, 37, 38, 140, 141, 142, 143, 52, 53, 54, 55, 56, 144, 115, 116, 117, 118, 120, 121, 113, 100, 101, 355, 356, 357, 358, 359, 360, 361, 362, 363, 364, 365, 366, 367, 368, 369, 370] (by decide +kernel) (by decide +kernel)
set_option maxRecDepth 20000 in
theorem gL_isBest_X4_bestBay : GoodIn wsL_isBest (wsV RL 155 RX4 yX4_bestBay wsX4_bestBay) := goodIn_app (goodIn_of _ (by decide +kernel)) ggL_isBest_X4_bestBay
set_option maxRecDepth 20000 in
theorem ggL_isBest_X4_bayOf : GoodIn wsL_isBest wsX4_bayOf := goodIn_r _ [80, 12, 81, 82, 10, 83, 69, 70, 71, 84, 21, 22, 18, 23, 24, 25, 26, 85, 44, 45, 46, 47, 86, 36, 37, 38, 87, 88, 89, 90, 91, 92, 93, 94, 95, 43, 35, 96, 97, 98, 99, 100, 101, 102, 103, 104, 105, 52, 53, 54, 55, 56, 355, 356, 357, 358, 359, 360, 361, 362, 363, 364, 365, 366, 367, 368, 369, 370] (by decide +kernel) (by decide +kernel)
set_option maxRecDepth 20000 in
theorem gL_isBest_X4_bayOf : GoodIn wsL_isBest (wsV RL 78 RX4 yX4_bayOf wsX4_bayOf) := goodIn_app (goodIn_of _ (by decide +kernel)) ggL_isBest_X4_bayOf
set_option maxRecDepth 20000 in
theorem ggL_isBest_X4_store : GoodIn wsL_isBest wsX4_store := goodIn_r _ [148, 149, 12, 150, 151, 152, 18, 153, 47, 24, 91, 118, 56, 76, 154, 10, 155, 156, 157, 158, 159, 81, 82, 83, 69, 70, 71, 133, 134, 135, 136, 137, 138, 139, 84, 21, 22, 23, 25, 26, 85, 44, 45, 46, 86, 36, 37, 38, 160, 161, 162, 163, 164, 165, 166, 167, 168, 169, 170, 171, 172, 173, 174, 175, 87, 88, 89, 90, 176, 177, 178, 179, 180, 181, 182, 183, 100, 101, 184, 185, 186, 187, 52, 53, 54, 55, 144, 115, 116, 117, 120, 121, 113, 188, 189, 190, 191, 192, 14, 193, 194, 195, 66, 196, 197, 198, 68, 199, 200, 201, 202, 203, 355, 356, 357, 358, 359, 360, 361, 362, 363, 364, 365, 366, 367, 368, 369, 370, 377, 378, 379] (by decide +kernel) (by decide +kernel)
set_option maxRecDepth 20000 in
theorem gL_isBest_X4_store : GoodIn wsL_isBest (wsV RL 24 RX4 yX4_store wsX4_store) := goodIn_app (goodIn_of _ (by decide +kernel)) ggL_isBest_X4_store
set_option maxRecDepth 20000 in
theorem ggL_isBest_L_isFit : GoodIn wsL_isBest wsL_isFit := goodIn_r _ [206, 207, 208, 3, 209, 210, 7, 8, 9, 10, 11, 12, 13, 14, 15, 16, 17, 18, 19, 20, 21, 22, 23, 24, 25, 26, 27, 28, 29, 30, 31, 32, 33, 34, 35, 36, 37, 38, 39, 40, 41, 42, 43, 44, 45, 46, 47, 48, 49, 50, 51, 52, 53, 54, 55, 56, 57, 58, 59, 60, 61, 62, 63, 64, 65, 66, 67, 68, 69, 70, 71, 72, 73, 74, 75, 76, 211, 212, 213, 214, 84, 215, 216, 217, 218, 219, 220, 221, 222, 223, 88, 89, 90, 91, 77, 78, 79, 80, 81, 82, 83, 85, 86, 87, 92, 93, 94, 95, 96, 97, 98, 99, 100, 101, 102, 103, 104, 105, 224, 225, 226, 227, 119, 120, 121, 113, 114, 115, 116, 117, 118, 122, 106, 107, 108, 109, 110, 111, 112, 123, 124, 125, 126, 127, 128, 228, 229, 230, 231, 232, 233, 234, 235, 236, 237, 238, 239, 240, 241, 242, 243, 244, 245, 246, 247, 248, 249, 250, 251, 252, 253, 254, 255, 256, 257, 258, 259, 144, 260, 261, 262, 263, 264, 265, 266, 267, 268, 269, 270, 271, 272, 273, 274, 275, 276, 277, 278, 279, 280, 281, 282, 283, 284, 285, 286, 287, 288, 289, 290, 291, 292, 174, 175, 293, 294, 295, 296, 297, 298, 299, 300, 301, 302, 303, 304, 305, 306, 307, 308, 309, 310, 311, 312, 313, 314, 315, 316, 317, 318, 319, 320, 321, 322, 323, 324, 325, 326, 327, 328, 329, 330, 331, 332, 333, 334, 335, 336, 337, 338, 339, 340, 341, 342, 343, 355, 356, 357, 358, 359, 360, 361, 362, 363, 364, 365, 366, 367, 368, 369, 370, 371, 372, 373, 374, 375, 376, 377, 378, 379, 380, 381] (by decide +kernel) (by decide +kernel)
set_option maxRecDepth 20000 in
theorem gL_isBest_L_isFit : GoodIn wsL_isBest (va_wsS RL 158 yL_isFit wsL_isFit) := goodIn_app (goodIn_of _ (by decide +kernel)) ggL_isBest_L_isFit
set_option maxRecDepth 20000 in
theorem ggL_isBest_X4_undo : GoodIn wsL_isBest wsX4_undo := goodIn_r _ [347, 14, 12, 63, 64, 65, 66, 67, 68, 348, 349, 350, 351, 197, 352, 353, 201, 354, 198, 203, 151, 152, 18, 153, 47, 24, 91, 118, 56, 76, 154, 10, 155, 355, 356, 357, 358, 359, 360, 361, 362, 363, 364, 377, 378, 379, 365, 366, 367, 368, 369, 370] (by decide +kernel) (by decide +kernel)
set_option maxRecDepth 20000 in
theorem gL_isBest_X4_undo : GoodIn wsL_isBest (wsV RL 68 RX4 yX4_undo wsX4_undo) := goodIn_app (goodIn_of _ (by decide +kernel)) ggL_isBest_X4_undo
theorem dL_isBest_0 : decode cL_isBest 0 = .ok (.aload_n 0, 1) := by decide +kernel
theorem dL_isBest_1 : decode cL_isBest 1 = .ok (.invokestatic 151, 3) := by decide +kernel
theorem dL_isBest_4 : decode cL_isBest 4 = .ok (.lstore_n 3, 1) := by decide +kernel
theorem dL_isBest_5 : decode cL_isBest 5 = .ok (.aload_n 0, 1) := by decide +kernel
theorem dL_isBest_6 : decode cL_isBest 6 = .ok (.iload_n 1, 1) := by decide +kernel
theorem dL_isBest_7 : decode cL_isBest 7 = .ok (.iload_n 2, 1) := by decide +kernel
theorem dL_isBest_8 : decode cL_isBest 8 = .ok (.invokevirtual 155, 3) := by decide +kernel
theorem dL_isBest_11 : decode cL_isBest 11 = .ok (.istore 5, 2) := by decide +kernel
theorem dL_isBest_13 : decode cL_isBest 13 = .ok (.iload 5, 2) := by decide +kernel
theorem dL_isBest_15 : decode cL_isBest 15 = .ok (.bipush (-15), 2) := by decide +kernel
theorem dL_isBest_17 : decode cL_isBest 17 = .ok (.if_icmp .ne 5, 3) := by decide +kernel
theorem dL_isBest_20 : decode cL_isBest 20 = .ok (.iconst 1, 1) := by decide +kernel
theorem dL_isBest_21 : decode cL_isBest 21 = .ok (.ireturn, 1) := by decide +kernel
theorem dL_isBest_22 : decode cL_isBest 22 = .ok (.aload_n 0, 1) := by decide +kernel
theorem dL_isBest_23 : decode cL_isBest 23 = .ok (.iload 5, 2) := by decide +kernel
theorem dL_isBest_25 : decode cL_isBest 25 = .ok (.iconst 1, 1) := by decide +kernel
theorem dL_isBest_26 : decode cL_isBest 26 = .ok (.invokevirtual 78, 3) := by decide +kernel
theorem dL_isBest_29 : decode cL_isBest 29 = .ok (.istore 6, 2) := by decide +kernel
theorem dL_isBest_31 : decode cL_isBest 31 = .ok (.iload 6, 2) := by decide +kernel
theorem dL_isBest_33 : decode cL_isBest 33 = .ok (.ifCond .eq 14, 3) := by decide +kernel
theorem dL_isBest_36 : decode cL_isBest 36 = .ok (.aload_n 0, 1) := by decide +kernel
theorem dL_isBest_37 : decode cL_isBest 37 = .ok (.iload 5, 2) := by decide +kernel
theorem dL_isBest_39 : decode cL_isBest 39 = .ok (.iconst 0, 1) := by decide +kernel
theorem dL_isBest_40 : decode cL_isBest 40 = .ok (.invokevirtual 78, 3) := by decide +kernel
theorem dL_isBest_43 : decode cL_isBest 43 = .ok (.iload_n 1, 1) := by decide +kernel
theorem dL_isBest_44 : decode cL_isBest 44 = .ok (.if_icmp .ne 39, 3) := by decide +kernel
theorem dL_isBest_47 : decode cL_isBest 47 = .ok (.aload_n 0, 1) := by decide +kernel
theorem dL_isBest_48 : decode cL_isBest 48 = .ok (.iload 5, 2) := by decide +kernel
theorem dL_isBest_50 : decode cL_isBest 50 = .ok (.iload_n 1, 1) := by decide +kernel
theorem dL_isBest_51 : decode cL_isBest 51 = .ok (.iload_n 2, 1) := by decide +kernel
theorem dL_isBest_52 : decode cL_isBest 52 = .ok (.invokevirtual 24, 3) := by decide +kernel
theorem dL_isBest_55 : decode cL_isBest 55 = .ok (.ifCond .ne 28, 3) := by decide +kernel
theorem dL_isBest_58 : decode cL_isBest 58 = .ok (.aload_n 0, 1) := by decide +kernel
theorem dL_isBest_59 : decode cL_isBest 59 = .ok (.iload 5, 2) := by decide +kernel
theorem dL_isBest_61 : decode cL_isBest 61 = .ok (.iconst 1, 1) := by decide +kernel
theorem dL_isBest_62 : decode cL_isBest 62 = .ok (.invokevirtual 78, 3) := by decide +kernel
theorem dL_isBest_65 : decode cL_isBest 65 = .ok (.iload 6, 2) := by decide +kernel
theorem dL_isBest_67 : decode cL_isBest 67 = .ok (.iload_n 2, 1) := by decide +kernel
theorem dL_isBest_68 : decode cL_isBest 68 = .ok (.iadd, 1) := by decide +kernel
theorem dL_isBest_69 : decode cL_isBest 69 = .ok (.if_icmp .ne 14, 3) := by decide +kernel
theorem dL_isBest_72 : decode cL_isBest 72 = .ok (.aload_n 0, 1) := by decide +kernel
theorem dL_isBest_73 : decode cL_isBest 73 = .ok (.invokestatic 158, 3) := by decide +kernel
theorem dL_isBest_76 : decode cL_isBest 76 = .ok (.ifCond .eq 7, 3) := by decide +kernel
theorem dL_isBest_79 : decode cL_isBest 79 = .ok (.iconst 1, 1) := by decide +kernel
theorem dL_isBest_80 : decode cL_isBest 80 = .ok (.goto 4, 3) := by decide +kernel
theorem dL_isBest_83 : decode cL_isBest 83 = .ok (.iconst 0, 1) := by decide +kernel
theorem dL_isBest_84 : decode cL_isBest 84 = .ok (.istore 7, 2) := by decide +kernel
theorem dL_isBest_86 : decode cL_isBest 86 = .ok (.iload 7, 2) := by decide +kernel
theorem dL_isBest_88 : decode cL_isBest 88 = .ok (.ifCond .eq 23, 3) := by decide +kernel
theorem dL_isBest_91 : decode cL_isBest 91 = .ok (.aload_n 0, 1) := by decide +kernel
theorem dL_isBest_92 : decode cL_isBest 92 = .ok (.invokevirtual 68, 3) := by decide +kernel
theorem dL_isBest_95 : decode cL_isBest 95 = .ok (.ifCond .lt 16, 3) := by decide +kernel
theorem dL_isBest_98 : decode cL_isBest 98 = .ok (.aload_n 0, 1) := by decide +kernel
theorem dL_isBest_99 : decode cL_isBest 99 = .ok (.invokestatic 151, 3) := by decide +kernel
theorem dL_isBest_102 : decode cL_isBest 102 = .ok (.lload_n 3, 1) := by decide +kernel
theorem dL_isBest_103 : decode cL_isBest 103 = .ok (.lcmp, 1) := by decide +kernel
theorem dL_isBest_104 : decode cL_isBest 104 = .ok (.ifCond .ne 7, 3) := by decide +kernel
theorem dL_isBest_107 : decode cL_isBest 107 = .ok (.iconst 1, 1) := by decide +kernel
theorem dL_isBest_108 : decode cL_isBest 108 = .ok (.goto 4, 3) := by decide +kernel
theorem dL_isBest_111 : decode cL_isBest 111 = .ok (.iconst 0, 1) := by decide +kernel
theorem dL_isBest_112 : decode cL_isBest 112 = .ok (.ireturn, 1) := by decide +kernel
set_option maxRecDepth 20000 in
theorem ggL_isSold_L_digest : GoodIn wsL_isSold wsL_digest := goodIn_r _ [4, 5, 6, 7, 8, 9, 10, 11, 12, 13, 14, 15, 16, 17, 18, 19, 20, 21, 22, 23, 24, 25, 26, 27, 28, 29, 30, 31, 32, 33, 34, 35, 36, 37, 38, 39, 40, 41, 42, 43, 44, 45, 46, 47, 48, 49, 50, 51, 52, 53, 54, 55, 56, 57, 58, 59, 60, 61, 62, 63, 64, 65, 66, 67, 68, 69, 70, 71, 72, 73, 74, 75, 76, 77, 78, 79, 80, 81, 82, 83, 84, 85, 86, 87, 88, 89, 90, 91, 92, 93, 94, 95, 96, 97, 98, 99, 100, 101, 102, 103, 104, 105, 106, 107, 108, 109, 110, 111, 112, 113, 114, 115, 116, 117, 118, 119, 120, 121, 122, 123, 124, 125, 126, 127, 128, 350, 351, 352, 353, 354, 355, 356, 357, 358, 359, 360, 361, 362, 363, 364, 365, 366, 367, 368, 369, 370, 371, 372, 373, 374] (by decide +kernel) (by decide +kernel)
set_option maxRecDepth 20000 in
theorem gL_isSold_L_digest : GoodIn wsL_isSold (va_wsS RL 151 yL_digest wsL_digest) := goodIn_app (goodIn_of _ (by decide +kernel)) ggL_isSold_L_digest
set_option maxRecDepth 20000 in
theorem ggL_isSold_X4_account : GoodIn wsL_isSold wsX4_account := goodIn_r _ [11, 12, 13, 14, 15, 16, 17, 18, 19, 20, 21, 22, 23, 24, 25, 10, 26, 27, 28, 29, 30, 31, 32, 33, 34, 35, 36, 37, 38, 39, 40, 41, 42, 43, 44, 45, 46, 47, 48, 49, 50, 51, 52, 53, 54, 55, 56, 57, 58, 59, 60, 61, 62, 63, 64, 65, 66, 67, 68, 69, 70, 71, 72, 73, 74, 75, 76, 350, 351, 352, 353, 354, 355, 356, 357, 358, 359, 360, 361, 362, 363, 364, 365, 366, 367, 368, 369, 370, 371, 372, 373, 374] (by decide +kernel) (by decide +kernel)
set_option maxRecDepth 20000 in
theorem gL_isSold_X4_account : GoodIn wsL_isSold (wsV RL 75 RX4 yX4_account wsX4_account) := goodIn_app (goodIn_of _ (by decide +kernel)) ggL_isSold_X4_account
set_option maxRecDepth 20000 in
theorem ggL_isSold_X4_order : GoodIn wsL_isSold wsX4_order := goodIn_r _ [132, 133, 12, 134, 135, 136, 18, 137, 47, 24, 91, 118, 56, 76, 138, 10, 139, 140, 141, 142, 143, 144, 145, 146, 147, 148, 149, 150, 69, 70, 71, 39, 40, 41, 42, 43, 44, 45, 46, 25, 26, 35, 36, 37, 38, 151, 152, 153, 154, 155, 156, 157, 158, 159, 160, 20, 21, 22, 23, 161, 88, 89, 90, 86, 162, 163, 164, 165, 166, 167, 168, 169, 170, 171, 100, 101, 172, 173, 174, 175, 176, 177, 178, 179, 180, 181, 182, 14, 183, 184, 185, 66, 186, 187, 188, 68, 189, 190, 350, 351, 352, 353, 354, 355, 356, 357, 358, 359, 360, 361, 362, 363, 364, 365, 372, 373, 374] (by decide +kernel) (by decide +kernel)
set_option maxRecDepth 20000 in
theorem gL_isSold_X4_order : GoodIn wsL_isSold (wsV RL 35 RX4 yX4_order wsX4_order) := goodIn_app (goodIn_of _ (by decide +kernel)) ggL_isSold_X4_order
set_option maxRecDepth 20000 in
theorem ggL_isSold_X4_reason : GoodIn wsL_isSold wsX4_reason := goodIn_r _ [194, 155, 156, 350, 351, 352, 353, 354, 355, 356, 357, 358, 359] (by decide +kernel) (by decide +kernel)
set_option maxRecDepth 20000 in
theorem gL_isSold_X4_reason : GoodIn wsL_isSold (wsV RL 161 RX4 yX4_reason wsX4_reason) := goodIn_app (goodIn_of _ (by decide +kernel)) ggL_isSold_X4_reason
set_option maxRecDepth 20000 in
theorem ggL_isSold_X4_price : GoodIn wsL_isSold wsX4_price := goodIn_r _ [198, 148, 149, 10, 150, 69, 70, 71, 176, 177, 178] (by decide +kernel) (by decide +kernel)
set_option maxRecDepth 20000 in
theorem gL_isSold_X4_price : GoodIn wsL_isSold (wsV RL 165 RX4 yX4_price wsX4_price) := goodIn_app (goodIn_of _ (by decide +kernel)) ggL_isSold_X4_price
set_option maxRecDepth 20000 in
theorem ggL_isSold_L_isFit : GoodIn wsL_isSold wsL_isFit := goodIn_r _ [201, 202, 203, 3, 204, 205, 7, 8, 9, 10, 11, 12, 13, 14, 15, 16, 17, 18, 19, 20, 21, 22, 23, 24, 25, 26, 27, 28, 29, 30, 31, 32, 33, 34, 35, 36, 37, 38, 39, 40, 41, 42, 43, 44, 45, 46, 47, 48, 49, 50, 51, 52, 53, 54, 55, 56, 57, 58, 59, 60, 61, 62, 63, 64, 65, 66, 67, 68, 69, 70, 71, 72, 73, 74, 75, 76, 206, 207, 208, 209, 84, 210, 211, 212, 213, 214, 215, 216, 217, 161, 88, 89, 90, 91, 77, 78, 79, 80, 81, 82, 83, 85, 86, 87, 92, 93, 94, 95, 96, 97, 98, 99, 100, 101, 102, 103, 104, 105, 218, 219, 220, 221, 119, 120, 121, 113, 114, 115, 116, 117, 118, 122, 106, 107, 108, 109, 110, 111, 112, 123, 124, 125, 126, 127, 128, 222, 223, 224, 225, 226, 227, 228, 229, 230, 231, 232, 233, 234, 235, 236, 237, 238, 239, 240, 241, 242, 243, 244, 245, 246, 247, 248, 249, 250, 251, 252, 253, 254, 255, 256, 257, 258, 259, 260, 261, 262, 263, 264, 265, 266, 267, 268, 269, 270, 271, 272, 273, 274, 275, 276, 277, 278, 279, 280, 281, 282, 283, 284, 285, 286, 287, 170, 171, 288, 289, 290, 291, 292, 293, 294, 295, 296, 297, 298, 299, 300, 301, 302, 303, 304, 305, 306, 307, 308, 309, 310, 311, 312, 313, 314, 315, 316, 317, 318, 319, 320, 321, 322, 323, 324, 325, 326, 327, 328, 329, 330, 331, 332, 333, 334, 335, 336, 337, 338, 350, 351, 352, 353, 354, 355, 356, 357, 358, 359, 360, 361, 362, 363, 364, 365, 366, 367, 368, 369, 370, 371, 372, 373, 374, 375, 376] (by decide +kernel) (by decide +kernel)
set_option maxRecDepth 20000 in
theorem gL_isSold_L_isFit : GoodIn wsL_isSold (va_wsS RL 158 yL_isFit wsL_isFit) := goodIn_app (goodIn_of _ (by decide +kernel)) ggL_isSold_L_isFit
set_option maxRecDepth 20000 in
theorem ggL_isSold_X4_undo : GoodIn wsL_isSold wsX4_undo := goodIn_r _ [342, 14, 12, 63, 64, 65, 66, 67, 68, 343, 344, 345, 346, 187, 347, 348, 146, 349, 188, 190, 135, 136, 18, 137, 47, 24, 91, 118, 56, 76, 138, 10, 139, 350, 351, 352, 353, 354, 355, 356, 357, 358, 359, 372, 373, 374, 360, 361, 362, 363, 364, 365] (by decide +kernel) (by decide +kernel)
set_option maxRecDepth 20000 in
theorem gL_isSold_X4_undo : GoodIn wsL_isSold (wsV RL 68 RX4 yX4_undo wsX4_undo) := goodIn_app (goodIn_of _ (by decide +kernel)) ggL_isSold_X4_undo
theorem dL_isSold_0 : decode cL_isSold 0 = .ok (.aload_n 0, 1) := by decide +kernel
theorem dL_isSold_1 : decode cL_isSold 1 = .ok (.invokestatic 151, 3) := by decide +kernel
theorem dL_isSold_4 : decode cL_isSold 4 = .ok (.lstore_n 3, 1) := by decide +kernel
theorem dL_isSold_5 : decode cL_isSold 5 = .ok (.aload_n 0, 1) := by decide +kernel
theorem dL_isSold_6 : decode cL_isSold 6 = .ok (.iconst 4, 1) := by decide +kernel
theorem dL_isSold_7 : decode cL_isSold 7 = .ok (.iload_n 1, 1) := by decide +kernel
theorem dL_isSold_8 : decode cL_isSold 8 = .ok (.iadd, 1) := by decide +kernel
theorem dL_isSold_9 : decode cL_isSold 9 = .ok (.invokevirtual 75, 3) := by decide +kernel
theorem dL_isSold_12 : decode cL_isSold 12 = .ok (.istore 5, 2) := by decide +kernel
theorem dL_isSold_14 : decode cL_isSold 14 = .ok (.aload_n 0, 1) := by decide +kernel
theorem dL_isSold_15 : decode cL_isSold 15 = .ok (.iconst 1, 1) := by decide +kernel
theorem dL_isSold_16 : decode cL_isSold 16 = .ok (.invokevirtual 75, 3) := by decide +kernel
theorem dL_isSold_19 : decode cL_isSold 19 = .ok (.istore 6, 2) := by decide +kernel
theorem dL_isSold_21 : decode cL_isSold 21 = .ok (.aload_n 0, 1) := by decide +kernel
theorem dL_isSold_22 : decode cL_isSold 22 = .ok (.iload_n 1, 1) := by decide +kernel
theorem dL_isSold_23 : decode cL_isSold 23 = .ok (.iload_n 2, 1) := by decide +kernel
theorem dL_isSold_24 : decode cL_isSold 24 = .ok (.invokevirtual 35, 3) := by decide +kernel
theorem dL_isSold_27 : decode cL_isSold 27 = .ok (.istore 7, 2) := by decide +kernel
theorem dL_isSold_29 : decode cL_isSold 29 = .ok (.iload 7, 2) := by decide +kernel
theorem dL_isSold_31 : decode cL_isSold 31 = .ok (.bipush (-14), 2) := by decide +kernel
theorem dL_isSold_33 : decode cL_isSold 33 = .ok (.if_icmp .ne 43, 3) := by decide +kernel
theorem dL_isSold_36 : decode cL_isSold 36 = .ok (.iload 5, 2) := by decide +kernel
theorem dL_isSold_38 : decode cL_isSold 38 = .ok (.iload_n 2, 1) := by decide +kernel
theorem dL_isSold_39 : decode cL_isSold 39 = .ok (.if_icmp .ge 35, 3) := by decide +kernel
theorem dL_isSold_42 : decode cL_isSold 42 = .ok (.aload_n 0, 1) := by decide +kernel
theorem dL_isSold_43 : decode cL_isSold 43 = .ok (.iconst 0, 1) := by decide +kernel
theorem dL_isSold_44 : decode cL_isSold 44 = .ok (.invokevirtual 161, 3) := by decide +kernel
theorem dL_isSold_47 : decode cL_isSold 47 = .ok (.iconst 3, 1) := by decide +kernel
theorem dL_isSold_48 : decode cL_isSold 48 = .ok (.if_icmp .ne 26, 3) := by decide +kernel
theorem dL_isSold_51 : decode cL_isSold 51 = .ok (.aload_n 0, 1) := by decide +kernel
theorem dL_isSold_52 : decode cL_isSold 52 = .ok (.iconst 1, 1) := by decide +kernel
theorem dL_isSold_53 : decode cL_isSold 53 = .ok (.invokevirtual 161, 3) := by decide +kernel
theorem dL_isSold_56 : decode cL_isSold 56 = .ok (.iload 5, 2) := by decide +kernel
theorem dL_isSold_58 : decode cL_isSold 58 = .ok (.if_icmp .ne 16, 3) := by decide +kernel
theorem dL_isSold_61 : decode cL_isSold 61 = .ok (.aload_n 0, 1) := by decide +kernel
theorem dL_isSold_62 : decode cL_isSold 62 = .ok (.invokestatic 151, 3) := by decide +kernel
theorem dL_isSold_65 : decode cL_isSold 65 = .ok (.lload_n 3, 1) := by decide +kernel
theorem dL_isSold_66 : decode cL_isSold 66 = .ok (.lcmp, 1) := by decide +kernel
theorem dL_isSold_67 : decode cL_isSold 67 = .ok (.ifCond .ne 7, 3) := by decide +kernel
theorem dL_isSold_70 : decode cL_isSold 70 = .ok (.iconst 1, 1) := by decide +kernel
theorem dL_isSold_71 : decode cL_isSold 71 = .ok (.goto 4, 3) := by decide +kernel
theorem dL_isSold_74 : decode cL_isSold 74 = .ok (.iconst 0, 1) := by decide +kernel
theorem dL_isSold_75 : decode cL_isSold 75 = .ok (.ireturn, 1) := by decide +kernel
theorem dL_isSold_76 : decode cL_isSold 76 = .ok (.iload 5, 2) := by decide +kernel
theorem dL_isSold_78 : decode cL_isSold 78 = .ok (.iload_n 2, 1) := by decide +kernel
theorem dL_isSold_79 : decode cL_isSold 79 = .ok (.if_icmp .lt 52, 3) := by decide +kernel
theorem dL_isSold_82 : decode cL_isSold 82 = .ok (.iload 7, 2) := by decide +kernel
theorem dL_isSold_84 : decode cL_isSold 84 = .ok (.aload_n 0, 1) := by decide +kernel
theorem dL_isSold_85 : decode cL_isSold 85 = .ok (.iload_n 1, 1) := by decide +kernel
theorem dL_isSold_86 : decode cL_isSold 86 = .ok (.iload_n 2, 1) := by decide +kernel
theorem dL_isSold_87 : decode cL_isSold 87 = .ok (.invokevirtual 165, 3) := by decide +kernel
theorem dL_isSold_90 : decode cL_isSold 90 = .ok (.if_icmp .ne 41, 3) := by decide +kernel
theorem dL_isSold_93 : decode cL_isSold 93 = .ok (.aload_n 0, 1) := by decide +kernel
theorem dL_isSold_94 : decode cL_isSold 94 = .ok (.iconst 1, 1) := by decide +kernel
theorem dL_isSold_95 : decode cL_isSold 95 = .ok (.invokevirtual 75, 3) := by decide +kernel
theorem dL_isSold_98 : decode cL_isSold 98 = .ok (.iload 6, 2) := by decide +kernel
theorem dL_isSold_100 : decode cL_isSold 100 = .ok (.iload 7, 2) := by decide +kernel
theorem dL_isSold_102 : decode cL_isSold 102 = .ok (.iadd, 1) := by decide +kernel
theorem dL_isSold_103 : decode cL_isSold 103 = .ok (.if_icmp .ne 28, 3) := by decide +kernel
theorem dL_isSold_106 : decode cL_isSold 106 = .ok (.aload_n 0, 1) := by decide +kernel
theorem dL_isSold_107 : decode cL_isSold 107 = .ok (.iconst 4, 1) := by decide +kernel
theorem dL_isSold_108 : decode cL_isSold 108 = .ok (.iload_n 1, 1) := by decide +kernel
theorem dL_isSold_109 : decode cL_isSold 109 = .ok (.iadd, 1) := by decide +kernel
theorem dL_isSold_110 : decode cL_isSold 110 = .ok (.invokevirtual 75, 3) := by decide +kernel
theorem dL_isSold_113 : decode cL_isSold 113 = .ok (.iload 5, 2) := by decide +kernel
theorem dL_isSold_115 : decode cL_isSold 115 = .ok (.iload_n 2, 1) := by decide +kernel
theorem dL_isSold_116 : decode cL_isSold 116 = .ok (.isub, 1) := by decide +kernel
theorem dL_isSold_117 : decode cL_isSold 117 = .ok (.if_icmp .ne 14, 3) := by decide +kernel
theorem dL_isSold_120 : decode cL_isSold 120 = .ok (.aload_n 0, 1) := by decide +kernel
theorem dL_isSold_121 : decode cL_isSold 121 = .ok (.invokestatic 158, 3) := by decide +kernel
theorem dL_isSold_124 : decode cL_isSold 124 = .ok (.ifCond .eq 7, 3) := by decide +kernel
theorem dL_isSold_127 : decode cL_isSold 127 = .ok (.iconst 1, 1) := by decide +kernel
theorem dL_isSold_128 : decode cL_isSold 128 = .ok (.goto 4, 3) := by decide +kernel
theorem dL_isSold_131 : decode cL_isSold 131 = .ok (.iconst 0, 1) := by decide +kernel
theorem dL_isSold_132 : decode cL_isSold 132 = .ok (.istore 8, 2) := by decide +kernel
theorem dL_isSold_134 : decode cL_isSold 134 = .ok (.iload 8, 2) := by decide +kernel
theorem dL_isSold_136 : decode cL_isSold 136 = .ok (.ifCond .eq 23, 3) := by decide +kernel
theorem dL_isSold_139 : decode cL_isSold 139 = .ok (.aload_n 0, 1) := by decide +kernel
theorem dL_isSold_140 : decode cL_isSold 140 = .ok (.invokevirtual 68, 3) := by decide +kernel
theorem dL_isSold_143 : decode cL_isSold 143 = .ok (.ifCond .lt 16, 3) := by decide +kernel
theorem dL_isSold_146 : decode cL_isSold 146 = .ok (.aload_n 0, 1) := by decide +kernel
theorem dL_isSold_147 : decode cL_isSold 147 = .ok (.invokestatic 151, 3) := by decide +kernel
theorem dL_isSold_150 : decode cL_isSold 150 = .ok (.lload_n 3, 1) := by decide +kernel
theorem dL_isSold_151 : decode cL_isSold 151 = .ok (.lcmp, 1) := by decide +kernel
theorem dL_isSold_152 : decode cL_isSold 152 = .ok (.ifCond .ne 7, 3) := by decide +kernel
theorem dL_isSold_155 : decode cL_isSold 155 = .ok (.iconst 1, 1) := by decide +kernel
theorem dL_isSold_156 : decode cL_isSold 156 = .ok (.goto 4, 3) := by decide +kernel
theorem dL_isSold_159 : decode cL_isSold 159 = .ok (.iconst 0, 1) := by decide +kernel
theorem dL_isSold_160 : decode cL_isSold 160 = .ok (.ireturn, 1) := by decide +kernel
set_option maxRecDepth 20000 in
theorem ggL_isPassed_L_digest : GoodIn wsL_isPassed wsL_digest := goodIn_r _ [4, 5, 6, 7, 8, 9, 10, 11, 12, 13, 14, 15, 16, 17, 18, 19, 20, 21, 22, 23, 24, 25, 26, 27, 28, 29, 30, 31, 32, 33, 34, 35, 36, 37, 38, 39, 40, 41, 42, 43, 44, 45, 46, 47, 48, 49, 50, 51, 52, 53, 54, 55, 56, 57, 58, 59, 60, 61, 62, 63, 64, 65, 66, 67, 68, 69, 70, 71, 72, 73, 74, 75, 76, 77, 78, 79, 80, 81, 82, 83, 84, 85, 86, 87, 88, 89, 90, 91, 92, 93, 94, 95, 96, 97, 98, 99, 100, 101, 102, 103, 104, 105, 106, 107, 108, 109, 110, 111, 112, 113, 114, 115, 116, 117, 118, 119, 120, 121, 122, 123, 124, 125, 126, 127, 128, 330, 331, 332, 333, 334, 335, 336, 337, 338, 339, 340, 341, 342, 343, 344, 345, 346, 347, 348, 349, 350, 351, 352, 353, 354] (by decide +kernel) (by decide +kernel)
set_option maxRecDepth 20000 in
theorem gL_isPassed_L_digest : GoodIn wsL_isPassed (va_wsS RL 151 yL_digest wsL_digest) := goodIn_app (goodIn_of _ (by decide +kernel)) ggL_isPassed_L_digest
set_option maxRecDepth 20000 in
theorem ggL_isPassed_X4_bayOf : GoodIn wsL_isPassed wsX4_bayOf := goodIn_r _ [80, 12, 81, 82, 10, 83, 69, 70, 71, 84, 21, 22, 18, 23, 24, 25, 26, 85, 44, 45, 46, 47, 86, 36, 37, 38, 87, 88, 89, 90, 91, 92, 93, 94, 95, 43, 35, 96, 97, 98, 99, 100, 101, 102, 103, 104, 105, 52, 53, 54, 55, 56, 330, 331, 332, 333, 334, 335, 336, 337, 338, 339, 340, 341, 342, 343, 344, 345] (by decide +kernel) (by decide +kernel)
set_option maxRecDepth 20000 in
theorem gL_isPassed_X4_bayOf : GoodIn wsL_isPassed (wsV RL 78 RX4 yX4_bayOf wsX4_bayOf) := goodIn_app (goodIn_of _ (by decide +kernel)) ggL_isPassed_X4_bayOf
set_option maxRecDepth 20000 in
theorem ggL_isPassed_X4_pass : GoodIn wsL_isPassed wsX4_pass := goodIn_r _ [132, 133, 12, 134, 135, 136, 18, 137, 47, 24, 91, 118, 56, 76, 138, 10, 139, 140, 141, 142, 143, 69, 70, 71, 144, 145, 146, 147, 20, 21, 22, 23, 25, 26, 148, 88, 89, 90, 149, 150, 151, 93, 94, 95, 43, 44, 45, 46, 35, 36, 37, 38, 152, 153, 154, 155, 156, 157, 158, 159, 100, 101, 160, 161, 162, 163, 164, 165, 166, 167, 14, 168, 169, 170, 66, 171, 172, 173, 68, 174, 175, 176, 177, 178, 330, 331, 332, 333, 334, 335, 336, 337, 338, 339, 340, 341, 342, 343, 344, 345, 352, 353, 354] (by decide +kernel) (by decide +kernel)
set_option maxRecDepth 20000 in
theorem gL_isPassed_X4_pass : GoodIn wsL_isPassed (wsV RL 41 RX4 yX4_pass wsX4_pass) := goodIn_app (goodIn_of _ (by decide +kernel)) ggL_isPassed_X4_pass
set_option maxRecDepth 20000 in
theorem ggL_isPassed_L_isFit : GoodIn wsL_isPassed wsL_isFit := goodIn_r _ [181, 182, 183, 3, 184, 185, 7, 8, 9, 10, 11, 12, 13, 14, 15, 16, 17, 18, 19, 20, 21, 22, 23, 24, 25, 26, 27, 28, 29, 30, 31, 32, 33, 34, 35, 36, 37, 38, 39, 40, 41, 42, 43, 44, 45, 46, 47, 48, 49, 50, 51, 52, 53, 54, 55, 56, 57, 58, 59, 60, 61, 62, 63, 64, 65, 66, 67, 68, 69, 70, 71, 72, 73, 74, 75, 76, 186, 187, 188, 189, 84, 190, 191, 192, 193, 194, 195, 196, 197, 148, 88, 89, 90, 91, 77, 78, 79, 80, 81, 82, 83, 85, 86, 87, 92, 93, 94, 95, 96, 97, 98, 99, 100, 101, 102, 103, 104, 105, 198, 199, 200, 201, 119, 120, 121, 113, 114, 115, 116, 117, 118, 122, 106, 107, 108, 109, 110, 111, 112, 123, 124, 125, 126, 127, 128, 202, 203, 204, 205, 206, 207, 208, 209, 210, 211, 212, 213, 214, 215, 216, 217, 218, 219, 220, 221, 222, 223, 224, 225, 226, 227, 228, 229, 230, 231, 232, 233, 234, 235, 236, 237, 238, 239, 240, 241, 242, 243, 244, 245, 246, 247, 248, 249, 250, 251, 252, 253, 254, 255, 256, 257, 258, 259, 260, 261, 262, 263, 264, 265, 266, 267, 149, 150, 268, 269, 270, 271, 272, 273, 274, 275, 276, 277, 278, 279, 280, 281, 282, 283, 284, 285, 286, 287, 288, 289, 290, 291, 292, 293, 294, 295, 296, 297, 298, 299, 300, 301, 302, 303, 304, 305, 306, 307, 308, 309, 310, 311, 312, 313, 314, 315, 316, 317, 318, 330, 331, 332, 333, 334, 335, 336, 337, 338, 339, 340, 341, 342, 343, 344, 345, 346, 347, 348, 349, 350, 351, 352, 353, 354, 355, 356] (by decide +kernel) (by decide +kernel)
set_option maxRecDepth 20000 in
theorem gL_isPassed_L_isFit : GoodIn wsL_isPassed (va_wsS RL 158 yL_isFit wsL_isFit) := goodIn_app (goodIn_of _ (by decide +kernel)) ggL_isPassed_L_isFit
set_option maxRecDepth 20000 in
theorem ggL_isPassed_X4_undo : GoodIn wsL_isPassed wsX4_undo := goodIn_r _ [322, 14, 12, 63, 64, 65, 66, 67, 68, 323, 324, 325, 326, 172, 327, 328, 176, 329, 173, 178, 135, 136, 18, 137, 47, 24, 91, 118, 56, 76, 138, 10, 139, 330, 331, 332, 333, 334, 335, 336, 337, 338, 339, 352, 353, 354, 340, 341, 342, 343, 344, 345] (by decide +kernel) (by decide +kernel)
set_option maxRecDepth 20000 in
theorem gL_isPassed_X4_undo : GoodIn wsL_isPassed (wsV RL 68 RX4 yX4_undo wsX4_undo) := goodIn_app (goodIn_of _ (by decide +kernel)) ggL_isPassed_X4_undo
theorem dL_isPassed_0 : decode cL_isPassed 0 = .ok (.aload_n 0, 1) := by decide +kernel
theorem dL_isPassed_1 : decode cL_isPassed 1 = .ok (.invokestatic 151, 3) := by decide +kernel
theorem dL_isPassed_4 : decode cL_isPassed 4 = .ok (.lstore_n 1, 1) := by decide +kernel
theorem dL_isPassed_5 : decode cL_isPassed 5 = .ok (.iconst 0, 1) := by decide +kernel
theorem dL_isPassed_6 : decode cL_isPassed 6 = .ok (.istore_n 3, 1) := by decide +kernel
theorem dL_isPassed_7 : decode cL_isPassed 7 = .ok (.iconst 0, 1) := by decide +kernel
theorem dL_isPassed_8 : decode cL_isPassed 8 = .ok (.istore 4, 2) := by decide +kernel
theorem dL_isPassed_10 : decode cL_isPassed 10 = .ok (.iload 4, 2) := by decide +kernel
theorem dL_isPassed_12 : decode cL_isPassed 12 = .ok (.bipush 32, 2) := by decide +kernel
theorem dL_isPassed_14 : decode cL_isPassed 14 = .ok (.if_icmp .ge 19, 3) := by decide +kernel
theorem dL_isPassed_17 : decode cL_isPassed 17 = .ok (.iload_n 3, 1) := by decide +kernel
theorem dL_isPassed_18 : decode cL_isPassed 18 = .ok (.aload_n 0, 1) := by decide +kernel
theorem dL_isPassed_19 : decode cL_isPassed 19 = .ok (.iload 4, 2) := by decide +kernel
theorem dL_isPassed_21 : decode cL_isPassed 21 = .ok (.iconst 3, 1) := by decide +kernel
theorem dL_isPassed_22 : decode cL_isPassed 22 = .ok (.invokevirtual 78, 3) := by decide +kernel
theorem dL_isPassed_25 : decode cL_isPassed 25 = .ok (.iadd, 1) := by decide +kernel
theorem dL_isPassed_26 : decode cL_isPassed 26 = .ok (.istore_n 3, 1) := by decide +kernel
theorem dL_isPassed_27 : decode cL_isPassed 27 = .ok (.iinc 4 1, 3) := by decide +kernel
theorem dL_isPassed_30 : decode cL_isPassed 30 = .ok (.goto (-20), 3) := by decide +kernel
theorem dL_isPassed_33 : decode cL_isPassed 33 = .ok (.aload_n 0, 1) := by decide +kernel
theorem dL_isPassed_34 : decode cL_isPassed 34 = .ok (.iconst 1, 1) := by decide +kernel
theorem dL_isPassed_35 : decode cL_isPassed 35 = .ok (.invokevirtual 41, 3) := by decide +kernel
theorem dL_isPassed_38 : decode cL_isPassed 38 = .ok (.iload_n 3, 1) := by decide +kernel
theorem dL_isPassed_39 : decode cL_isPassed 39 = .ok (.if_icmp .ne 14, 3) := by decide +kernel
theorem dL_isPassed_42 : decode cL_isPassed 42 = .ok (.aload_n 0, 1) := by decide +kernel
theorem dL_isPassed_43 : decode cL_isPassed 43 = .ok (.invokestatic 158, 3) := by decide +kernel
theorem dL_isPassed_46 : decode cL_isPassed 46 = .ok (.ifCond .eq 7, 3) := by decide +kernel
theorem dL_isPassed_49 : decode cL_isPassed 49 = .ok (.iconst 1, 1) := by decide +kernel
theorem dL_isPassed_50 : decode cL_isPassed 50 = .ok (.goto 4, 3) := by decide +kernel
theorem dL_isPassed_53 : decode cL_isPassed 53 = .ok (.iconst 0, 1) := by decide +kernel
theorem dL_isPassed_54 : decode cL_isPassed 54 = .ok (.istore 4, 2) := by decide +kernel
theorem dL_isPassed_56 : decode cL_isPassed 56 = .ok (.iload 4, 2) := by decide +kernel
theorem dL_isPassed_58 : decode cL_isPassed 58 = .ok (.ifCond .eq 23, 3) := by decide +kernel
theorem dL_isPassed_61 : decode cL_isPassed 61 = .ok (.aload_n 0, 1) := by decide +kernel
theorem dL_isPassed_62 : decode cL_isPassed 62 = .ok (.invokevirtual 68, 3) := by decide +kernel
theorem dL_isPassed_65 : decode cL_isPassed 65 = .ok (.ifCond .lt 16, 3) := by decide +kernel
theorem dL_isPassed_68 : decode cL_isPassed 68 = .ok (.aload_n 0, 1) := by decide +kernel
theorem dL_isPassed_69 : decode cL_isPassed 69 = .ok (.invokestatic 151, 3) := by decide +kernel
theorem dL_isPassed_72 : decode cL_isPassed 72 = .ok (.lload_n 1, 1) := by decide +kernel
theorem dL_isPassed_73 : decode cL_isPassed 73 = .ok (.lcmp, 1) := by decide +kernel
theorem dL_isPassed_74 : decode cL_isPassed 74 = .ok (.ifCond .ne 7, 3) := by decide +kernel
theorem dL_isPassed_77 : decode cL_isPassed 77 = .ok (.iconst 1, 1) := by decide +kernel
theorem dL_isPassed_78 : decode cL_isPassed 78 = .ok (.goto 4, 3) := by decide +kernel
theorem dL_isPassed_81 : decode cL_isPassed 81 = .ok (.iconst 0, 1) := by decide +kernel
theorem dL_isPassed_82 : decode cL_isPassed 82 = .ok (.ireturn, 1) := by decide +kernel
set_option maxRecDepth 20000 in
theorem ggL_law_X4_init : GoodIn wsL_law wsX4_init := goodIn_r _ [6, 7, 8, 9, 10, 11, 12, 13, 14, 15, 16, 17, 18, 19, 20, 21, 22, 23, 24, 25, 26, 27, 28, 29, 30, 31, 32, 33, 34, 35, 36, 37, 38, 39, 40, 41, 42, 43, 44, 45, 46, 47, 48, 49, 50, 51, 52, 53, 54, 55, 56, 57, 58, 59, 60, 61, 62, 63, 64, 65, 642, 643, 644, 645, 646, 647, 632, 633, 634, 635, 636, 637, 638, 639, 640, 641, 648, 649, 650, 651, 652, 653, 654, 655, 656, 657, 658] (by decide +kernel) (by decide +kernel)
set_option maxRecDepth 20000 in
theorem gL_law_X4_init : GoodIn wsL_law (wsX4_init) := ggL_law_X4_init
set_option maxRecDepth 20000 in
theorem ggL_law_X4_store : GoodIn wsL_law wsX4_store := goodIn_r _ [69, 14, 13, 70, 71, 72, 12, 73, 37, 38, 39, 40, 41, 42, 74, 2, 75, 76, 77, 78, 79, 80, 81, 82, 83, 84, 85, 86, 87, 88, 89, 90, 91, 92, 93, 94, 95, 96, 97, 98, 99, 100, 101, 102, 103, 104, 105, 106, 107, 108, 109, 110, 111, 112, 113, 114, 29, 30, 115, 116, 117, 118, 119, 120, 121, 122, 123, 124, 125, 126, 127, 128, 129, 130, 131, 132, 133, 134, 135, 136, 137, 138, 139, 140, 141, 142, 143, 144, 145, 146, 147, 148, 149, 150, 151, 152, 153, 154, 20, 155, 156, 157, 19, 158, 49, 48, 50, 159, 160, 161, 162, 163, 632, 633, 634, 635, 636, 637, 638, 639, 640, 641, 642, 643, 644, 645, 646, 647, 648, 649, 650] (by decide +kernel) (by decide +kernel)
set_option maxRecDepth 20000 in
theorem gL_law_X4_store : GoodIn wsL_law (wsV RL 24 RX4 yX4_store wsX4_store) := goodIn_app (goodIn_of _ (by decide +kernel)) ggL_law_X4_store
set_option maxRecDepth 20000 in
theorem ggL_law_L_digest : GoodIn wsL_law wsL_digest := goodIn_r _ [167, 168, 169, 170, 171, 172, 2, 173, 13, 24, 20, 174, 175, 176, 12, 177, 178, 94, 95, 96, 38, 97, 98, 179, 180, 181, 182, 183, 184, 185, 186, 187, 104, 105, 106, 188, 189, 190, 191, 192, 100, 101, 102, 37, 193, 194, 195, 196, 139, 140, 141, 142, 41, 197, 198, 199, 23, 200, 56, 201, 202, 203, 19, 204, 50, 83, 84, 85, 205, 206, 207, 208, 42, 209, 210, 211, 212, 80, 81, 82, 93, 99, 103, 121, 122, 123, 124, 39, 213, 214, 215, 216, 217, 218, 219, 220, 133, 134, 221, 222, 223, 224, 225, 226, 227, 228, 229, 230, 231, 149, 232, 144, 145, 146, 40, 233, 147, 148, 234, 235, 236, 237, 238, 239, 240, 632, 633, 634, 635, 636, 637, 638, 639, 640, 641, 642, 643, 644, 645, 646, 647, 651, 652, 653, 654, 655, 656, 648, 649, 650] (by decide +kernel) (by decide +kernel)
set_option maxRecDepth 20000 in
theorem gL_law_L_digest : GoodIn wsL_law (va_wsS RL 151 yL_digest wsL_digest) := goodIn_app (goodIn_of _ (by decide +kernel)) ggL_law_L_digest
set_option maxRecDepth 20000 in
theorem ggL_law_L_cell : GoodIn wsL_law wsL_cell := goodIn_r _ [243, 244] (by decide +kernel) (by decide +kernel)
set_option maxRecDepth 20000 in
theorem gL_law_L_cell : GoodIn wsL_law (va_wsS RL 169 yL_cell wsL_cell) := goodIn_app (goodIn_of _ (by decide +kernel)) ggL_law_L_cell
set_option maxRecDepth 20000 in
theorem ggL_law_L_act : GoodIn wsL_law wsL_act := goodIn_r _ [247, 244, 3, 248, 249, 161, 250, 66, 67, 68, 2, 69, 14, 13, 70, 71, 72, 12, 73, 37, 38, 39, 40, 41, 42, 74, 75, 76, 77, 78, 79, 80, 81, 82, 83, 84, 85, 86, 87, 88, 89, 90, 91, 92, 93, 94, 95, 96, 97, 98, 99, 100, 101, 102, 103, 104, 105, 106, 107, 108, 109, 110, 111, 112, 113, 114, 29, 30, 115, 116, 117, 118, 119, 120, 121, 122, 123, 124, 125, 126, 127, 128, 129, 130, 131, 132, 133, 134, 135, 136, 137, 138, 139, 140, 141, 142, 143, 144, 145, 146, 147, 148, 149, 150, 151, 152, 153, 154, 20, 155, 156, 157, 19, 158, 49, 48, 50, 159, 160, 162, 163, 251, 252, 253, 254, 255, 256, 257, 258, 259, 260, 261, 262, 263, 264, 265, 266, 267, 268, 269, 270, 178, 271, 272, 273, 274, 275, 276, 277, 278, 279, 280, 281, 282, 283, 284, 285, 286, 287, 288, 188, 189, 190, 191, 192, 187, 289, 290, 291, 292, 293, 294, 295, 296, 297, 298, 299, 300, 301, 302, 303, 304, 229, 230, 231, 234, 232, 233, 205, 206, 207, 208, 305, 306, 307, 308, 309, 310, 311, 312, 313, 314, 315, 316, 317, 318, 319, 320, 321, 214, 215, 216, 322, 323, 324, 166, 325, 326, 327, 328, 329, 330, 331, 332, 333, 334, 335, 336, 337, 338, 339, 340, 341, 342, 343, 344, 345, 346, 347, 348, 349, 350, 351, 352, 353, 354, 355, 356, 357, 358, 359, 360, 361, 362, 363, 364, 365, 366, 367, 368, 369, 370, 371, 372, 373, 374, 375, 376, 377, 378, 24, 379, 380, 381, 23, 382, 56, 55, 383, 384, 385, 386, 387, 388, 389, 390, 60, 58, 391, 392, 393, 394, 59, 395, 396, 397, 398, 399, 400, 401, 402, 403, 404, 405, 406, 407, 408, 409, 410, 57, 411, 412, 413, 414, 415, 416, 417, 418, 419, 420, 421, 422, 423, 424, 425, 426, 427, 428, 429, 430, 431, 432, 433, 434, 435, 436, 437, 438, 439, 440, 441, 442, 443, 444, 445, 446, 447, 448, 449, 450, 451, 452, 453, 454, 455, 15, 16, 179, 180, 181, 182, 183, 184, 185, 186, 456, 457, 458, 459, 460, 461, 462, 463, 464, 465, 466, 467, 201, 202, 203, 204, 468, 469, 470, 471, 472, 632, 633, 634, 635, 636, 637, 638, 639, 640, 641, 642, 643, 644, 645, 646, 647, 648, 649, 650, 651, 652, 653, 654, 655, 656] (by decide +kernel) (by decide +kernel)
set_option maxRecDepth 20000 in
theorem gL_law_L_act : GoodIn wsL_law (va_wsS RL 173 yL_act wsL_act) := goodIn_app (goodIn_of _ (by decide +kernel)) ggL_law_L_act
set_option maxRecDepth 20000 in
theorem ggL_law_L_isFit : GoodIn wsL_law wsL_isFit := goodIn_r _ [475, 476, 477, 166, 478, 479, 170, 171, 172, 2, 173, 13, 24, 20, 174, 175, 176, 12, 177, 178, 94, 95, 96, 38, 97, 98, 179, 180, 181, 182, 183, 184, 185, 186, 187, 104, 105, 106, 188, 189, 190, 191, 192, 100, 101, 102, 37, 193, 194, 195, 196, 139, 140, 141, 142, 41, 197, 198, 199, 23, 200, 56, 201, 202, 203, 19, 204, 50, 83, 84, 85, 205, 206, 207, 208, 42, 480, 481, 482, 483, 93, 484, 485, 486, 487, 488, 489, 490, 491, 293, 122, 123, 124, 39, 209, 210, 211, 212, 80, 81, 82, 99, 103, 121, 213, 214, 215, 216, 217, 218, 219, 220, 133, 134, 221, 222, 223, 224, 492, 493, 494, 495, 233, 147, 148, 149, 232, 144, 145, 146, 40, 234, 225, 226, 227, 228, 229, 230, 231, 235, 236, 237, 238, 239, 240, 496, 497, 498, 499, 500, 501, 502, 503, 504, 505, 506, 507, 508, 509, 510, 511, 512, 513, 514, 515, 516, 517, 518, 519, 520, 521, 522, 523, 524, 525, 526, 527, 143, 528, 529, 530, 531, 532, 533, 534, 535, 536, 537, 538, 539, 540, 541, 542, 543, 544, 545, 546, 547, 548, 549, 32, 550, 551, 552, 553, 554, 555, 556, 557, 558, 559, 119, 120, 560, 561, 562, 563, 564, 565, 566, 567, 568, 569, 570, 571, 572, 573, 574, 575, 576, 577, 28, 578, 579, 580, 27, 581, 65, 582, 583, 584, 585, 586, 587, 588, 589, 64, 590, 591, 592, 593, 594, 595, 596, 597, 598, 599, 600, 601, 602, 603, 604, 605, 606, 632, 633, 634, 635, 636, 637, 638, 639, 640, 641, 642, 643, 644, 645, 646, 647, 651, 652, 653, 654, 655, 656, 648, 649, 650, 657, 658] (by decide +kernel) (by decide +kernel)
set_option maxRecDepth 20000 in
theorem gL_law_L_isFit : GoodIn wsL_law (va_wsS RL 158 yL_isFit wsL_isFit) := goodIn_app (goodIn_of _ (by decide +kernel)) ggL_law_L_isFit
set_option maxRecDepth 20000 in
theorem ggL_law_X4_run : GoodIn wsL_law wsX4_run := goodIn_r _ [386, 24, 14, 13, 387, 388, 389, 23, 390, 60, 58, 56, 391, 392, 393, 394, 59, 395, 396, 397, 398, 399, 400, 329, 401, 331, 402, 403, 404, 405, 55, 97, 2, 98, 406, 339, 340, 341, 342, 343, 344, 345, 336, 337, 346, 347, 348, 349, 350, 351, 352, 353, 354, 355, 356, 357, 358, 359, 360, 361, 362, 363, 364, 365, 366, 367, 368, 369, 370, 371, 372, 373, 374, 407, 408, 409, 410, 57, 119, 120, 411, 412, 413, 414, 415, 327, 328, 330, 332, 333, 334, 335, 416, 417, 418, 419, 84, 85, 420, 421, 422, 423, 424, 425, 426, 427, 428, 429, 430, 431, 432, 433, 434, 435, 70, 71, 72, 12, 73, 37, 38, 39, 40, 41, 42, 74, 75, 436, 437, 438, 439, 440, 441, 442, 443, 444, 445, 446, 447, 448, 449, 450, 451, 76, 77, 78, 79, 80, 81, 82, 83, 86, 87, 88, 89, 90, 91, 92, 93, 94, 95, 96, 99, 100, 101, 102, 103, 104, 105, 106, 107, 108, 109, 110, 111, 112, 113, 114, 29, 30, 115, 116, 117, 118, 121, 122, 123, 124, 125, 126, 127, 128, 129, 130, 131, 132, 133, 134, 135, 136, 137, 138, 139, 140, 141, 142, 143, 144, 145, 146, 147, 148, 149, 150, 255, 256, 257, 258, 259, 260, 261, 262, 263, 264, 265, 266, 267, 268, 269, 270, 178, 275, 276, 277, 278, 279, 249, 161, 250, 284, 285, 286, 287, 288, 160, 162, 188, 189, 190, 191, 192, 187, 289, 290, 291, 292, 293, 294, 295, 296, 301, 302, 303, 304, 229, 230, 231, 234, 232, 233, 205, 206, 207, 208, 305, 306, 307, 308, 313, 314, 315, 316, 317, 318, 319, 320, 321, 214, 215, 216, 322, 151, 152, 153, 154, 20, 155, 156, 157, 19, 158, 49, 48, 50, 159, 163, 632, 633, 634, 635, 636, 637, 638, 639, 640, 641, 651, 652, 653, 654, 655, 656, 642, 643, 644, 645, 646, 647, 648, 649, 650] (by decide +kernel) (by decide +kernel)
set_option maxRecDepth 20000 in
theorem gL_law_X4_run : GoodIn wsL_law (wsV RL 54 RX4 yX4_run wsX4_run) := goodIn_app (goodIn_of _ (by decide +kernel)) ggL_law_X4_run
set_option maxRecDepth 20000 in
theorem ggL_law_X4_save : GoodIn wsL_law wsX4_save := goodIn_r _ [455, 15, 13, 16, 70, 71, 72, 12, 73, 37, 38, 39, 40, 41, 42, 74, 2, 75, 179, 180, 181, 182, 183, 184, 185, 186, 187, 104, 105, 106, 97, 98, 632, 633, 634, 635, 636, 637, 638, 639, 640, 641, 642, 643, 644, 645, 646, 647] (by decide +kernel) (by decide +kernel)
set_option maxRecDepth 20000 in
theorem gL_law_X4_save : GoodIn wsL_law (wsV RL 62 RX4 yX4_save wsX4_save) := goodIn_app (goodIn_of _ (by decide +kernel)) ggL_law_X4_save
set_option maxRecDepth 20000 in
theorem ggL_law_L_isBest : GoodIn wsL_law wsL_isBest := goodIn_r _ [609, 164, 165, 166, 167, 168, 169, 170, 171, 172, 2, 173, 13, 24, 20, 174, 175, 176, 12, 177, 178, 94, 95, 96, 38, 97, 98, 179, 180, 181, 182, 183, 184, 185, 186, 187, 104, 105, 106, 188, 189, 190, 191, 192, 100, 101, 102, 37, 193, 194, 195, 196, 139, 140, 141, 142, 41, 197, 198, 199, 23, 200, 56, 201, 202, 203, 19, 204, 50, 83, 84, 85, 205, 206, 207, 208, 42, 209, 210, 211, 212, 80, 81, 82, 93, 99, 103, 121, 122, 123, 124, 39, 213, 214, 215, 216, 217, 218, 219, 220, 133, 134, 221, 222, 223, 224, 225, 226, 227, 228, 229, 230, 231, 149, 232, 144, 145, 146, 40, 233, 147, 148, 234, 235, 236, 237, 238, 239, 240, 610, 611, 612, 613, 86, 87, 88, 89, 90, 91, 92, 614, 615, 616, 617, 143, 66, 67, 68, 69, 14, 70, 71, 72, 73, 74, 75, 76, 77, 78, 79, 107, 108, 109, 110, 111, 112, 113, 114, 29, 30, 115, 116, 117, 118, 119, 120, 125, 126, 127, 128, 129, 130, 131, 132, 135, 136, 137, 138, 150, 151, 152, 153, 154, 155, 156, 157, 158, 49, 48, 159, 160, 161, 162, 163, 473, 474, 475, 476, 477, 478, 479, 480, 481, 482, 483, 484, 485, 486, 487, 488, 489, 490, 491, 293, 492, 493, 494, 495, 496, 497, 498, 499, 500, 501, 502, 503, 504, 505, 506, 507, 508, 509, 510, 511, 512, 513, 514, 515, 516, 517, 518, 519, 520, 521, 522, 523, 524, 525, 526, 527, 528, 529, 530, 531, 532, 533, 534, 535, 536, 537, 538, 539, 540, 541, 542, 543, 544, 545, 546, 547, 548, 549, 32, 550, 551, 552, 553, 554, 555, 556, 557, 558, 559, 560, 561, 562, 563, 564, 565, 566, 567, 568, 569, 570, 571, 572, 573, 574, 575, 576, 577, 28, 578, 579, 580, 27, 581, 65, 582, 583, 584, 585, 586, 587, 588, 589, 64, 590, 591, 592, 593, 594, 595, 596, 597, 598, 599, 600, 601, 602, 603, 604, 605, 606, 464, 465, 466, 467, 468, 469, 470, 471, 472, 249, 250, 632, 633, 634, 635, 636, 637, 638, 639, 640, 641, 642, 643, 644, 645, 646, 647, 651, 652, 653, 654, 655, 656, 648, 649, 650, 657, 658] (by decide +kernel) (by decide +kernel)
set_option maxRecDepth 20000 in
theorem gL_law_L_isBest : GoodIn wsL_law (va_wsS RL 177 yL_isBest wsL_isBest) := goodIn_app (goodIn_of _ (by decide +kernel)) ggL_law_L_isBest
set_option maxRecDepth 20000 in
theorem ggL_law_L_isSold : GoodIn wsL_law wsL_isSold := goodIn_r _ [620, 164, 165, 166, 167, 168, 169, 170, 171, 172, 2, 173, 13, 24, 20, 174, 175, 176, 12, 177, 178, 94, 95, 96, 38, 97, 98, 179, 180, 181, 182, 183, 184, 185, 186, 187, 104, 105, 106, 188, 189, 190, 191, 192, 100, 101, 102, 37, 193, 194, 195, 196, 139, 140, 141, 142, 41, 197, 198, 199, 23, 200, 56, 201, 202, 203, 19, 204, 50, 83, 84, 85, 205, 206, 207, 208, 42, 209, 210, 211, 212, 80, 81, 82, 93, 99, 103, 121, 122, 123, 124, 39, 213, 214, 215, 216, 217, 218, 219, 220, 133, 134, 221, 222, 223, 224, 225, 226, 227, 228, 229, 230, 231, 149, 232, 144, 145, 146, 40, 233, 147, 148, 234, 235, 236, 237, 238, 239, 240, 280, 281, 282, 283, 14, 70, 71, 72, 73, 74, 75, 284, 285, 286, 287, 288, 160, 161, 162, 86, 87, 88, 111, 112, 113, 114, 29, 30, 289, 290, 291, 292, 293, 267, 268, 269, 270, 129, 130, 131, 132, 119, 120, 115, 116, 117, 118, 294, 295, 296, 151, 152, 153, 154, 155, 156, 157, 158, 49, 48, 159, 163, 621, 622, 623, 624, 625, 626, 627, 628, 473, 474, 475, 476, 477, 478, 479, 480, 481, 482, 483, 484, 485, 486, 487, 488, 489, 490, 491, 492, 493, 494, 495, 496, 497, 498, 499, 500, 501, 502, 503, 504, 505, 506, 507, 508, 509, 510, 511, 512, 513, 514, 515, 516, 517, 518, 519, 520, 521, 522, 523, 524, 525, 526, 527, 143, 528, 529, 530, 531, 532, 533, 534, 535, 536, 537, 538, 539, 540, 541, 542, 543, 544, 545, 546, 547, 548, 549, 32, 550, 551, 552, 553, 554, 555, 556, 557, 558, 559, 560, 561, 562, 563, 564, 565, 566, 567, 568, 569, 570, 571, 572, 573, 574, 575, 576, 577, 28, 578, 579, 580, 27, 581, 65, 582, 583, 584, 585, 586, 587, 588, 589, 64, 590, 591, 592, 593, 594, 595, 596, 597, 598, 599, 600, 601, 602, 603, 604, 605, 606, 464, 465, 466, 467, 468, 469, 470, 471, 472, 249, 250, 632, 633, 634, 635, 636, 637, 638, 639, 640, 641, 642, 643, 644, 645, 646, 647, 651, 652, 653, 654, 655, 656, 648, 649, 650, 657, 658] (by decide +kernel) (by decide +kernel)
set_option maxRecDepth 20000 in
theorem gL_law_L_isSold : GoodIn wsL_law (va_wsS RL 181 yL_isSold wsL_isSold) := goodIn_app (goodIn_of _ (by decide +kernel)) ggL_law_L_isSold
set_option maxRecDepth 20000 in
theorem ggL_law_L_isPassed : GoodIn wsL_law wsL_isPassed := goodIn_r _ [631, 164, 165, 166, 167, 168, 169, 170, 171, 172, 2, 173, 13, 24, 20, 174, 175, 176, 12, 177, 178, 94, 95, 96, 38, 97, 98, 179, 180, 181, 182, 183, 184, 185, 186, 187, 104, 105, 106, 188, 189, 190, 191, 192, 100, 101, 102, 37, 193, 194, 195, 196, 139, 140, 141, 142, 41, 197, 198, 199, 23, 200, 56, 201, 202, 203, 19, 204, 50, 83, 84, 85, 205, 206, 207, 208, 42, 209, 210, 211, 212, 80, 81, 82, 93, 99, 103, 121, 122, 123, 124, 39, 213, 214, 215, 216, 217, 218, 219, 220, 133, 134, 221, 222, 223, 224, 225, 226, 227, 228, 229, 230, 231, 149, 232, 144, 145, 146, 40, 233, 147, 148, 234, 235, 236, 237, 238, 239, 240, 309, 310, 311, 312, 14, 70, 71, 72, 73, 74, 75, 313, 314, 315, 316, 317, 318, 319, 320, 293, 119, 120, 321, 322, 268, 269, 270, 129, 130, 131, 132, 115, 116, 117, 118, 151, 152, 153, 154, 155, 156, 157, 158, 49, 48, 159, 160, 161, 162, 163, 473, 474, 475, 476, 477, 478, 479, 480, 481, 482, 483, 484, 485, 486, 487, 488, 489, 490, 491, 492, 493, 494, 495, 496, 497, 498, 499, 500, 501, 502, 503, 504, 505, 506, 507, 508, 509, 510, 511, 512, 513, 514, 515, 516, 517, 518, 519, 520, 521, 522, 523, 524, 525, 526, 527, 143, 528, 529, 530, 531, 532, 533, 534, 535, 536, 537, 538, 539, 540, 541, 542, 543, 544, 545, 546, 547, 548, 549, 32, 550, 551, 552, 553, 554, 555, 556, 557, 558, 559, 560, 561, 562, 563, 564, 565, 566, 567, 568, 569, 570, 571, 572, 573, 574, 575, 576, 577, 28, 578, 579, 580, 27, 581, 65, 582, 583, 584, 585, 586, 587, 588, 589, 64, 590, 591, 592, 593, 594, 595, 596, 597, 598, 599, 600, 601, 602, 603, 604, 605, 606, 464, 465, 466, 467, 468, 469, 470, 471, 472, 249, 250, 632, 633, 634, 635, 636, 637, 638, 639, 640, 641, 642, 643, 644, 645, 646, 647, 651, 652, 653, 654, 655, 656, 648, 649, 650, 657, 658] (by decide +kernel) (by decide +kernel)
set_option maxRecDepth 20000 in
theorem gL_law_L_isPassed : GoodIn wsL_law (va_wsS RL 184 yL_isPassed wsL_isPassed) := goodIn_app (goodIn_of _ (by decide +kernel)) ggL_law_L_isPassed
set_option maxRecDepth 20000 in
theorem ggL_law_L_write : GoodIn wsL_law wsL_write := goodIn_r _ [325, 326, 327, 328, 329, 330, 331, 332, 333, 334, 335, 336, 337, 338, 339, 340, 341, 342, 343, 344, 345, 346, 347, 348, 349, 350, 351, 352, 353, 354, 355, 356, 357, 358, 359, 360, 361, 362, 363, 364, 365, 366, 367, 368, 369, 370, 371, 372, 373, 374, 375, 376, 377, 2, 378, 24, 83, 84, 85, 379, 380, 381, 23, 382, 56, 55, 119, 120, 632, 633, 634, 635, 636, 637, 638, 639, 640, 641, 651, 652, 653, 654, 655, 656] (by decide +kernel) (by decide +kernel)
set_option maxRecDepth 20000 in
theorem gL_law_L_write : GoodIn wsL_law (va_wsS RL 50 yL_write wsL_write) := goodIn_app (goodIn_of _ (by decide +kernel)) ggL_law_L_write
set_option maxRecDepth 20000 in
theorem ggL_law_X4_reason : GoodIn wsL_law wsX4_reason := goodIn_r _ [624, 29, 30, 632, 633, 634, 635, 636, 637, 638, 639, 640, 641] (by decide +kernel) (by decide +kernel)
set_option maxRecDepth 20000 in
theorem gL_law_X4_reason : GoodIn wsL_law (wsV RL 161 RX4 yX4_reason wsX4_reason) := goodIn_app (goodIn_of _ (by decide +kernel)) ggL_law_X4_reason
set_option maxRecDepth 20000 in
theorem ggL_law_X4_undo : GoodIn wsL_law wsX4_undo := goodIn_r _ [467, 20, 13, 201, 202, 203, 19, 204, 50, 468, 469, 470, 471, 49, 472, 249, 161, 250, 48, 163, 71, 72, 12, 73, 37, 38, 39, 40, 41, 42, 74, 2, 75, 632, 633, 634, 635, 636, 637, 638, 639, 640, 641, 648, 649, 650, 642, 643, 644, 645, 646, 647] (by decide +kernel) (by decide +kernel)
set_option maxRecDepth 20000 in
theorem gL_law_X4_undo : GoodIn wsL_law (wsV RL 68 RX4 yX4_undo wsX4_undo) := goodIn_app (goodIn_of _ (by decide +kernel)) ggL_law_X4_undo
set_option maxRecDepth 20000 in
theorem ggL_law_X4_move : GoodIn wsL_law wsX4_move := goodIn_r _ [274, 14, 13, 70, 71, 72, 12, 73, 37, 38, 39, 40, 41, 42, 74, 2, 75, 275, 276, 277, 278, 279, 249, 161, 250, 80, 81, 82, 83, 84, 85, 111, 112, 113, 114, 29, 30, 259, 260, 261, 262, 103, 104, 105, 106, 97, 98, 263, 264, 265, 266, 93, 94, 95, 96, 99, 100, 101, 102, 89, 90, 91, 92, 107, 108, 109, 110, 121, 122, 123, 124, 267, 268, 269, 270, 129, 130, 131, 132, 119, 120, 133, 134, 178, 115, 116, 117, 118, 125, 126, 127, 128, 135, 136, 137, 138, 139, 140, 141, 142, 143, 144, 145, 146, 147, 148, 149, 150, 151, 152, 153, 154, 20, 155, 156, 157, 19, 158, 49, 48, 50, 159, 160, 162, 163, 632, 633, 634, 635, 636, 637, 638, 639, 640, 641, 642, 643, 644, 645, 646, 647, 648, 649, 650] (by decide +kernel) (by decide +kernel)
set_option maxRecDepth 20000 in
theorem gL_law_X4_move : GoodIn wsL_law (wsV RL 32 RX4 yX4_move wsX4_move) := goodIn_app (goodIn_of _ (by decide +kernel)) ggL_law_X4_move
set_option maxRecDepth 20000 in
theorem ggL_law_X4_pass : GoodIn wsL_law wsX4_pass := goodIn_r _ [312, 14, 13, 70, 71, 72, 12, 73, 37, 38, 39, 40, 41, 42, 74, 2, 75, 313, 314, 315, 316, 83, 84, 85, 317, 318, 319, 320, 178, 94, 95, 96, 97, 98, 293, 122, 123, 124, 119, 120, 321, 214, 215, 216, 192, 100, 101, 102, 187, 104, 105, 106, 322, 268, 269, 270, 129, 130, 131, 132, 133, 134, 115, 116, 117, 118, 151, 152, 153, 154, 20, 155, 156, 157, 19, 158, 49, 48, 50, 159, 160, 161, 162, 163, 632, 633, 634, 635, 636, 637, 638, 639, 640, 641, 642, 643, 644, 645, 646, 647, 648, 649, 650] (by decide +kernel) (by decide +kernel)
set_option maxRecDepth 20000 in
theorem gL_law_X4_pass : GoodIn wsL_law (wsV RL 41 RX4 yX4_pass wsX4_pass) := goodIn_app (goodIn_of _ (by decide +kernel)) ggL_law_X4_pass
set_option maxRecDepth 20000 in
theorem ggL_law_X4_fix : GoodIn wsL_law wsX4_fix := goodIn_r _ [300, 14, 13, 70, 71, 72, 12, 73, 37, 38, 39, 40, 41, 42, 74, 2, 75, 301, 302, 303, 304, 229, 230, 231, 83, 84, 85, 234, 140, 141, 142, 97, 98, 111, 112, 113, 114, 29, 30, 232, 144, 145, 146, 233, 147, 148, 149, 133, 134, 205, 206, 207, 208, 305, 306, 307, 308, 119, 120, 115, 116, 117, 118, 151, 152, 153, 154, 20, 155, 156, 157, 19, 158, 49, 48, 50, 159, 160, 161, 162, 163, 632, 633, 634, 635, 636, 637, 638, 639, 640, 641, 642, 643, 644, 645, 646, 647, 648, 649, 650] (by decide +kernel) (by decide +kernel)
set_option maxRecDepth 20000 in
theorem gL_law_X4_fix : GoodIn wsL_law (wsV RL 38 RX4 yX4_fix wsX4_fix) := goodIn_app (goodIn_of _ (by decide +kernel)) ggL_law_X4_fix
set_option maxRecDepth 20000 in
theorem ggL_law_X4_restore : GoodIn wsL_law wsX4_restore := goodIn_r _ [459, 16, 13, 15, 20, 70, 71, 72, 12, 73, 37, 38, 39, 40, 41, 42, 74, 2, 75, 460, 461, 462, 19, 463, 50, 179, 180, 181, 182, 183, 184, 185, 186, 187, 104, 105, 106, 97, 98, 632, 633, 634, 635, 636, 637, 638, 639, 640, 641, 642, 643, 644, 645, 646, 647, 648, 649, 650] (by decide +kernel) (by decide +kernel)
set_option maxRecDepth 20000 in
theorem gL_law_X4_restore : GoodIn wsL_law (wsV RL 65 RX4 yX4_restore wsX4_restore) := goodIn_app (goodIn_of _ (by decide +kernel)) ggL_law_X4_restore
theorem dL_law_0 : decode cL_law 0 = .ok (.new 19, 3) := by decide +kernel
theorem dL_law_3 : decode cL_law 3 = .ok (.dup, 1) := by decide +kernel
theorem dL_law_4 : decode cL_law 4 = .ok (.invokespecial 168, 3) := by decide +kernel
theorem dL_law_7 : decode cL_law 7 = .ok (.astore_n 1, 1) := by decide +kernel
theorem dL_law_8 : decode cL_law 8 = .ok (.aload_n 1, 1) := by decide +kernel
theorem dL_law_9 : decode cL_law 9 = .ok (.iconst 0, 1) := by decide +kernel
theorem dL_law_10 : decode cL_law 10 = .ok (.iconst 0, 1) := by decide +kernel
theorem dL_law_11 : decode cL_law 11 = .ok (.bipush 90, 2) := by decide +kernel
theorem dL_law_13 : decode cL_law 13 = .ok (.invokevirtual 24, 3) := by decide +kernel
theorem dL_law_16 : decode cL_law 16 = .ok (.pop, 1) := by decide +kernel
theorem dL_law_17 : decode cL_law 17 = .ok (.aload_n 1, 1) := by decide +kernel
theorem dL_law_18 : decode cL_law 18 = .ok (.iconst 1, 1) := by decide +kernel
theorem dL_law_19 : decode cL_law 19 = .ok (.iconst 1, 1) := by decide +kernel
theorem dL_law_20 : decode cL_law 20 = .ok (.sipush 150, 3) := by decide +kernel
theorem dL_law_23 : decode cL_law 23 = .ok (.invokevirtual 24, 3) := by decide +kernel
theorem dL_law_26 : decode cL_law 26 = .ok (.pop, 1) := by decide +kernel
theorem dL_law_27 : decode cL_law 27 = .ok (.aload_n 1, 1) := by decide +kernel
theorem dL_law_28 : decode cL_law 28 = .ok (.iconst 5, 1) := by decide +kernel
theorem dL_law_29 : decode cL_law 29 = .ok (.iconst 2, 1) := by decide +kernel
theorem dL_law_30 : decode cL_law 30 = .ok (.bipush 40, 2) := by decide +kernel
theorem dL_law_32 : decode cL_law 32 = .ok (.invokevirtual 24, 3) := by decide +kernel
theorem dL_law_35 : decode cL_law 35 = .ok (.pop, 1) := by decide +kernel
theorem dL_law_36 : decode cL_law 36 = .ok (.aload_n 0, 1) := by decide +kernel
theorem dL_law_37 : decode cL_law 37 = .ok (.arraylength, 1) := by decide +kernel
theorem dL_law_38 : decode cL_law 38 = .ok (.bipush 44, 2) := by decide +kernel
theorem dL_law_40 : decode cL_law 40 = .ok (.if_icmp .ge 8, 3) := by decide +kernel
theorem dL_law_43 : decode cL_law 43 = .ok (.aload_n 0, 1) := by decide +kernel
theorem dL_law_44 : decode cL_law 44 = .ok (.arraylength, 1) := by decide +kernel
theorem dL_law_45 : decode cL_law 45 = .ok (.goto 5, 3) := by decide +kernel
theorem dL_law_48 : decode cL_law 48 = .ok (.bipush 44, 2) := by decide +kernel
theorem dL_law_50 : decode cL_law 50 = .ok (.istore_n 2, 1) := by decide +kernel
theorem dL_law_51 : decode cL_law 51 = .ok (.iconst 0, 1) := by decide +kernel
theorem dL_law_52 : decode cL_law 52 = .ok (.istore_n 3, 1) := by decide +kernel
theorem dL_law_53 : decode cL_law 53 = .ok (.iload_n 3, 1) := by decide +kernel
theorem dL_law_54 : decode cL_law 54 = .ok (.iload_n 2, 1) := by decide +kernel
theorem dL_law_55 : decode cL_law 55 = .ok (.if_icmp .ge 39, 3) := by decide +kernel
theorem dL_law_58 : decode cL_law 58 = .ok (.aload_n 1, 1) := by decide +kernel
theorem dL_law_59 : decode cL_law 59 = .ok (.invokestatic 151, 3) := by decide +kernel
theorem dL_law_62 : decode cL_law 62 = .ok (.lstore 4, 2) := by decide +kernel
theorem dL_law_64 : decode cL_law 64 = .ok (.aload_n 1, 1) := by decide +kernel
theorem dL_law_65 : decode cL_law 65 = .ok (.aload_n 0, 1) := by decide +kernel
theorem dL_law_66 : decode cL_law 66 = .ok (.iload_n 3, 1) := by decide +kernel
theorem dL_law_67 : decode cL_law 67 = .ok (.invokestatic 169, 3) := by decide +kernel
theorem dL_law_70 : decode cL_law 70 = .ok (.invokestatic 173, 3) := by decide +kernel
theorem dL_law_73 : decode cL_law 73 = .ok (.ifCond .ge 15, 3) := by decide +kernel
theorem dL_law_76 : decode cL_law 76 = .ok (.aload_n 1, 1) := by decide +kernel
theorem dL_law_77 : decode cL_law 77 = .ok (.invokestatic 151, 3) := by decide +kernel
theorem dL_law_80 : decode cL_law 80 = .ok (.lload 4, 2) := by decide +kernel
theorem dL_law_82 : decode cL_law 82 = .ok (.lcmp, 1) := by decide +kernel
theorem dL_law_83 : decode cL_law 83 = .ok (.ifCond .eq 5, 3) := by decide +kernel
theorem dL_law_86 : decode cL_law 86 = .ok (.iconst 0, 1) := by decide +kernel
theorem dL_law_87 : decode cL_law 87 = .ok (.ireturn, 1) := by decide +kernel
theorem dL_law_88 : decode cL_law 88 = .ok (.iinc 3 1, 3) := by decide +kernel
theorem dL_law_91 : decode cL_law 91 = .ok (.goto (-38), 3) := by decide +kernel
theorem dL_law_94 : decode cL_law 94 = .ok (.aload_n 1, 1) := by decide +kernel
theorem dL_law_95 : decode cL_law 95 = .ok (.invokestatic 158, 3) := by decide +kernel
theorem dL_law_98 : decode cL_law 98 = .ok (.istore_n 3, 1) := by decide +kernel
theorem dL_law_99 : decode cL_law 99 = .ok (.aload_n 1, 1) := by decide +kernel
theorem dL_law_100 : decode cL_law 100 = .ok (.invokevirtual 54, 3) := by decide +kernel
theorem dL_law_103 : decode cL_law 103 = .ok (.pop, 1) := by decide +kernel
theorem dL_law_104 : decode cL_law 104 = .ok (.aload_n 1, 1) := by decide +kernel
theorem dL_law_105 : decode cL_law 105 = .ok (.invokestatic 151, 3) := by decide +kernel
theorem dL_law_108 : decode cL_law 108 = .ok (.lstore 4, 2) := by decide +kernel
theorem dL_law_110 : decode cL_law 110 = .ok (.aload_n 1, 1) := by decide +kernel
theorem dL_law_111 : decode cL_law 111 = .ok (.invokevirtual 62, 3) := by decide +kernel
theorem dL_law_114 : decode cL_law 114 = .ok (.istore 6, 2) := by decide +kernel
theorem dL_law_116 : decode cL_law 116 = .ok (.iconst 0, 1) := by decide +kernel
theorem dL_law_117 : decode cL_law 117 = .ok (.istore 7, 2) := by decide +kernel
theorem dL_law_119 : decode cL_law 119 = .ok (.iload_n 3, 1) := by decide +kernel
theorem dL_law_120 : decode cL_law 120 = .ok (.ifCond .eq 60, 3) := by decide +kernel
theorem dL_law_123 : decode cL_law 123 = .ok (.iload 7, 2) := by decide +kernel
theorem dL_law_125 : decode cL_law 125 = .ok (.iconst 4, 1) := by decide +kernel
theorem dL_law_126 : decode cL_law 126 = .ok (.if_icmp .ge 54, 3) := by decide +kernel
theorem dL_law_129 : decode cL_law 129 = .ok (.aload_n 1, 1) := by decide +kernel
theorem dL_law_130 : decode cL_law 130 = .ok (.iload 7, 2) := by decide +kernel
theorem dL_law_132 : decode cL_law 132 = .ok (.iconst 1, 1) := by decide +kernel
theorem dL_law_133 : decode cL_law 133 = .ok (.bipush 60, 2) := by decide +kernel
theorem dL_law_135 : decode cL_law 135 = .ok (.iload 7, 2) := by decide +kernel
theorem dL_law_137 : decode cL_law 137 = .ok (.imul, 1) := by decide +kernel
theorem dL_law_138 : decode cL_law 138 = .ok (.iadd, 1) := by decide +kernel
theorem dL_law_139 : decode cL_law 139 = .ok (.invokestatic 177, 3) := by decide +kernel
theorem dL_law_142 : decode cL_law 142 = .ok (.ifCond .eq 30, 3) := by decide +kernel
theorem dL_law_145 : decode cL_law 145 = .ok (.aload_n 1, 1) := by decide +kernel
theorem dL_law_146 : decode cL_law 146 = .ok (.iload 7, 2) := by decide +kernel
theorem dL_law_148 : decode cL_law 148 = .ok (.bipush 20, 2) := by decide +kernel
theorem dL_law_150 : decode cL_law 150 = .ok (.iload 7, 2) := by decide +kernel
theorem dL_law_152 : decode cL_law 152 = .ok (.imul, 1) := by decide +kernel
theorem dL_law_153 : decode cL_law 153 = .ok (.iconst 1, 1) := by decide +kernel
theorem dL_law_154 : decode cL_law 154 = .ok (.iadd, 1) := by decide +kernel
theorem dL_law_155 : decode cL_law 155 = .ok (.invokestatic 181, 3) := by decide +kernel
theorem dL_law_158 : decode cL_law 158 = .ok (.ifCond .eq 14, 3) := by decide +kernel
theorem dL_law_161 : decode cL_law 161 = .ok (.aload_n 1, 1) := by decide +kernel
theorem dL_law_162 : decode cL_law 162 = .ok (.invokestatic 184, 3) := by decide +kernel
theorem dL_law_165 : decode cL_law 165 = .ok (.ifCond .eq 7, 3) := by decide +kernel
theorem dL_law_168 : decode cL_law 168 = .ok (.iconst 1, 1) := by decide +kernel
theorem dL_law_169 : decode cL_law 169 = .ok (.goto 4, 3) := by decide +kernel
theorem dL_law_172 : decode cL_law 172 = .ok (.iconst 0, 1) := by decide +kernel
theorem dL_law_173 : decode cL_law 173 = .ok (.istore_n 3, 1) := by decide +kernel
theorem dL_law_174 : decode cL_law 174 = .ok (.iinc 7 1, 3) := by decide +kernel
theorem dL_law_177 : decode cL_law 177 = .ok (.goto (-58), 3) := by decide +kernel
theorem dL_law_180 : decode cL_law 180 = .ok (.iconst 0, 1) := by decide +kernel
theorem dL_law_181 : decode cL_law 181 = .ok (.istore 7, 2) := by decide +kernel
theorem dL_law_183 : decode cL_law 183 = .ok (.iload_n 3, 1) := by decide +kernel
theorem dL_law_184 : decode cL_law 184 = .ok (.ifCond .eq 88, 3) := by decide +kernel
theorem dL_law_187 : decode cL_law 187 = .ok (.iload 7, 2) := by decide +kernel
theorem dL_law_189 : decode cL_law 189 = .ok (.getstatic 44, 3) := by decide +kernel
theorem dL_law_192 : decode cL_law 192 = .ok (.arraylength, 1) := by decide +kernel
theorem dL_law_193 : decode cL_law 193 = .ok (.if_icmp .ge 79, 3) := by decide +kernel
theorem dL_law_196 : decode cL_law 196 = .ok (.aload_n 1, 1) := by decide +kernel
theorem dL_law_197 : decode cL_law 197 = .ok (.getstatic 44, 3) := by decide +kernel
theorem dL_law_200 : decode cL_law 200 = .ok (.iload 7, 2) := by decide +kernel
theorem dL_law_202 : decode cL_law 202 = .ok (.aaload, 1) := by decide +kernel
theorem dL_law_203 : decode cL_law 203 = .ok (.invokestatic 50, 3) := by decide +kernel
theorem dL_law_206 : decode cL_law 206 = .ok (.invokevirtual 54, 3) := by decide +kernel
theorem dL_law_209 : decode cL_law 209 = .ok (.istore 8, 2) := by decide +kernel
theorem dL_law_211 : decode cL_law 211 = .ok (.iload 8, 2) := by decide +kernel
theorem dL_law_213 : decode cL_law 213 = .ok (.ifCond .ge 23, 3) := by decide +kernel
theorem dL_law_216 : decode cL_law 216 = .ok (.iload 8, 2) := by decide +kernel
theorem dL_law_218 : decode cL_law 218 = .ok (.bipush (-14), 2) := by decide +kernel
theorem dL_law_220 : decode cL_law 220 = .ok (.if_icmp .ne 44, 3) := by decide +kernel
theorem dL_law_223 : decode cL_law 223 = .ok (.aload_n 1, 1) := by decide +kernel
theorem dL_law_224 : decode cL_law 224 = .ok (.iconst 0, 1) := by decide +kernel
theorem dL_law_225 : decode cL_law 225 = .ok (.invokevirtual 161, 3) := by decide +kernel
theorem dL_law_228 : decode cL_law 228 = .ok (.bipush 9, 2) := by decide +kernel
theorem dL_law_230 : decode cL_law 230 = .ok (.if_icmp .ne 34, 3) := by decide +kernel
theorem dL_law_233 : decode cL_law 233 = .ok (.goto 17, 3) := by decide +kernel
theorem dL_law_236 : decode cL_law 236 = .ok (.aload_n 1, 1) := by decide +kernel
theorem dL_law_237 : decode cL_law 237 = .ok (.invokestatic 158, 3) := by decide +kernel
theorem dL_law_240 : decode cL_law 240 = .ok (.ifCond .eq 24, 3) := by decide +kernel
theorem dL_law_243 : decode cL_law 243 = .ok (.aload_n 1, 1) := by decide +kernel
theorem dL_law_244 : decode cL_law 244 = .ok (.invokevirtual 68, 3) := by decide +kernel
theorem dL_law_247 : decode cL_law 247 = .ok (.ifCond .lt 17, 3) := by decide +kernel
theorem dL_law_250 : decode cL_law 250 = .ok (.aload_n 1, 1) := by decide +kernel
theorem dL_law_251 : decode cL_law 251 = .ok (.invokestatic 151, 3) := by decide +kernel
theorem dL_law_254 : decode cL_law 254 = .ok (.lload 4, 2) := by decide +kernel
theorem dL_law_256 : decode cL_law 256 = .ok (.lcmp, 1) := by decide +kernel
theorem dL_law_257 : decode cL_law 257 = .ok (.ifCond .ne 7, 3) := by decide +kernel
theorem dL_law_260 : decode cL_law 260 = .ok (.iconst 1, 1) := by decide +kernel
theorem dL_law_261 : decode cL_law 261 = .ok (.goto 4, 3) := by decide +kernel
theorem dL_law_264 : decode cL_law 264 = .ok (.iconst 0, 1) := by decide +kernel
theorem dL_law_265 : decode cL_law 265 = .ok (.istore_n 3, 1) := by decide +kernel
theorem dL_law_266 : decode cL_law 266 = .ok (.iinc 7 1, 3) := by decide +kernel
theorem dL_law_269 : decode cL_law 269 = .ok (.goto (-86), 3) := by decide +kernel
theorem dL_law_272 : decode cL_law 272 = .ok (.iconst 0, 1) := by decide +kernel
theorem dL_law_273 : decode cL_law 273 = .ok (.istore 7, 2) := by decide +kernel
theorem dL_law_275 : decode cL_law 275 = .ok (.iload_n 3, 1) := by decide +kernel
theorem dL_law_276 : decode cL_law 276 = .ok (.ifCond .eq 93, 3) := by decide +kernel
theorem dL_law_279 : decode cL_law 279 = .ok (.iload 7, 2) := by decide +kernel
theorem dL_law_281 : decode cL_law 281 = .ok (.bipush 8, 2) := by decide +kernel
theorem dL_law_283 : decode cL_law 283 = .ok (.if_icmp .ge 86, 3) := by decide +kernel
theorem dL_law_286 : decode cL_law 286 = .ok (.aload_n 1, 1) := by decide +kernel
theorem dL_law_287 : decode cL_law 287 = .ok (.iconst 4, 1) := by decide +kernel
theorem dL_law_288 : decode cL_law 288 = .ok (.iload 7, 2) := by decide +kernel
theorem dL_law_290 : decode cL_law 290 = .ok (.imul, 1) := by decide +kernel
theorem dL_law_291 : decode cL_law 291 = .ok (.bipush 32, 2) := by decide +kernel
theorem dL_law_293 : decode cL_law 293 = .ok (.irem, 1) := by decide +kernel
theorem dL_law_294 : decode cL_law 294 = .ok (.iload 7, 2) := by decide +kernel
theorem dL_law_296 : decode cL_law 296 = .ok (.iconst 4, 1) := by decide +kernel
theorem dL_law_297 : decode cL_law 297 = .ok (.irem, 1) := by decide +kernel
theorem dL_law_298 : decode cL_law 298 = .ok (.bipush 100, 2) := by decide +kernel
theorem dL_law_300 : decode cL_law 300 = .ok (.bipush 12, 2) := by decide +kernel
theorem dL_law_302 : decode cL_law 302 = .ok (.iload 7, 2) := by decide +kernel
theorem dL_law_304 : decode cL_law 304 = .ok (.imul, 1) := by decide +kernel
theorem dL_law_305 : decode cL_law 305 = .ok (.iadd, 1) := by decide +kernel
theorem dL_law_306 : decode cL_law 306 = .ok (.invokevirtual 24, 3) := by decide +kernel
theorem dL_law_309 : decode cL_law 309 = .ok (.pop, 1) := by decide +kernel
theorem dL_law_310 : decode cL_law 310 = .ok (.aload_n 1, 1) := by decide +kernel
theorem dL_law_311 : decode cL_law 311 = .ok (.iconst 4, 1) := by decide +kernel
theorem dL_law_312 : decode cL_law 312 = .ok (.iload 7, 2) := by decide +kernel
theorem dL_law_314 : decode cL_law 314 = .ok (.imul, 1) := by decide +kernel
theorem dL_law_315 : decode cL_law 315 = .ok (.bipush 32, 2) := by decide +kernel
theorem dL_law_317 : decode cL_law 317 = .ok (.irem, 1) := by decide +kernel
theorem dL_law_318 : decode cL_law 318 = .ok (.iconst 4, 1) := by decide +kernel
theorem dL_law_319 : decode cL_law 319 = .ok (.iload 7, 2) := by decide +kernel
theorem dL_law_321 : decode cL_law 321 = .ok (.imul, 1) := by decide +kernel
theorem dL_law_322 : decode cL_law 322 = .ok (.bipush 32, 2) := by decide +kernel
theorem dL_law_324 : decode cL_law 324 = .ok (.irem, 1) := by decide +kernel
theorem dL_law_325 : decode cL_law 325 = .ok (.iconst 1, 1) := by decide +kernel
theorem dL_law_326 : decode cL_law 326 = .ok (.iadd, 1) := by decide +kernel
theorem dL_law_327 : decode cL_law 327 = .ok (.bipush 60, 2) := by decide +kernel
theorem dL_law_329 : decode cL_law 329 = .ok (.invokevirtual 32, 3) := by decide +kernel
theorem dL_law_332 : decode cL_law 332 = .ok (.pop, 1) := by decide +kernel
theorem dL_law_333 : decode cL_law 333 = .ok (.aload_n 1, 1) := by decide +kernel
theorem dL_law_334 : decode cL_law 334 = .ok (.iconst 1, 1) := by decide +kernel
theorem dL_law_335 : decode cL_law 335 = .ok (.iconst 2, 1) := by decide +kernel
theorem dL_law_336 : decode cL_law 336 = .ok (.iload 7, 2) := by decide +kernel
theorem dL_law_338 : decode cL_law 338 = .ok (.imul, 1) := by decide +kernel
theorem dL_law_339 : decode cL_law 339 = .ok (.iadd, 1) := by decide +kernel
theorem dL_law_340 : decode cL_law 340 = .ok (.invokevirtual 41, 3) := by decide +kernel
theorem dL_law_343 : decode cL_law 343 = .ok (.pop, 1) := by decide +kernel
theorem dL_law_344 : decode cL_law 344 = .ok (.aload_n 1, 1) := by decide +kernel
theorem dL_law_345 : decode cL_law 345 = .ok (.iconst 4, 1) := by decide +kernel
theorem dL_law_346 : decode cL_law 346 = .ok (.iload 7, 2) := by decide +kernel
theorem dL_law_348 : decode cL_law 348 = .ok (.imul, 1) := by decide +kernel
theorem dL_law_349 : decode cL_law 349 = .ok (.bipush 32, 2) := by decide +kernel
theorem dL_law_351 : decode cL_law 351 = .ok (.irem, 1) := by decide +kernel
theorem dL_law_352 : decode cL_law 352 = .ok (.iconst 1, 1) := by decide +kernel
theorem dL_law_353 : decode cL_law 353 = .ok (.iadd, 1) := by decide +kernel
theorem dL_law_354 : decode cL_law 354 = .ok (.invokevirtual 38, 3) := by decide +kernel
theorem dL_law_357 : decode cL_law 357 = .ok (.pop, 1) := by decide +kernel
theorem dL_law_358 : decode cL_law 358 = .ok (.aload_n 1, 1) := by decide +kernel
theorem dL_law_359 : decode cL_law 359 = .ok (.invokestatic 158, 3) := by decide +kernel
theorem dL_law_362 : decode cL_law 362 = .ok (.istore_n 3, 1) := by decide +kernel
theorem dL_law_363 : decode cL_law 363 = .ok (.iinc 7 1, 3) := by decide +kernel
theorem dL_law_366 : decode cL_law 366 = .ok (.goto (-91), 3) := by decide +kernel
theorem dL_law_369 : decode cL_law 369 = .ok (.iload_n 3, 1) := by decide +kernel
theorem dL_law_370 : decode cL_law 370 = .ok (.ifCond .eq 35, 3) := by decide +kernel
theorem dL_law_373 : decode cL_law 373 = .ok (.aload_n 1, 1) := by decide +kernel
theorem dL_law_374 : decode cL_law 374 = .ok (.invokevirtual 65, 3) := by decide +kernel
theorem dL_law_377 : decode cL_law 377 = .ok (.iload 6, 2) := by decide +kernel
theorem dL_law_379 : decode cL_law 379 = .ok (.if_icmp .ne 26, 3) := by decide +kernel
theorem dL_law_382 : decode cL_law 382 = .ok (.aload_n 1, 1) := by decide +kernel
theorem dL_law_383 : decode cL_law 383 = .ok (.invokestatic 151, 3) := by decide +kernel
theorem dL_law_386 : decode cL_law 386 = .ok (.lload 4, 2) := by decide +kernel
theorem dL_law_388 : decode cL_law 388 = .ok (.lcmp, 1) := by decide +kernel
theorem dL_law_389 : decode cL_law 389 = .ok (.ifCond .ne 16, 3) := by decide +kernel
theorem dL_law_392 : decode cL_law 392 = .ok (.aload_n 1, 1) := by decide +kernel
theorem dL_law_393 : decode cL_law 393 = .ok (.invokevirtual 68, 3) := by decide +kernel
theorem dL_law_396 : decode cL_law 396 = .ok (.bipush (-15), 2) := by decide +kernel
theorem dL_law_398 : decode cL_law 398 = .ok (.if_icmp .ne 7, 3) := by decide +kernel
theorem dL_law_401 : decode cL_law 401 = .ok (.iconst 1, 1) := by decide +kernel
theorem dL_law_402 : decode cL_law 402 = .ok (.goto 4, 3) := by decide +kernel
theorem dL_law_405 : decode cL_law 405 = .ok (.iconst 0, 1) := by decide +kernel
theorem dL_law_406 : decode cL_law 406 = .ok (.ireturn, 1) := by decide +kernel
abbrev vwCl : List vw_C := [(RX0, TX0, 6), (RX1, TX1, 2), (RX2, TX2, 3), (RX3, TX3, 6), (RX4, TX4, 10)]
/-! ===== END printed: names ===== -/
