/-! what is given of the start: rows, texts and links that nobody writes -/
abbrev FLs : List Cond := flatC (Jvm.Cond.and given_1 narrow_1)
def tmS (i : Nat) : Term := if i < 7 then .string "GranaryLadder$CommandText" (72 + 2 * i) else .string "GranaryLadderLaw" (187 + 2 * (i - 7))
def bsS (i : Nat) : Nat := ([45, 60, 72, 86, 99, 108, 118, 122, 138, 156, 185, 197, 211, 225, 239, 267, 280, 295, 320, 329, 339, 349, 359, 370, 380, 395] : List Nat).getD i 0
theorem fl_ex : ∀ i, i < 26 → FLs[bsS i]? = some (.exactly (tmS i) "java/lang/String") := by decide +kernel
theorem fl_co : ∀ i, i < 26 → FLs[bsS i + 1]? = some (.eq (.field (tmS i) "java/lang/String" "coder" "B") (.int 0)) := by decide +kernel
theorem fl_ar : ∀ i, i < 26 → FLs[bsS i + 2]? = some (.arrayOf (.field (tmS i) "java/lang/String" "value" "[B") .byte) := by decide +kernel
theorem fl_le : ∀ i, i < 26 → FLs[bsS i + 3]? = some (.eq (.length (.field (tmS i) "java/lang/String" "value" "[B")) (.int (Int32.ofNat (txL.getD i 0)))) := by decide +kernel
theorem fl_el : ∀ i, i < 26 → ∀ j, j < txL.getD i 0 → FLs[bsS i + 4 + j]? = some (.eq (.elem (.field (tmS i) "java/lang/String" "value" "[B") (.int (Int32.ofNat j))) (.int ((txB.getD i []).getD j 0))) := by decide +kernel
theorem fl_tx : ∀ j, j < 19 → FLs[26 + j]? = some (.eq (.elem (.static "GranaryLadderLaw" "TEXTS" "[Ljava/lang/String;") (.int (Int32.ofNat j))) (tmS (7 + j))) := by decide +kernel
theorem fl_wk : ∀ j, j < 4 → FLs[7 + j]? = some (.eq (.elem (.static "GranaryLadder" "WEEKS_KEPT" "[I") (.int (Int32.ofNat j))) (.int (i3 (tabS 86 j)))) := by decide +kernel
theorem fl_lt : ∀ j, j < 4 → FLs[19 + j]? = some (.eq (.elem (.static "GranaryLadder" "LETTERS" "[I") (.int (Int32.ofNat j))) (.int (i3 (tabS 87 j)))) := by decide +kernel
theorem tb_wk : Cond.laysStatic "GranaryLadder" "WEEKS_KEPT" "[I" ∈ lw_tbl := List.mem_append_right _ (List.mem_of_getElem? (i := 300) (by decide +kernel))
theorem tb_lt : Cond.laysStatic "GranaryLadder" "LETTERS" "[I" ∈ lw_tbl := List.mem_append_right _ (List.mem_of_getElem? (i := 402) (by decide +kernel))
theorem tb_tx : Cond.laysStatic "GranaryLadderLaw" "TEXTS" "[Ljava/lang/String;" ∈ lw_tbl := List.mem_append_right _ (List.mem_of_getElem? (i := 518) (by decide +kernel))
theorem tb_cs : Cond.laysStatic "java/lang/String" "COMPACT_STRINGS" "Z" ∈ lw_tbl := List.mem_append_right _ (List.mem_of_getElem? (i := 344) (by decide +kernel))
theorem tb_si : Cond.laysStatic "jdk/internal/util/Preconditions" "SIOOBE_FORMATTER" "Ljava/util/function/BiFunction;" ∈ lw_tbl := List.mem_append_right _ (List.mem_of_getElem? (i := 352) (by decide +kernel))
theorem tb_iG : Cond.initialized "GranaryLadder" ∈ lw_tbl := List.mem_append_right _ (List.mem_of_getElem? (i := 1) (by decide +kernel))
theorem tb_iL : Cond.initialized "GranaryLadderLaw" ∈ lw_tbl := List.mem_append_right _ (List.mem_of_getElem? (i := 0) (by decide +kernel))
theorem tb_iS : Cond.initialized "java/lang/String" ∈ lw_tbl := List.mem_append_right _ (List.mem_of_getElem? (i := 7) (by decide +kernel))
theorem tb_iP : Cond.initialized "jdk/internal/util/Preconditions" ∈ lw_tbl := List.mem_append_right _ (List.mem_of_getElem? (i := 9) (by decide +kernel))
theorem tb_ao : Cond.arrayOver (.object "GranaryLadder$Wall") ∈ lw_tbl := List.mem_append_right _ (List.mem_of_getElem? (i := 53) (by decide +kernel))
theorem tb_n35 : Cond.methodLinkNest RX4 35 yX0_init RX4 ∈ lw_tbl := List.mem_append_right _ (List.mem_of_getElem? (i := 67) (by decide +kernel))
theorem tb_n42 : Cond.methodLinkNest RX4 42 yX1_init RX4 ∈ lw_tbl := List.mem_append_right _ (List.mem_of_getElem? (i := 92) (by decide +kernel))
theorem tb_s0 : Cond.stringRef RX0 72 "store 2 ? 3" ∈ lw_tbl := List.mem_append_right _ (List.mem_of_getElem? (i := 319) (by decide +kernel))
theorem tb_s1 : Cond.stringRef RX0 74 "take 2 3" ∈ lw_tbl := List.mem_append_right _ (List.mem_of_getElem? (i := 320) (by decide +kernel))
theorem tb_s2 : Cond.stringRef RX0 76 "move 2>2 3" ∈ lw_tbl := List.mem_append_right _ (List.mem_of_getElem? (i := 321) (by decide +kernel))
theorem tb_s3 : Cond.stringRef RX0 78 "order ? 3" ∈ lw_tbl := List.mem_append_right _ (List.mem_of_getElem? (i := 322) (by decide +kernel))
theorem tb_s4 : Cond.stringRef RX0 80 "fix 2" ∈ lw_tbl := List.mem_append_right _ (List.mem_of_getElem? (i := 323) (by decide +kernel))
theorem tb_s5 : Cond.stringRef RX0 82 "pass 2" ∈ lw_tbl := List.mem_append_right _ (List.mem_of_getElem? (i := 324) (by decide +kernel))
theorem tb_s6 : Cond.stringRef RX0 84 "" ∈ lw_tbl := List.mem_append_right _ (List.mem_of_getElem? (i := 325) (by decide +kernel))
theorem tb_w0 : Cond.methodLinkNest RX3 30 yX4_copyRow RX4 ∈ lw_tbl := List.mem_append_right _ (List.mem_of_getElem? (i := 142) (by decide +kernel))
theorem tb_w1 : Cond.methodLinkNest RX3 34 yX4_at RX4 ∈ lw_tbl := List.mem_append_right _ (List.mem_of_getElem? (i := 166) (by decide +kernel))
theorem tb_w2 : Cond.methodLinkNest RX3 38 yX4_put RX4 ∈ lw_tbl := List.mem_append_right _ (List.mem_of_getElem? (i := 189) (by decide +kernel))
theorem tb_w3 : Cond.methodLinkNest RX3 54 yX4_sizeOf RX4 ∈ lw_tbl := List.mem_append_right _ (List.mem_of_getElem? (i := 204) (by decide +kernel))
theorem tb_w4 : Cond.methodLinkNest RX3 63 yX4_loadOf RX4 ∈ lw_tbl := List.mem_append_right _ (List.mem_of_getElem? (i := 219) (by decide +kernel))
theorem tb_w5 : Cond.fieldLinkNest RX3 86 RX4 "WEEKS_KEPT" "[I" RX4 ∈ lw_tbl := List.mem_append_right _ (List.mem_of_getElem? (i := 299) (by decide +kernel))
theorem tb_w6 : Cond.methodLinkNest RX0 35 yX4_at RX4 ∈ lw_tbl := List.mem_append_right _ (List.mem_of_getElem? (i := 334) (by decide +kernel))
theorem tb_w7 : Cond.methodLinkNest RX0 31 yX4_put RX4 ∈ lw_tbl := List.mem_append_right _ (List.mem_of_getElem? (i := 379) (by decide +kernel))
theorem tb_w8 : Cond.methodLinkNest RX0 94 yX4_isWithin RX4 ∈ lw_tbl := List.mem_append_right _ (List.mem_of_getElem? (i := 396) (by decide +kernel))
theorem tb_w9 : Cond.fieldLinkNest RX0 98 RX4 "LETTERS" "[I" RX4 ∈ lw_tbl := List.mem_append_right _ (List.mem_of_getElem? (i := 401) (by decide +kernel))
theorem tb_w10 : Cond.methodLinkNest RX1 19 yX4_put RX4 ∈ lw_tbl := List.mem_append_right _ (List.mem_of_getElem? (i := 680) (by decide +kernel))
theorem tb_w11 : Cond.methodLinkNest RX1 27 yX4_isWithin RX4 ∈ lw_tbl := List.mem_append_right _ (List.mem_of_getElem? (i := 694) (by decide +kernel))
theorem tb_w12 : Cond.methodLinkNest RX1 31 yX4_at RX4 ∈ lw_tbl := List.mem_append_right _ (List.mem_of_getElem? (i := 695) (by decide +kernel))
theorem nw_all : ∀ w ∈ nwL, w ∈ lw_tbl := by
  intro w hw
  unfold nwL at hw
  simp only [List.mem_cons, List.not_mem_nil, or_false] at hw
  rcases hw with rfl | rfl | rfl | rfl | rfl | rfl | rfl | rfl | rfl | rfl | rfl | rfl | rfl
  · exact tb_w0
  · exact tb_w1
  · exact tb_w2
  · exact tb_w3
  · exact tb_w4
  · exact tb_w5
  · exact tb_w6
  · exact tb_w7
  · exact tb_w8
  · exact tb_w9
  · exact tb_w10
  · exact tb_w11
  · exact tb_w12
theorem tx_l31 : ∀ i, i < 26 → txL.getD i 0 < 2 ^ 31 := by decide +kernel
theorem tx_inj : ∀ i, i < 26 → ∀ j, j < 26 → txL.getD i 0 = txL.getD j 0 → (∀ k, k < txL.getD i 0 → (txB.getD i []).getD k 0 = (txB.getD j []).getD k 0) → i = j := by decide +kernel
section GIVEN
variable {args : Array Value} {s : State} {A : Nat → Prop}
def StrAt (args : Array Value) (s : State) (A : Nat → Prop) (i : Nat) (q : Nat × Nat) : Prop := (tmS i).eval args s none [] s = some (.ref q.1) ∧ va_O "java/lang/String" q.1 A s s.heap ∧ va_OF "java/lang/String" "coder" "B" (.int 0) q.1 A s s.heap ∧ va_OF "java/lang/String" "value" "[B" (.ref q.2) q.1 A s s.heap ∧ va_T .byte q.2 (txL.getD i 0) (fun j => .int ((txB.getD i []).getD j 0)) A s s.heap
theorem str_one (hs : ∀ w ∈ FLs, w.before args s = true) (hA : ∀ a : Nat, a < s.heap.size → ¬ A a) {i : Nat} (hi : i < 26) : ∃ q : Nat × Nat, StrAt args s A i q := by
  have h1 := hs _ (List.mem_of_getElem? (fl_ex i hi))
  have h2 := hs _ (List.mem_of_getElem? (fl_co i hi))
  have h3 := hs _ (List.mem_of_getElem? (fl_ar i hi))
  have h4 := hs _ (List.mem_of_getElem? (fl_le i hi))
  have h5 := fun j hj => hs _ (List.mem_of_getElem? (fl_el i hi j hj))
  obtain ⟨adK, adV, h, he⟩ := vk_Sof (N := 1) (tm := fun _ => tmS i) (len := [txL.getD i 0]) (byt := [txB.getD i []]) (A := A) (s := s) (args := args)
    (fun k hk => by obtain rfl : k = 0 := by omega
                    exact tx_l31 i hi) (fun _ _ => h1) (fun _ _ => h2) (fun _ _ => h3)
    (fun k hk => by obtain rfl : k = 0 := by omega
                    exact h4)
    (fun k hk j hj => by obtain rfl : k = 0 := by omega
                         exact h5 j hj)
    (fun a b ha hb hab => absurd (show a = b by omega) hab) hA
  obtain ⟨k1, k2, k3, k4⟩ := h.1 0 (by decide)
  exact ⟨(adK 0, adV 0), he 0 (by decide), k1, k2, k3, k4⟩
theorem of_uniq {o n d : String} {v w : Value} {q : Nat} {U : State} {H : Heap} (h1 : va_OF o n d v q A U H) (h2 : va_OF o n d w q A U H) : v = w := by
  obtain ⟨cf, k, i, f, cell, a1, a2, a3, a4, a5, a6⟩ := h1
  obtain ⟨cf', k', i', f', cell', b1, b2, b3, b4, b5, b6⟩ := h2
  cases a1.symm.trans b1
  cases a3.symm.trans b3
  exact Option.some.inj (a5.symm.trans b5)
theorem str_ne {i j : Nat} (hi : i < 26) (hj : j < 26) {p q : Nat × Nat} (hp : StrAt args s A i p) (hq : StrAt args s A j q) (h : p.1 = q.1) : i = j := by
  obtain ⟨-, -, -, p4, p5⟩ := hp
  obtain ⟨-, -, -, q4, q5⟩ := hq
  rw [h] at p4
  have e := of_uniq p4 q4
  have e2 : p.2 = q.2 := Value.ref.inj e
  rw [e2] at p5
  obtain ⟨c1, a1, a2, a3, a4, a5, a6, a7⟩ := p5
  obtain ⟨c2, b1, b2, b3, b4, b5, b6, b7⟩ := q5
  cases a1.symm.trans b1
  have e3 : Int32.ofNat (txL.getD i 0) = Int32.ofNat (txL.getD j 0) := a5.symm.trans b5
  have e4 : txL.getD i 0 = txL.getD j 0 := by
    rw [i3_nat, i3_nat] at e3
    have l1 := tx_l31 i hi
    have l2 := tx_l31 j hj
    have := (i3_eq (a := ((txL.getD i 0 : Nat) : Int)) (b := ((txL.getD j 0 : Nat) : Int)) ⟨by omega, by omega⟩ ⟨by omega, by omega⟩).1 e3
    omega
  refine tx_inj i hi j hj e4 (fun k hk => ?_)
  have := (a6 k hk).symm.trans (b6 k (by omega))
  exact Value.int.inj (Option.some.inj this)
end GIVEN
