/-! what the walk takes of the start, all of it -/
def mkG (s : State) (L : Nat) (xs : Nat → Int32) (D : va_G) (cI cQ : ClassId) (g : Nat) (u X : Nat → Nat) : gG := (D, cI, cQ, adr g u X, fun j => (xs j).toInt, L, fun q : Nat => s.heap.size ≤ q)
theorem fl_w0 : FLs[5]? = some (.arrayOf (.static "GranaryLadder" "WEEKS_KEPT" "[I") .int) := by decide +kernel
theorem fl_w1 : FLs[6]? = some (.eq (.length (.static "GranaryLadder" "WEEKS_KEPT" "[I")) (.int (Int32.ofNat 4))) := by decide +kernel
theorem fl_l0 : FLs[17]? = some (.arrayOf (.static "GranaryLadder" "LETTERS" "[I") .int) := by decide +kernel
theorem fl_l1 : FLs[18]? = some (.eq (.length (.static "GranaryLadder" "LETTERS" "[I")) (.int (Int32.ofNat 4))) := by decide +kernel
theorem fl_t0 : FLs[24]? = some (.arrayOf (.static "GranaryLadderLaw" "TEXTS" "[Ljava/lang/String;") (.object "java/lang/String")) := by decide +kernel
theorem fl_t1 : FLs[25]? = some (.eq (.length (.static "GranaryLadderLaw" "TEXTS" "[Ljava/lang/String;")) (.int (Int32.ofNat 19))) := by decide +kernel
theorem fl_cs : FLs[11]? = some (.eq (.static "java/lang/String" "COMPACT_STRINGS" "Z") (.int 1)) := by decide +kernel
theorem fl_si : FLs[12]? = some (.isRef (.static "jdk/internal/util/Preconditions" "SIOOBE_FORMATTER" "Ljava/util/function/BiFunction;")) := by decide +kernel
set_option maxHeartbeats 4000000 in
theorem given_all {s : State} {b L : Nat} {xs : Nat → Int32} (hts : ∀ w ∈ lw_tbl, w.before #[Value.ref b] s = true) (hs : ∀ w ∈ FLs, w.before #[Value.ref b] s = true) (hX : va_X b L xs s s.heap) (hbl : b < s.heap.size) : ∃ X : Nat → Nat, X 89 = b ∧ ∀ (D : va_G) (cI cQ : ClassId) (g : Nat) (u : Nat → Nat), StG (mkG s L xs D cI cQ g u X) s s.heap ∧ vkR7 (mkG s L xs D cI cQ g u X) s ∧ NwG s := by
  have hO : ∀ a : Nat, a < s.heap.size → ¬ (fun q : Nat => s.heap.size ≤ q) a := fun a h q => Nat.not_le.mpr h q
  have hm : ∀ {i : Nat} {w : Cond}, FLs[i]? = some w → w.before #[Value.ref b] s = true := fun h => hs _ (List.mem_of_getElem? h)
  have h0 : ∀ i : Nat, ∃ q : Nat × Nat, i < 26 → StrAt #[Value.ref b] s (fun q : Nat => s.heap.size ≤ q) i q := by
    intro i
    by_cases hi : i < 26
    · obtain ⟨q, hq⟩ := str_one hs hO hi
      exact ⟨q, fun _ => hq⟩
    · exact ⟨(0, 0), fun h => absurd h hi⟩
  obtain ⟨ad, had⟩ := Classical.axiomOfChoice h0
  obtain ⟨t86, e86, T86⟩ := va_Tof (args := #[Value.ref b]) (s := s) (tm := .static "GranaryLadder" "WEEKS_KEPT" "[I") (ty := .int) (N := 4) (f := fun j => .int (i3 (tabS 86 j))) (A := fun q : Nat => s.heap.size ≤ q) (by decide) (hm fl_w0) (va_eqt (hm fl_w1)) (fun j hj => va_eqt (hm (fl_wk j hj))) hO
  obtain ⟨t87, e87, T87⟩ := va_Tof (args := #[Value.ref b]) (s := s) (tm := .static "GranaryLadder" "LETTERS" "[I") (ty := .int) (N := 4) (f := fun j => .int (i3 (tabS 87 j))) (A := fun q : Nat => s.heap.size ≤ q) (by decide) (hm fl_l0) (va_eqt (hm fl_l1)) (fun j hj => va_eqt (hm (fl_lt j hj))) hO
  obtain ⟨t88, e88, T88⟩ := va_Tof (args := #[Value.ref b]) (s := s) (tm := .static "GranaryLadderLaw" "TEXTS" "[Ljava/lang/String;") (ty := .object "java/lang/String") (N := 19) (f := fun j => .ref (ad (7 + j)).1) (A := fun q : Nat => s.heap.size ≤ q) (by decide) (hm fl_t0) (va_eqt (hm fl_t1)) (fun j hj => va_eqv (hm (fl_tx j hj)) (had (7 + j) (by omega)).1) hO
  obtain ⟨X, x86, x87, x88, x89, x100, x200⟩ : ∃ X : Nat → Nat, X 86 = t86 ∧ X 87 = t87 ∧ X 88 = t88 ∧ X 89 = b ∧ (∀ i, i < 26 → X (100 + i) = (ad i).1) ∧ ∀ i, i < 26 → X (200 + i) = (ad i).2 := by
    refine ⟨fun k => if k = 86 then t86 else if k = 87 then t87 else if k = 88 then t88 else if k = 89 then b else if k < 200 then (ad (k - 100)).1 else (ad (k - 200)).2, rfl, rfl, rfl, rfl, fun i hi => ?_, fun i hi => ?_⟩
    · show (if 100 + i = 86 then t86 else if 100 + i = 87 then t87 else if 100 + i = 88 then t88 else if 100 + i = 89 then b else if 100 + i < 200 then (ad (100 + i - 100)).1 else (ad (100 + i - 200)).2) = _
      rw [if_neg (by omega), if_neg (by omega), if_neg (by omega), if_neg (by omega), if_pos (by omega), Nat.add_sub_cancel_left]
    · show (if 200 + i = 86 then t86 else if 200 + i = 87 then t87 else if 200 + i = 88 then t88 else if 200 + i = 89 then b else if 200 + i < 200 then (ad (200 + i - 100)).1 else (ad (200 + i - 200)).2) = _
      rw [if_neg (by omega), if_neg (by omega), if_neg (by omega), if_neg (by omega), if_neg (by omega), Nat.add_sub_cancel_left]
  refine ⟨X, x89, fun D cI cQ g u => ?_⟩
  have aX : ∀ k, 86 ≤ k → gA (mkG s L xs D cI cQ g u X) k = X k := fun k hk => if_neg (show ¬ k < 86 by omega)
  have a100 : ∀ i, i < 26 → gA (mkG s L xs D cI cQ g u X) (100 + i) = (ad i).1 := fun i hi => (aX _ (by omega)).trans (x100 i hi)
  have a200 : ∀ i, i < 26 → gA (mkG s L xs D cI cQ g u X) (200 + i) = (ad i).2 := fun i hi => (aX _ (by omega)).trans (x200 i hi)
  have a86 : gA (mkG s L xs D cI cQ g u X) 86 = t86 := (aX _ (by omega)).trans x86
  have a87 : gA (mkG s L xs D cI cQ g u X) 87 = t87 := (aX _ (by omega)).trans x87
  have a88 : gA (mkG s L xs D cI cQ g u X) 88 = t88 := (aX _ (by omega)).trans x88
  have a89 : gA (mkG s L xs D cI cQ g u X) 89 = b := (aX _ (by omega)).trans x89
  refine ⟨⟨⟨?_, ?_⟩, ⟨?_, ?_⟩, ⟨?_, ?_⟩, ?_, ⟨?_, ?_⟩, ?_, ?_⟩, ?_, fun w hw => ?_⟩
  · rw [a86]; exact va_Zof (hts _ tb_wk) (hts _ tb_iG) e86 hO
  · rw [a86]; exact T86
  · rw [a87]; exact va_Zof (hts _ tb_lt) (hts _ tb_iG) e87 hO
  · rw [a87]; exact T87
  · rw [a88]; exact va_Zof (hts _ tb_tx) (hts _ tb_iL) e88 hO
  · rw [a88]
    obtain ⟨cell, q1, q2, q3, q4, q5, q6, q7⟩ := T88
    exact ⟨cell, q1, q2, q3, q4, q5, fun j hj => by show cell.slots[j]? = some (Value.ref (gA (mkG s L xs D cI cQ g u X) (100 + (7 + j)))); rw [a100 (7 + j) (by omega)]; exact q6 j hj, q7⟩
  · rw [a89]
    obtain ⟨scr, q1, q2, q3, q4, q5⟩ := hX
    refine ⟨scr, q1, q2, q3, Nat.le_of_eq q4.symm, by rw [q4]; rfl, fun j hj => ?_, hO b hbl⟩
    rw [q5 j hj]
    show _ = some (Value.int (i3 (xs j).toInt))
    rw [i3_of]
  · intro i hi
    dsimp only
    rw [a100 i hi, a200 i hi]
    exact (had i hi).2
  · intro i j hi hj h
    refine str_ne hi hj (had i hi) (had j hj) ?_
    rw [← a100 i hi, ← a100 j hj]
    exact h
  · exact va_Zof (hts _ tb_cs) (hts _ tb_iS) (va_eqi (hm fl_cs)) hO
  · exact va_Zqof (hts _ tb_si) (hts _ tb_iP) (hm fl_si) hO
  · have st : ∀ (i : Nat) (tx : String), i < 7 → (Cond.stringRef RX0 (72 + 2 * i) tx).before #[Value.ref b] s = true → vk_R RX0 (72 + 2 * i) tx (gA (mkG s L xs D cI cQ g u X) (100 + i)) s := by
      intro i tx hi h
      have h1 := (had i (by omega)).1
      unfold tmS at h1
      rw [if_pos hi] at h1
      rw [a100 i (by omega)]
      exact vk_R.of h h1
    exact ⟨st 0 _ (by decide) (hts _ tb_s0), st 1 _ (by decide) (hts _ tb_s1), st 2 _ (by decide) (hts _ tb_s2), st 3 _ (by decide) (hts _ tb_s3), st 4 _ (by decide) (hts _ tb_s4), st 5 _ (by decide) (hts _ tb_s5), st 6 _ (by decide) (hts _ tb_s6)⟩
  · have hw2 := hts w (nw_all w hw)
    unfold nwL at hw
    simp only [List.mem_cons, List.not_mem_nil, or_false] at hw
    rcases hw with rfl | rfl | rfl | rfl | rfl | rfl | rfl | rfl | rfl | rfl | rfl | rfl | rfl
    all_goals exact va_Nw.of rfl hw2
