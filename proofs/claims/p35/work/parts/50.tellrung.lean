/-! a rung's line, whole -/
theorem wal_eq2 {M M2 : MemG} (h : ∀ a, a ≠ 3 → a ≠ 84 → M2 a = M a) : wal M2 0 = wal M 0 := by
  funext j i
  unfold wal
  split
  · rw [h _ (by omega) (by omega)]
  · rfl
section TELL2
variable {M : MemG} {T B e : Int}
theorem s_tellRung (h : WI T B e (wal M 0)) {r : Nat} (h0 : 0 < r) (hr : r < 33) : ∃ (n : Nat) (M' : MemG), fG_tellRung M (r : Int) = some (M', (n : Int)) ∧ M' 3 1 = n ∧ 1 ≤ n ∧ n ≤ 39 ∧ (∀ a, a ≠ 3 → a ≠ 84 → M' a = M a) ∧ (M' 84 (n - 1) = 33 ↔ wal M 0 4 r = 1) ∧ M' 84 0 = 48 + (if 9 < (r : Int) then (r : Int) / 10 else (r : Int)) := by
  have hz := sz_pos r
  have hs := h.sum h0 hr
  have c0 : up M 3 1 0 3 1 = ((0 : Nat) : Int) := up_at
  obtain ⟨k1, M1, e1, d1, a1, b1, f1⟩ := s_addNumber c0 (by decide) (x := (r : Int)) (by omega)
  have x1 := s_addCode d1.1 (by omega) 58
  obtain ⟨k2, M2, e2, d2, a2, b2, _⟩ := s_addNumber (M := ad1 M1 (0 + k1) 58) ad1_n (by omega) (x := ((r - sz r : Nat) : Int)) (by omega)
  have x2 := s_addCode d2.1 (by omega) 45
  obtain ⟨k3, M3, e3, d3, a3, b3, _⟩ := s_addNumber (M := ad1 M2 (0 + k1 + 1 + k2) 45) ad1_n (by omega) (x := (r : Int) - 1) (by omega)
  have x3 := s_addCode d3.1 (by omega) 61
  have o3 : ∀ a, a ≠ 3 → a ≠ 84 → ad1 M3 (0 + k1 + 1 + k2 + 1 + k3) 61 a = M a := fun a q1 q2 => by
    rw [ad1_out q1 q2, d3.2.2.2 a q1 q2, ad1_out q1 q2, d2.2.2.2 a q1 q2, ad1_out q1 q2, d1.2.2.2 a q1 q2, up_other q1]
  have w3 : wal (ad1 M3 (0 + k1 + 1 + k2 + 1 + k3) 61) 0 = wal M 0 := wal_eq2 o3
  obtain ⟨k4, M4, e4, d4, a4, b4, _⟩ := s_addNumber (M := ad1 M3 (0 + k1 + 1 + k2 + 1 + k3) 61) ad1_n (by omega) (x := wal M 0 3 r) (by omega)
  have o4 : ∀ a, a ≠ 3 → a ≠ 84 → M4 a = M a := fun a q1 q2 => (d4.2.2.2 a q1 q2).trans (o3 a q1 q2)
  have w4 : wal M4 0 = wal M 0 := wal_eq2 o4
  have x4 := s_addCode d4.1 (by omega) 33
  have first : M4 84 0 = 48 + (if 9 < (r : Int) then (r : Int) / 10 else (r : Int)) := by
    rw [d4.2.1 0 (by omega), ad1_old (by omega), d3.2.1 0 (by omega), ad1_old (by omega), d2.2.1 0 (by omega), ad1_old (by omega), f1 (by omega)]
  have pre : fG_tellRung M (r : Int) = if wal M 0 4 r = 1 then (fN_addCode M4 33).bind fun m27 => fG_tellRung_j108 m27 else fG_tellRung_j108 M4 := by
    unfold fG_tellRung fN_becomeEmpty
    rw [rung_in h0 hr, if_neg (by decide), Option.bind_some, Option.bind_some, e1, Option.bind_some, x1, Option.bind_some, s_firstBay0 r hr h0, Option.bind_some, e2, Option.bind_some, x2, Option.bind_some, gd_ok (by omega), e3, Option.bind_some, x3, Option.bind_some, rW_sumOf (by decide), rdw_n, w3, e4, Option.bind_some, rW_isCracked (by decide), rdw_n, w4]
    by_cases c : wal M 0 4 r = 1
    · rw [if_pos c, if_neg (by decide), if_pos c]
    · rw [if_neg c, if_pos rfl, if_neg c]
  by_cases c : wal M 0 4 r = 1
  · refine ⟨0 + k1 + 1 + k2 + 1 + k3 + 1 + k4 + 1, ad1 M4 (0 + k1 + 1 + k2 + 1 + k3 + 1 + k4) 33, ?_, ad1_n, by omega, by omega, fun a q1 q2 => (ad1_out q1 q2).trans (o4 a q1 q2), ⟨fun _ => c, fun _ => ad1_new⟩, by rw [ad1_old (by omega)]; exact first⟩
    rw [pre, if_pos c, x4, Option.bind_some]
    unfold fG_tellRung_j108 fN_size
    rw [ad1_n]
  · have hl := d4.2.2.1 (0 + k1 + 1 + k2 + 1 + k3 + 1 + k4 - 1) (by omega) (by omega)
    refine ⟨0 + k1 + 1 + k2 + 1 + k3 + 1 + k4, M4, ?_, d4.1, by omega, by omega, o4, ⟨fun q => by omega, fun q => absurd q c⟩, first⟩
    rw [pre, if_neg c]
    unfold fG_tellRung_j108 fN_size
    rw [d4.1]
end TELL2
