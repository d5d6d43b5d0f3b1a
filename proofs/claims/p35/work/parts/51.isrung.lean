/-! every rung is told right -/
section ISRUNG
variable {M : MemG} {T B e : Int}
theorem s_isRung (h : WI T B e (wal M 0)) {r : Nat} (h0 : 0 < r) (hr : r < 33) : ∃ M', fL_isRung M (r : Int) = some (M', 1) ∧ ∀ a, a ≠ 3 → a ≠ 84 → M' a = M a := by
  have hz := sz_pos r
  have hzl := sz_le r hr h0
  have hs := h.s r h0 hr
  have hc := h.c r h0 hr
  have hsm := h.sum h0 hr
  obtain ⟨n, M', et, hn, n1, n39, hf, h33, hfst⟩ := s_tellRung h h0 hr
  have hw : wal M' 0 = wal M 0 := wal_eq2 hf
  have eA : andI (r : Int) (-(r : Int)) = (sz r : Int) := size_ok r (by omega) h0 (by omega)
  have ea := s_sumAgain h (a := r - sz r) (b := r - 1) (by omega) (by omega)
  rw [show r - 1 + 1 = r by omega, ← hs, show ((r - sz r : Nat) : Int) = (r : Int) - (sz r : Int) by omega, show ((r - 1 : Nat) : Int) = (r : Int) - 1 by omega] at ea
  have r1 := s_rungOf1 (M := M') h0 hr
  rw [hw] at r1
  obtain ⟨q, hq, eq, esh⟩ := s_rungsBelow0 r hr h0
  have r5 : fG_rungOf M' (r : Int) 5 = some (q : Int) := (s_rungOf5 h0 hr).trans eq
  have ch1 := s_char0 hn n39 (i := n - 1) (by omega)
  rw [show ((n - 1 : Nat) : Int) = (n : Int) - 1 by omega] at ch1
  have ch0 := s_char0 hn n39 (i := 0) (by omega)
  rw [show ((0 : Nat) : Int) = 0 from rfl] at ch0
  have chN := s_charN hn n39
  have fin : fL_isRung_j128 M' (r : Int) (if wal M 0 4 r = 1 then 1 else 0) (n : Int) (if wal M 0 4 r = 1 then 1 else 0) = some (M', 1) := by
    unfold fL_isRung_j128 fL_isRung_j165
    rw [if_pos rfl, chN, Option.bind_some, if_pos rfl, ch0, Option.bind_some]
    by_cases c : 9 < (r : Int)
    · rw [if_pos c] at hfst
      rw [if_pos c, gq_ok (by omega), gd_ok (by omega), if_pos hfst]
    · rw [if_neg c] at hfst
      rw [if_neg c, gd_ok (by omega), if_pos hfst]
  have fin2 : fL_isRung_j110 M' (r : Int) (if wal M 0 4 r = 1 then 1 else 0) (n : Int) = some (M', 1) := by
    rw [← fin]
    unfold fL_isRung_j110
    rw [gd_ok (by omega), ch1, Option.bind_some]
    by_cases c : wal M 0 4 r = 1
    · rw [if_pos (h33.2 c), if_pos c]
    · rw [if_neg (fun q => c (h33.1 q)), if_neg c]
  refine ⟨M', ?_, hf⟩
  unfold fL_isRung
  rw [eA, gd_ok (by omega), gd_ok (by omega), ea, Option.bind_some, s_rungOf3 h0 hr, Option.bind_some]
  have e4 := s_rungOf4 (M := M') h0 hr
  rw [show ((r - sz r : Nat) : Int) = (r : Int) - (sz r : Int) by omega] at e4
  have j31 : fL_isRung_j31 M (r : Int) (sz r : Int) (wal M 0 3 r) (if wal M 0 4 r = 1 then 1 else 0) = some (M', 1) := by
    unfold fL_isRung_j31
    rw [et, Option.bind_some, s_rungOf0 h0 hr, Option.bind_some, if_pos rfl, r1, Option.bind_some, if_pos rfl, s_rungOf2 h0 hr, Option.bind_some, gd_ok (by omega), if_pos rfl, e4, Option.bind_some, gd_ok (by omega), if_pos rfl, r5, Option.bind_some, if_pos esh, gd_ok (by omega), fin2]
    by_cases c : wal M 0 4 r = 1
    · rw [if_pos c, if_neg (by decide)]
    · rw [if_neg c, if_pos rfl, if_neg (by have := hc.2 (by omega); omega)]
  by_cases c : wal M 0 4 r = 1
  · rw [if_pos c] at j31 ⊢
    rw [if_pos rfl]; exact j31
  · rw [if_neg c] at j31 ⊢
    rw [if_neg (by decide)]; exact j31
end ISRUNG
