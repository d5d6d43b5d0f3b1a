/-! every bay is told right, the rest -/
section ISBAY2
variable {M : MemG} {T B : Int}
theorem s_isBay (h : WI T B 0 (wal M 0)) (hT : T ≤ 1000000) {b : Nat} (hb : b < 32) : ∃ M', fL_isBay M (b : Int) = some (M', 1) ∧ ∀ a, a ≠ 85 → M' a = M a := by
  have hk := h.b b hb
  obtain ⟨M', e, hf⟩ := s_bay116 h hb
  refine ⟨M', ?_, hf⟩
  unfold fL_isBay
  rw [s_bayOf0 hb, Option.bind_some, s_bayOf1 hb, Option.bind_some, s_bayOf2 hb, Option.bind_some]
  by_cases c : wal M 0 1 b = 0
  · have ha : wal M 0 2 b = 0 := hk.2.2.2.2.2.2 c
    have hs : spo (wal M 0) b (wal M 0 2 b + 1) = 0 := by
      unfold spo
      rw [c]
      split <;> rfl
    rw [if_pos c, if_pos c]
    unfold fL_isBay_j31 fL_isBay_j44 fL_isBay_j75
    rw [if_pos rfl, if_pos rfl, if_neg (by omega), if_neg (by omega), if_neg (by omega), if_neg (by decide), if_pos ha, s_bayOf3 h.b hT hb, Option.bind_some, if_neg (by decide), hs]
    unfold fL_isBay_j108
    rw [if_pos rfl]
    exact e
  · rw [if_neg c, if_neg c]
    unfold fL_isBay_j31 fL_isBay_j44 fL_isBay_j75
    rw [if_neg (by omega), if_pos rfl, if_neg (by omega), if_neg (by omega), if_neg (by omega), if_pos rfl, s_bayOf3 h.b hT hb, Option.bind_some, if_pos rfl, gd_ok (by omega), gd_ok (by omega), gq_ok (by omega), keeps_eq _ (by omega)]
    unfold fL_isBay_j108 spo
    by_cases c2 : tabS 86 (wal M 0 0 b).toNat < wal M 0 2 b + 1
    · rw [if_pos c2, if_pos c2, if_pos rfl]
      exact e
    · rw [if_neg c2, if_neg c2, if_pos rfl]
      exact e
end ISBAY2
