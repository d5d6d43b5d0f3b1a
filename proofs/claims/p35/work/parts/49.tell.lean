/-! a rung's line -/
section TELL
variable {M : MemG}
theorem s_char0 {n : Nat} (hn : M 3 1 = n) (h39 : n ≤ 39) {i : Nat} (hi : i < n) : fG_character M (i : Int) = some (M 84 i) := by
  unfold fG_character fN_codeAt
  rw [hn, gd_ok (by omega), within_in (by omega), if_neg (by decide)]
  unfold fG_at
  rw [if_neg (by omega), if_pos (show (i : Int) < ((lenA 84 : Nat) : Int) by show (i : Int) < ((39 : Nat) : Int); omega), Int.toNat_natCast]
  rfl
theorem s_charN {n : Nat} (hn : M 3 1 = n) (h39 : n ≤ 39) : fG_character M (n : Int) = some (-11) := by
  unfold fG_character fN_codeAt
  rw [hn, gd_ok (by omega), within_eq, if_neg (show ¬ (0 ≤ (n : Int) ∧ (n : Int) ≤ (n : Int) - 1) by omega), if_pos rfl]
  rfl
end TELL
