/-! the line -/
def ad1 (M : MemG) (n : Nat) (c : Int) : MemG := up (up M 84 n c) 3 1 ((n : Int) + 1)
section LINE
variable {M : MemG}
theorem s_addCode {n : Nat} (hn : M 3 1 = n) (h39 : n < 39) (c : Int) : fN_addCode M c = some (ad1 M n c) := by
  have e3 : up M 84 n c 3 1 = (n : Int) := by rw [up_other (by decide)]; exact hn
  unfold fN_addCode
  rw [hn, if_pos (by omega)]
  unfold fG_put
  rw [if_neg (by omega), if_pos (show (n : Int) < ((lenA 84 : Nat) : Int) by show (n : Int) < ((39 : Nat) : Int); omega), Option.bind_some, Int.toNat_natCast, Option.bind_some, e3, gd_ok (by omega), Option.bind_some]
  rfl
theorem ad1_n {n : Nat} {c : Int} : ad1 M n c 3 1 = ((n + 1 : Nat) : Int) := by unfold ad1; rw [up_at]; omega
theorem ad1_new {n : Nat} {c : Int} : ad1 M n c 84 n = c := by unfold ad1; rw [up_other (by decide), up_at]
theorem ad1_old {n i : Nat} {c : Int} (h : i ≠ n) : ad1 M n c 84 i = M 84 i := by unfold ad1; rw [up_other (by decide), up_ne h]
theorem ad1_out {n a : Nat} {c : Int} (h : a ≠ 3) (h2 : a ≠ 84) : ad1 M n c a = M a := by unfold ad1; rw [up_other h, up_other h2]
/-- what adding digits does -/
def Dig (n : Nat) (M : MemG) (k : Nat) (M' : MemG) : Prop := M' 3 1 = ((n + k : Nat) : Int) ∧ (∀ i, i < n → M' 84 i = M 84 i) ∧ (∀ i, n ≤ i → i < n + k → 48 ≤ M' 84 i ∧ M' 84 i ≤ 57) ∧ ∀ a, a ≠ 3 → a ≠ 84 → M' a = M a
theorem Dig.rf {n : Nat} (hn : M 3 1 = n) : Dig n M 0 M := ⟨hn, fun _ _ => rfl, fun i h1 h2 => by omega, fun _ _ _ => rfl⟩
theorem Dig.add {n k : Nat} {M' : MemG} (h : Dig n M k M') {c : Int} (hc : 48 ≤ c ∧ c ≤ 57) : Dig n M (k + 1) (ad1 M' (n + k) c) := by
  refine ⟨ad1_n, fun i hi => ?_, fun i h1 h2 => ?_, fun a h1 h2 => (ad1_out h1 h2).trans (h.2.2.2 a h1 h2)⟩
  · rw [ad1_old (by omega)]; exact h.2.1 i hi
  · by_cases c1 : i = n + k
    · rw [c1, ad1_new]; exact hc
    · rw [ad1_old c1]; exact h.2.2.1 i h1 (by omega)
theorem dig_step {n k : Nat} {M' : MemG} (h : Dig n M k M') (h39 : n + k < 39) {x p : Int} (hx : 0 ≤ x ∧ x ≤ 9999) (hp : p = 1000 ∨ p = 100 ∨ p = 10 ∨ p = 1) : fN_addNumber_l4 x (p, M') = some (.inl (p / 10, if x < p ∧ p ≠ 1 then M' else ad1 M' (n + k) (48 + (x / p) % 10))) := by
  have hq : 0 ≤ x / p := Int.ediv_nonneg hx.1 (by omega)
  have ha := s_addCode h.1 h39 (48 + (x / p) % 10)
  unfold fN_addNumber_l4 fN_addNumber_j19 fN_addNumber_j32
  dsimp only
  rw [if_neg (by omega), gq_ok (x := x) (y := p) (by omega), gq_ok (x := x / p) (by omega), gd_ok (by omega), ha, Option.bind_some, gq_ok (x := p) (by omega)]
  by_cases c1 : x < p
  · rw [if_pos c1]
    by_cases c2 : p = 1
    · rw [if_pos c2, if_neg (by omega)]
    · rw [if_neg c2, gq_ok (by omega), if_pos ⟨c1, c2⟩]
  · rw [if_neg c1, if_neg (fun q => c1 q.1)]
end LINE
