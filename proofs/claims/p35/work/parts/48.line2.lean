/-! numbers in the line -/
theorem loop_st {σ ρ : Type} {f : σ → Option (σ ⊕ ρ)} {n : Nat} {s s' : σ} (h : f s = some (.inl s')) : loopN f (n + 1) s = loopN f n s' := by
  rw [loopN, h]
  rfl
theorem loop_en {σ ρ : Type} {f : σ → Option (σ ⊕ ρ)} {n : Nat} {s : σ} {r : ρ} (h : f s = some (.inr r)) : loopN f (n + 1) s = some r := by
  rw [loopN, h]
  rfl
section LINE
variable {M : MemG}
/-- adding a number of at most four digits -/
theorem s_addNumber {n : Nat} (hn : M 3 1 = n) (h39 : n + 4 < 39) {x : Int} (hx : 0 ≤ x ∧ x ≤ 9999) : ∃ k M', fN_addNumber M x = some M' ∧ Dig n M k M' ∧ 1 ≤ k ∧ k ≤ 4 ∧ (x ≤ 99 → M' 84 n = 48 + (if 9 < x then x / 10 else x)) := by
  have st : ∀ (p : Int) (k : Nat) (M1 : MemG), Dig n M k M1 → k < 4 → (p = 1000 ∨ p = 100 ∨ p = 10 ∨ p = 1) → ∃ k2 M2, fN_addNumber_l4 x (p, M1) = some (.inl (p / 10, M2)) ∧ Dig n M k2 M2 ∧ k ≤ k2 ∧ k2 ≤ k + 1 ∧ (x < p ∧ p ≠ 1 → k2 = k) ∧ (¬ (x < p ∧ p ≠ 1) → k2 = k + 1) ∧ (0 < k → M2 84 n = M1 84 n) ∧ (k = 0 → ¬ (x < p ∧ p ≠ 1) → M2 84 n = 48 + (x / p) % 10) := by
    intro p k M1 hd hk hp
    have e := dig_step hd (by omega) hx hp
    by_cases c : x < p ∧ p ≠ 1
    · rw [if_pos c] at e
      exact ⟨k, M1, e, hd, by omega, by omega, fun _ => rfl, fun q => absurd c q, fun _ => rfl, fun _ q => absurd c q⟩
    · rw [if_neg c] at e
      have hm1 := Int.emod_nonneg (x / p) (show (10 : Int) ≠ 0 by decide)
      have hm2 := Int.emod_lt_of_pos (x / p) (show (0 : Int) < 10 by decide)
      refine ⟨k + 1, _, e, hd.add (by omega), by omega, by omega, fun q => absurd q c, fun _ => rfl, fun q => ad1_old (by omega), fun q _ => ?_⟩
      subst q
      exact ad1_new
  obtain ⟨k1, M1, e1, d1, a1, b1, p1, q1, f1, g1⟩ := st 1000 0 M (Dig.rf hn) (by decide) (by omega)
  obtain ⟨k2, M2, e2, d2, a2, b2, p2, q2, f2, g2⟩ := st 100 k1 M1 d1 (by omega) (by omega)
  obtain ⟨k3, M3, e3, d3, a3, b3, p3, q3, f3, g3⟩ := st 10 k2 M2 d2 (by omega) (by omega)
  obtain ⟨k4, M4, e4, d4, a4, b4, p4, q4, f4, g4⟩ := st 1 k3 M3 d3 (by omega) (by omega)
  refine ⟨k4, M4, ?_, d4, by omega, by omega, fun h99 => ?_⟩
  · rw [show (1000 : Int) / 10 = 100 by decide] at e1
    rw [show (100 : Int) / 10 = 10 by decide] at e2
    rw [show (10 : Int) / 10 = 1 by decide] at e3
    rw [show (1 : Int) / 10 = 0 by decide] at e4
    have e5 : fN_addNumber_l4 x (0, M4) = some (.inr M4) := by
      unfold fN_addNumber_l4
      rw [if_pos (show (0 : Int) < 1 by decide)]
    have hN : ∀ m : Nat, loopN (fN_addNumber_l4 x) (m + 1 + 1 + 1 + 1 + 1) (1000, M) = some M4 := fun m => by rw [loop_st e1, loop_st e2, loop_st e3, loop_st e4, loop_en e5]
    exact hN 195
  · have z1 := p1 ⟨by omega, by decide⟩
    have z2 := p2 ⟨by omega, by decide⟩
    by_cases c : 9 < x
    · have z3 := g3 (by omega) (by omega)
      rw [if_pos c, f4 (by omega), z3]
      omega
    · have z3 := p3 ⟨by omega, by decide⟩
      rw [if_neg c, g4 (by omega) (by omega)]
      omega
end LINE
