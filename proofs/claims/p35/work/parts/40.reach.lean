/-! sums by climbing, bays that are reached -/
theorem sz_mid : ∀ j : Nat, j < 6 → ∀ p : Nat, p < 33 → p % (2 * 2 ^ j) = 0 → p + 2 ^ j ≤ 32 → sz (p + 2 ^ j) = 2 ^ j := by decide +kernel
section REACH
variable {M : MemG} {T B e : Int}
theorem s_climb (h : WI T B e (wal M 0)) {b : Nat} (hb : b ≤ 32) {x : Int} (hx : x = (b : Int) - 1) : fW_sumByClimbing M 0 x = some (psum (wal M 0 1) b) := by
  unfold fW_sumByClimbing
  rw [gd_ok (by omega)]
  have hl : ∃ r : Int, loopN (fW_sumByClimbing_l9 M 0) 200 ((0 : Int), x + 1, (0 : Int)) = some r ∧ r = psum (wal M 0 1) b := by
    refine loop_inv _ (fun z : Int × Int × Int => ∃ r i : Nat, z.2.1 = r ∧ z.2.2 = i ∧ r + i ≤ b ∧ z.1 = psum (wal M 0 1) b - psum (wal M 0 1) r) (fun z => 40 - z.2.2.toNat) _ ?_ 200 _ ⟨b, 0, by show x + 1 = _; omega, rfl, by omega, by show (0 : Int) = _; omega⟩ (by show 40 - 0 < 200; decide)
    rintro ⟨z1, z2, z3⟩ ⟨r, i, e1, e2, hri, e3⟩
    replace e1 : z2 = (r : Int) := e1
    replace e2 : z3 = (i : Int) := e2
    replace e3 : z1 = psum (wal M 0 1) b - psum (wal M 0 1) r := e3
    subst e1
    subst e2
    unfold fW_sumByClimbing_l9
    dsimp only
    have p0 : psum (wal M 0 1) 0 = 0 := rfl
    by_cases c : 0 < r
    · left
      have hs := h.s r c (by omega)
      have hz := sz_pos r
      have hz2 := sz_le r (by omega) c
      have k1 := few_psum h.few (n := b) hb
      have k2 := few_psum h.few (n := r - sz r) (by omega)
      have k3 := few_psum h.few (n := r) (by omega)
      have k4 := h.sum c (by omega)
      rw [if_pos (by omega), if_pos (by omega), rW_sumOf (by decide), rdw_n, gd_ok (by omega), size_ok r (by omega) c (by omega), gd_ok (by omega), gd_ok (by omega)]
      refine ⟨_, rfl, ⟨r - sz r, i + 1, by show (r : Int) - (sz r : Int) = _; omega, by show (i : Int) + 1 = _; omega, by omega, by show z1 + wal M 0 3 r = _; omega⟩, by show 40 - ((i : Int) + 1).toNat < 40 - ((i : Int)).toNat; omega⟩
    · right
      have : r = 0 := by omega
      subst this
      split
      · rw [if_neg (by omega)]
        exact ⟨_, rfl, by omega⟩
      · exact ⟨_, rfl, by omega⟩
  obtain ⟨r, er, hr⟩ := hl
  rw [er, hr]
theorem s_sum (h : WI T B e (wal M 0)) {a b : Nat} (hb : b < 32) (hab : a ≤ b) : fG_sum M (a : Int) (b : Int) = some (psum (wal M 0 1) (b + 1) - psum (wal M 0 1) a) := by
  have k1 := few_psum h.few (n := b + 1) (by omega)
  have k2 := few_psum h.few (n := a) (by omega)
  unfold fG_sum
  rw [bay_in (b := a) (by omega), if_neg (by decide), bay_in hb, if_neg (by decide), if_neg (by omega), s_climb h (b := b + 1) (by omega) (by omega), Option.bind_some, gd_ok (by omega), s_climb h (b := a) (by omega) (by omega), Option.bind_some, gd_ok (by omega)]
theorem s_sumAgain (h : WI T B e (wal M 0)) {a b : Nat} (hb : b < 32) (hab : a ≤ b) : fG_sumAgain M (a : Int) (b : Int) = some (psum (wal M 0 1) (b + 1) - psum (wal M 0 1) a) := by
  unfold fG_sumAgain
  rw [bay_in (b := a) (by omega), if_neg (by decide), bay_in hb, if_neg (by decide), if_neg (by omega), s_sumByBays (by decide) h.few hb (by omega), Option.bind_some]
theorem s_reach1 (h : WI T B e (wal M 0)) {x : Int} (hx : 1 ≤ x ∧ x ≤ 9999) : ∃ p : Nat, p ≤ 32 ∧ fG_reach M x = some (if p < 32 then (p : Int) else -15) ∧ psum (wal M 0 1) p < x ∧ (p < 32 → x ≤ psum (wal M 0 1) (p + 1)) := by
  have hl : ∃ r : Int, loopN (fG_reach_l22 M) 200 ((0 : Int), x, (32 : Int)) = some r ∧ ∃ p : Nat, r = p ∧ p ≤ 32 ∧ psum (wal M 0 1) p < x ∧ (32 < p + 1 ∨ x ≤ psum (wal M 0 1) (p + 1)) := by
    refine loop_inv _ (fun z : Int × Int × Int => ∃ p u : Nat, z.1 = p ∧ z.2.2 = ((u / 2 : Nat) : Int) ∧ (u = 1 ∨ ∃ j : Nat, j < 6 ∧ u = 2 * 2 ^ j) ∧ p % u = 0 ∧ p ≤ 32 ∧ z.2.1 = x - psum (wal M 0 1) p ∧ psum (wal M 0 1) p < x ∧ (32 < p + u ∨ x ≤ psum (wal M 0 1) (p + u))) (fun z => z.2.2.toNat) _ ?_ 200 _ ⟨0, 64, rfl, rfl, Or.inr ⟨5, by decide, rfl⟩, rfl, by decide, by show x = _ - (0 : Int); omega, by show (0 : Int) < x; omega, Or.inl (by decide)⟩ (by show 32 < 200; decide)
    rintro ⟨z1, z2, z3⟩ ⟨p, u, e1, e2, hu, hpu, hp, e3, hlt, hup⟩
    replace e1 : z1 = (p : Int) := e1
    replace e2 : z3 = ((u / 2 : Nat) : Int) := e2
    replace e3 : z2 = x - psum (wal M 0 1) p := e3
    subst e1
    subst e2
    unfold fG_reach_l22 fG_reach_j69
    dsimp only
    rcases hu with rfl | ⟨j, hj, hu⟩
    · right
      rw [if_pos (by decide)]
      exact ⟨_, rfl, p, rfl, hp, hlt, hup⟩
    · left
      have hs : u / 2 = 2 ^ j := by omega
      have hpos : 0 < 2 ^ j := Nat.pow_pos (by decide)
      have h32 : 2 ^ j ≤ 32 := by
        have : j = 0 ∨ j = 1 ∨ j = 2 ∨ j = 3 ∨ j = 4 ∨ j = 5 := by omega
        rcases this with rfl | rfl | rfl | rfl | rfl | rfl <;> decide
      have hnx : 2 ^ j = 1 ∨ ∃ j2 : Nat, j2 < 6 ∧ 2 ^ j = 2 * 2 ^ j2 := by
        cases j with
        | zero => exact Or.inl rfl
        | succ j => exact Or.inr ⟨j, by omega, by rw [Nat.pow_succ]; omega⟩
      have hmod : p % 2 ^ j = 0 := by
        have h1 : u ∣ p := Nat.dvd_of_mod_eq_zero hpu
        have h2 : 2 ^ j ∣ u := ⟨2, by omega⟩
        exact Nat.mod_eq_zero_of_dvd (Nat.dvd_trans h2 h1)
      have hmod2 : (p + 2 ^ j) % 2 ^ j = 0 := by rw [Nat.add_mod_right]; exact hmod
      rw [hs]
      have hsz := fun q => sz_mid j hj p (by omega) (by rw [← hu]; exact hpu) q
      rw [hu] at hup
      generalize 2 ^ j = s at *
      have hdiv : (s : Int) / 2 = ((s / 2 : Nat) : Int) := rfl
      have mu : ((s : Int) / 2).toNat < ((s : Int)).toNat := by omega
      rw [if_neg (by omega), gd_ok (by omega)]
      by_cases c1 : 32 < p + s
      · rw [if_pos (by omega), gq_ok (by omega)]
        exact ⟨_, rfl, ⟨p, s, rfl, hdiv, hnx, hmod, hp, e3, hlt, Or.inl c1⟩, mu⟩
      · have hw := h.s (p + s) (by omega) (by omega)
        have hz := hsz (by omega)
        rw [hz, Nat.add_sub_cancel] at hw
        have k1 := few_psum h.few (n := p + s) (by omega)
        have k2 := few_psum h.few (n := p) (by omega)
        rw [if_neg (by omega), rW_sumOf (by decide), show (p : Int) + (s : Int) = ((p + s : Nat) : Int) by omega, rdw_n]
        by_cases c2 : wal M 0 3 (p + s) < z2
        · rw [if_pos c2, gd_ok (by omega), gq_ok (by omega)]
          refine ⟨_, rfl, ⟨p + s, s, rfl, hdiv, hnx, hmod2, by omega, by show z2 - wal M 0 3 (p + s) = _; omega, by omega, ?_⟩, mu⟩
          rw [show p + s + s = p + 2 * s by omega]; exact hup
        · rw [if_neg c2, gq_ok (by omega)]
          exact ⟨_, rfl, ⟨p, s, rfl, hdiv, hnx, hmod, hp, e3, hlt, Or.inr (by omega)⟩, mu⟩
  obtain ⟨r, er, p, rfl, hp, h1, h2⟩ := hl
  refine ⟨p, hp, ?_, h1, fun q => by omega⟩
  unfold fG_reach
  rw [within_in hx, if_neg (by decide), er, Option.bind_some]
  by_cases c : p < 32
  · rw [if_pos (by omega), if_pos c]
  · rw [if_neg (by omega), if_neg c]
theorem s_reach2 (h : WI T B e (wal M 0)) {x : Int} (hx : 1 ≤ x ∧ x ≤ 9999) : ∃ p : Nat, p ≤ 32 ∧ fG_reachAgain M x = some (if p < 32 then (p : Int) else -15) ∧ psum (wal M 0 1) p < x ∧ (p < 32 → x ≤ psum (wal M 0 1) (p + 1)) := by
  have hl : ∃ r : Int, loopN (fG_reachAgain_l18 M x) 200 ((0 : Int), (0 : Int)) = some r ∧ ∃ p : Nat, r = (if p < 32 then (p : Int) else -15) ∧ p ≤ 32 ∧ psum (wal M 0 1) p < x ∧ (p < 32 → x ≤ psum (wal M 0 1) (p + 1)) := by
    refine loop_inv _ (fun z : Int × Int => ∃ m : Nat, z.2 = m ∧ m ≤ 32 ∧ z.1 = psum (wal M 0 1) m ∧ psum (wal M 0 1) m < x) (fun z => 32 - z.2.toNat) _ ?_ 200 _ ⟨0, rfl, by decide, rfl, by show (0 : Int) < x; omega⟩ (by show 32 - 0 < 200; decide)
    rintro ⟨z1, z2⟩ ⟨m, em, hm, e1, hlt⟩
    replace em : z2 = (m : Int) := em
    replace e1 : z1 = psum (wal M 0 1) m := e1
    subst em
    subst e1
    unfold fG_reachAgain_l18
    dsimp only
    by_cases c : m < 32
    · have k1 := few_psum h.few (n := m + 1) (by omega)
      have ep : psum (wal M 0 1) (m + 1) = psum (wal M 0 1) m + wal M 0 1 m := rfl
      rw [if_pos (by omega), rW_sacksIn (by decide), rdw_n, gd_ok (by omega)]
      by_cases c2 : psum (wal M 0 1) m + wal M 0 1 m < x
      · left
        rw [if_pos c2, gd_ok (by omega)]
        exact ⟨_, rfl, ⟨m + 1, by show (m : Int) + 1 = _; omega, by omega, ep.symm, by omega⟩, by show 32 - ((m : Int) + 1).toNat < 32 - ((m : Int)).toNat; omega⟩
      · right
        rw [if_neg c2]
        exact ⟨_, rfl, m, by rw [if_pos c], hm, hlt, fun _ => by omega⟩
    · right
      rw [if_neg (by omega)]
      exact ⟨_, rfl, m, by rw [if_neg c], hm, hlt, fun q => absurd q c⟩
  obtain ⟨r, er, p, e2, hp, h1, h2⟩ := hl
  refine ⟨p, hp, ?_, h1, h2⟩
  unfold fG_reachAgain
  rw [within_in hx, if_neg (by decide), er, e2]
theorem s_reach (h : WI T B e (wal M 0)) {x : Int} (hx : 1 ≤ x ∧ x ≤ 9999) : ∃ p : Nat, p ≤ 32 ∧ fG_reach M x = some (if p < 32 then (p : Int) else -15) ∧ fG_reachAgain M x = some (if p < 32 then (p : Int) else -15) ∧ psum (wal M 0 1) p < x ∧ (p < 32 → x ≤ psum (wal M 0 1) (p + 1)) := by
  obtain ⟨p, hp, e1, l1, u1⟩ := s_reach1 h hx
  obtain ⟨q, hq, e2, l2, u2⟩ := s_reach2 h hx
  have hm := fun (a b : Nat) (h1 : a ≤ b) (h2 : b ≤ 32) => psum_mono (f := wal M 0 1) 32 (fun i hi => (h.few i hi).1) (a := a) (b := b) h1 h2
  have : p = q := by
    rcases Nat.lt_trichotomy p q with c | c | c
    · have := hm (p + 1) q (by omega) hq
      have := u1 (by omega)
      omega
    · exact c
    · have := hm (q + 1) p (by omega) hp
      have := u2 (by omega)
      omega
  subst this
  exact ⟨p, hp, e1, e2, l1, u1⟩
end REACH
