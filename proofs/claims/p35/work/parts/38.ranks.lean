/-! ranks, the tightest rung, the common age, the sound share -/
section RANKS
variable {M : MemG} {T B e : Int}
theorem s_isAhead {k a b : Nat} (hk : k < 11) : fW_isAhead M k (a : Int) (b : Int) = if ahd (wal M k) a b then 1 else 0 := by
  unfold fW_isAhead
  rw [rW_ageIn hk, rdw_n, rW_ageIn hk, rdw_n, rW_sacksIn hk, rdw_n, rW_sacksIn hk, rdw_n]
  by_cases c1 : wal M k 2 a = wal M k 2 b
  · rw [if_pos c1]
    by_cases c2 : wal M k 1 a = wal M k 1 b
    · rw [if_pos c2]
      by_cases c3 : a < b
      · rw [if_pos (by omega), if_pos (by unfold ahd; omega)]
      · rw [if_neg (by omega), if_neg (by unfold ahd; omega)]
    · rw [if_neg c2]
      by_cases c3 : wal M k 1 b < wal M k 1 a
      · rw [if_pos c3, if_pos (by unfold ahd; omega)]
      · rw [if_neg c3, if_neg (by unfold ahd; omega)]
  · rw [if_neg c1]
    by_cases c3 : wal M k 2 b < wal M k 2 a
    · rw [if_pos c3, if_pos (by unfold ahd; omega)]
    · rw [if_neg c3, if_neg (by unfold ahd; omega)]
theorem s_placeOf {b : Nat} : fW_placeOf M 0 (b : Int) = some ((plc (wal M 0) b : Nat) : Int) := by
  unfold fW_placeOf
  refine loop_c (fun i : Nat => (((cnt (fun a => fil (wal M 0) a && decide (ahd (wal M 0) a b)) i : Nat) : Int), (i : Int))) 32 rfl (by decide) ?_ ?_
  · intro i hi
    have hle := cnt_le (fun a => fil (wal M 0) a && decide (ahd (wal M 0) a b)) i
    unfold fW_placeOf_l4 fW_placeOf_j30
    dsimp only
    rw [if_pos (by omega), rW_isEmpty (by decide), rdw_n, s_isAhead (by decide), gd_ok (by omega)]
    have e0 : (fil (wal M 0) i && decide (ahd (wal M 0) i b)) = false → cnt (fun a => fil (wal M 0) a && decide (ahd (wal M 0) a b)) (i + 1) = cnt (fun a => fil (wal M 0) a && decide (ahd (wal M 0) a b)) i := by
      intro hz
      show cnt (fun a => fil (wal M 0) a && decide (ahd (wal M 0) a b)) i + (if (fil (wal M 0) i && decide (ahd (wal M 0) i b)) = true then 1 else 0) = _
      rw [hz, if_neg (by decide)]; rfl
    have e1 : (fil (wal M 0) i && decide (ahd (wal M 0) i b)) = true → cnt (fun a => fil (wal M 0) a && decide (ahd (wal M 0) a b)) (i + 1) = cnt (fun a => fil (wal M 0) a && decide (ahd (wal M 0) a b)) i + 1 := by
      intro hz
      show cnt (fun a => fil (wal M 0) a && decide (ahd (wal M 0) a b)) i + (if (fil (wal M 0) i && decide (ahd (wal M 0) i b)) = true then 1 else 0) = _
      rw [hz, if_pos rfl]
    by_cases c1 : wal M 0 1 i = 0
    · have hf : fil (wal M 0) i = false := by simp [fil, c1]
      rw [if_pos c1, if_neg (by decide), e0 (by rw [hf]; rfl)]; rfl
    · rw [if_neg c1, if_pos rfl]
      have hf : fil (wal M 0) i = true := fil_iff.2 c1
      by_cases c2 : ahd (wal M 0) i b
      · rw [if_pos c2, if_neg (by decide), gd_ok (by omega), e1 (by rw [hf, decide_eq_true c2]; rfl)]
        generalize cnt (fun a => fil (wal M 0) a && decide (ahd (wal M 0) a b)) i = z
        have ez : ((z + 1 : Nat) : Int) = (z : Int) + 1 := by omega
        have ei : ((i + 1 : Nat) : Int) = (i : Int) + 1 := by omega
        rw [gd_ok (by omega), ez, ei]
      · rw [if_neg c2, if_pos rfl, e0 (by rw [hf, decide_eq_false c2]; rfl)]; rfl
  · unfold fW_placeOf_l4
    rfl
theorem s_oldest (x : Int) : (fG_oldest M x = some (-11) ∧ ∀ b, b < 32 → wal M 0 1 b ≠ 0 → (plc (wal M 0) b : Int) ≠ x) ∨ ∃ b : Nat, b < 32 ∧ fG_oldest M x = some (b : Int) ∧ wal M 0 1 b ≠ 0 ∧ (plc (wal M 0) b : Int) = x := by
  have hl : ∃ r : Int, loopN (fG_oldest_l2 M x) 200 (0 : Int) = some r ∧ ((r = -11 ∧ ∀ b, b < 32 → wal M 0 1 b ≠ 0 → (plc (wal M 0) b : Int) ≠ x) ∨ ∃ b : Nat, b < 32 ∧ r = (b : Int) ∧ wal M 0 1 b ≠ 0 ∧ (plc (wal M 0) b : Int) = x) := by
    refine loop_inv _ (fun z : Int => ∃ m : Nat, z = m ∧ m ≤ 32 ∧ ∀ b, b < m → wal M 0 1 b ≠ 0 → (plc (wal M 0) b : Int) ≠ x) (fun z => 32 - z.toNat) _ ?_ 200 _ ⟨0, rfl, by decide, fun b hb => absurd hb (Nat.not_lt_zero b)⟩ (by show 32 - 0 < 200; decide)
    rintro z ⟨m, rfl, hm, h⟩
    unfold fG_oldest_l2 fG_oldest_j33
    by_cases c : m < 32
    · rw [if_pos (by omega), rW_isEmpty (by decide), rdw_n, s_placeOf, Option.bind_some, gd_ok (by omega)]
      have nx : (¬ (wal M 0 1 m ≠ 0 ∧ (plc (wal M 0) m : Int) = x)) → ∃ s' : Int, (some (Sum.inl ((m : Int) + 1)) : Option (Int ⊕ Int)) = some (Sum.inl s') ∧ (∃ m' : Nat, s' = (m' : Int) ∧ m' ≤ 32 ∧ ∀ b, b < m' → wal M 0 1 b ≠ 0 → (plc (wal M 0) b : Int) ≠ x) ∧ 32 - s'.toNat < 32 - ((m : Int)).toNat := by
        intro hn
        refine ⟨_, rfl, ⟨m + 1, by omega, by omega, fun b hb hf => ?_⟩, by omega⟩
        by_cases cb : b = m
        · intro q; subst cb; exact hn ⟨hf, q⟩
        · exact h b (by omega) hf
      by_cases c1 : wal M 0 1 m = 0
      · left
        rw [if_pos c1, if_neg (by decide)]
        exact nx (fun q => q.1 c1)
      · rw [if_neg c1, if_pos rfl]
        by_cases c2 : (plc (wal M 0) m : Int) = x
        · right
          rw [if_pos c2]
          exact ⟨_, rfl, Or.inr ⟨m, c, rfl, c1, c2⟩⟩
        · left
          rw [if_neg c2]
          exact nx (fun q => c2 q.2)
    · right
      rw [if_neg (by omega)]
      exact ⟨_, rfl, Or.inl ⟨rfl, fun b hb => h b (by omega)⟩⟩
  obtain ⟨r, e, h | ⟨b, hb, er, h⟩⟩ := hl
  · left
    exact ⟨by unfold fG_oldest; rw [e, h.1], h.2⟩
  · right
    exact ⟨b, hb, by unfold fG_oldest; rw [e, er], h⟩
theorem s_oldest_at {t : Nat} (h : t < nFil (wal M 0)) : ∃ b : Nat, b < 32 ∧ fG_oldest M (t : Int) = some (b : Int) ∧ wal M 0 1 b ≠ 0 ∧ plc (wal M 0) b = t := by
  rcases s_oldest (M := M) (t : Int) with ⟨_, q⟩ | ⟨b, hb, e, f, p⟩
  · obtain ⟨b, hb, f, p⟩ := plc_ex h
    exact absurd (by omega) (q b hb f)
  · exact ⟨b, hb, e, f, by omega⟩
theorem s_oldest_no {x : Int} (h : x < 0 ∨ (nFil (wal M 0) : Int) ≤ x) : fG_oldest M x = some (-11) := by
  rcases s_oldest (M := M) x with ⟨q, _⟩ | ⟨b, hb, e, f, p⟩
  · exact q
  · have := plc_top hb f
    omega
theorem s_rungOf1 {r : Nat} (h0 : 0 < r) (hr : r < 33) : fG_rungOf M (r : Int) 1 = some (wal M 0 3 r) := by
  unfold fG_rungOf
  rw [rung_in h0 hr, if_neg (by decide), if_neg (by decide), if_pos rfl, rW_sumOf (by decide), rdw_n]
theorem s_rungOf2 {r : Nat} (h0 : 0 < r) (hr : r < 33) : fG_rungOf M (r : Int) 2 = some (100 * (sz r : Int)) := by
  unfold fG_rungOf
  rw [rung_in h0 hr, if_neg (by decide), if_neg (by decide), if_neg (by decide), if_pos rfl, s_loadOf0 r hr h0, Option.bind_some]
def free (w : Wl) (r : Nat) : Int := 100 * (sz r : Int) - w 3 r
theorem s_tightest (h : WI T B e (wal M 0)) : ∃ x : Int, fG_tightest M = some x ∧ ((x = -15 ∧ ∀ r, 0 < r → r < 33 → wal M 0 4 r = 1) ∨ ∃ b : Nat, 0 < b ∧ b < 33 ∧ x = b ∧ ∀ r, 0 < r → r < 33 → wal M 0 4 r ≠ 1 → free (wal M 0) b ≤ free (wal M 0) r) := by
  unfold fG_tightest
  refine loop_inv _ (fun z : Int × Int × Int => ∃ m : Nat, z.2.2 = m ∧ 0 < m ∧ m ≤ 33 ∧ ((z.1 = -15 ∧ ∀ r, 0 < r → r < m → wal M 0 4 r = 1) ∨ ∃ b : Nat, 0 < b ∧ b < 33 ∧ z.1 = b ∧ z.2.1 = free (wal M 0) b ∧ ∀ r, 0 < r → r < m → wal M 0 4 r ≠ 1 → free (wal M 0) b ≤ free (wal M 0) r)) (fun z => 33 - z.2.2.toNat) _ ?_ 200 _ ⟨1, rfl, by decide, by decide, Or.inl ⟨rfl, fun r h0 hr => by omega⟩⟩ (by show 33 - 1 < 200; decide)
  rintro ⟨z1, z2, z3⟩ ⟨m, em, m0, m33, hz⟩
  replace em : z3 = (m : Int) := em
  subst em
  replace hz : (z1 = -15 ∧ ∀ r, 0 < r → r < m → wal M 0 4 r = 1) ∨ ∃ b : Nat, 0 < b ∧ b < 33 ∧ z1 = b ∧ z2 = free (wal M 0) b ∧ ∀ r, 0 < r → r < m → wal M 0 4 r ≠ 1 → free (wal M 0) b ≤ free (wal M 0) r := hz
  unfold fG_tightest_l7 fG_tightest_j51 fG_tightest_j56
  dsimp only
  by_cases c : m < 33
  · left
    have hs := h.sum m0 c
    have hz2 := sz_pos m
    rw [if_neg (by omega), s_loadOf0 m c m0, Option.bind_some, rW_sumOf (by decide), rdw_n, gd_ok (by omega), rW_isCracked (by decide), rdw_n]
    have mu : 33 - (((m : Nat) : Int) + 1).toNat < 33 - (((m : Nat) : Int)).toNat := by omega
    have new : ∀ (hx : ∀ r, 0 < r → r < m → wal M 0 4 r ≠ 1 → free (wal M 0) m ≤ free (wal M 0) r), ∃ s' : Int × Int × Int, (some (Sum.inl ((m : Int), 100 * (sz m : Int) - wal M 0 3 m, (m : Int) + 1)) : Option ((Int × Int × Int) ⊕ Int)) = some (Sum.inl s') ∧ (∃ m' : Nat, s'.2.2 = m' ∧ 0 < m' ∧ m' ≤ 33 ∧ ((s'.1 = -15 ∧ ∀ r, 0 < r → r < m' → wal M 0 4 r = 1) ∨ ∃ b : Nat, 0 < b ∧ b < 33 ∧ s'.1 = b ∧ s'.2.1 = free (wal M 0) b ∧ ∀ r, 0 < r → r < m' → wal M 0 4 r ≠ 1 → free (wal M 0) b ≤ free (wal M 0) r)) ∧ 33 - s'.2.2.toNat < 33 - (((m : Nat) : Int)).toNat := by
      intro hx
      refine ⟨_, rfl, ⟨m + 1, by show (m : Int) + 1 = _; omega, by omega, by omega, Or.inr ⟨m, m0, c, rfl, rfl, fun r q1 q2 q3 => ?_⟩⟩, mu⟩
      by_cases cr : r = m
      · rw [cr]; omega
      · exact hx r q1 (by omega) q3
    have old : (wal M 0 4 m = 1 ∨ (z1 ≠ -15 ∧ z2 ≤ 100 * (sz m : Int) - wal M 0 3 m)) → ∃ s' : Int × Int × Int, (some (Sum.inl (z1, z2, (m : Int) + 1)) : Option ((Int × Int × Int) ⊕ Int)) = some (Sum.inl s') ∧ (∃ m' : Nat, s'.2.2 = m' ∧ 0 < m' ∧ m' ≤ 33 ∧ ((s'.1 = -15 ∧ ∀ r, 0 < r → r < m' → wal M 0 4 r = 1) ∨ ∃ b : Nat, 0 < b ∧ b < 33 ∧ s'.1 = b ∧ s'.2.1 = free (wal M 0) b ∧ ∀ r, 0 < r → r < m' → wal M 0 4 r ≠ 1 → free (wal M 0) b ≤ free (wal M 0) r)) ∧ 33 - s'.2.2.toNat < 33 - (((m : Nat) : Int)).toNat := by
      intro hx
      refine ⟨_, rfl, ⟨m + 1, by show (m : Int) + 1 = _; omega, by omega, by omega, ?_⟩, mu⟩
      rcases hz with ⟨q, hz⟩ | ⟨b, b0, b33, q, q2, hz⟩
      · left
        refine ⟨q, fun r q1 q2 => ?_⟩
        by_cases cr : r = m
        · rw [cr]
          rcases hx with hx | hx
          · exact hx
          · exact absurd q hx.1
        · exact hz r q1 (by omega)
      · right
        refine ⟨b, b0, b33, q, q2, fun r r0 r1 r2 => ?_⟩
        by_cases cr : r = m
        · rw [cr] at r2 ⊢
          rcases hx with hx | hx
          · exact absurd hx r2
          · rw [← q2]; exact hx.2
        · exact hz r r0 (by omega) r2
    by_cases c1 : wal M 0 4 m = 1
    · rw [if_pos c1, if_neg (by decide), gd_ok (by omega)]
      exact old (Or.inl c1)
    · rw [if_neg c1, if_pos rfl]
      by_cases c2 : z1 = -15
      · rw [if_pos c2, gd_ok (by omega)]
        refine new (fun r q1 q2 q3 => ?_)
        rcases hz with ⟨_, hz⟩ | ⟨b, _, _, q, _⟩
        · exact absurd (hz r q1 q2) q3
        · omega
      · rw [if_neg c2]
        by_cases c3 : 100 * (sz m : Int) - wal M 0 3 m < z2
        · rw [if_pos c3, gd_ok (by omega)]
          refine new (fun r q1 q2 q3 => ?_)
          rcases hz with ⟨q, _⟩ | ⟨b, _, _, _, q4, hz⟩
          · exact absurd q c2
          · have := hz r q1 q2 q3
            rw [← q4] at this
            unfold free at this ⊢
            omega
        · rw [if_neg c3, gd_ok (by omega)]
          exact old (Or.inr ⟨c2, by omega⟩)
  · right
    rw [if_pos (by omega)]
    have : m = 33 := by omega
    subst this
    refine ⟨_, rfl, ?_⟩
    rcases hz with hz | ⟨b, b0, b33, q, _, hz⟩
    · exact Or.inl hz
    · exact Or.inr ⟨b, b0, b33, q, hz⟩
end RANKS
