/-! bays are reached, the ladder is balanced -/
section REACHED
variable {M : MemG} {T B e : Int}
theorem s_areReached (h : WI T B e (wal M 0)) : fL_areReached M = some 1 := by
  have a3 := s_account (M := M) h.few (i := 3) (by decide)
  rw [show acc (wal M 0) 3 = psum (wal M 0 1) 32 from rfl, show ((3 : Nat) : Int) = 3 from rfl] at a3
  have hp := few_psum h.few (n := 32) (by decide)
  have hm := fun (a b : Nat) (h1 : a ≤ b) (h2 : b ≤ 32) => psum_mono (f := wal M 0 1) 32 (fun i hi => (h.few i hi).1) (a := a) (b := b) h1 h2
  obtain ⟨p, hp32, r1, r2, l1, u1⟩ := s_reach h (x := psum (wal M 0 1) 32 + 1) (by omega)
  have : p = 32 := by
    apply Classical.byContradiction
    intro q
    have := u1 (by omega)
    have := hm (p + 1) 32 (by omega) (by decide)
    omega
  subst this
  rw [if_neg (by decide)] at r1 r2
  unfold fL_areReached
  rw [a3, Option.bind_some, gd_ok (by omega), r1, Option.bind_some, if_pos rfl, gd_ok (by omega), r2, Option.bind_some, if_pos rfl]
  unfold fL_areReached_j35
  have hl : ∃ r : Int, loopN (fL_areReached_l38 M (psum (wal M 0 1) 32)) 200 ((1 : Int), (1 : Int)) = some r ∧ r = 1 := by
    refine loop_inv _ (fun z : Int × Int => z.1 = 1 ∧ ∃ m : Nat, z.2 = m ∧ 1 ≤ m) (fun z => 20 - z.2.toNat) _ ?_ 200 _ ⟨rfl, 1, rfl, by decide⟩ (by show 20 - 1 < 200; decide)
    rintro ⟨z1, z2⟩ ⟨e1, m, em, m1⟩
    replace em : z2 = (m : Int) := em
    replace e1 : z1 = 1 := e1
    subst em
    subst e1
    unfold fL_areReached_l38
    dsimp only
    rw [if_neg (by decide), gz_ok (Or.inr rfl)]
    by_cases c : m < 9
    · rw [if_pos (by omega)]
      by_cases c0 : 0 < psum (wal M 0 1) 32
      · left
        rw [if_pos c0]
        generalize hall : psum (wal M 0 1) 32 = all at *
        have hmul : 0 ≤ (all - 1) * (m : Int) ∧ (all - 1) * (m : Int) ≤ (all - 1) * 8 := ⟨Int.mul_nonneg (by omega) (by omega), Int.mul_le_mul_of_nonneg_left (by omega) (by omega)⟩
        generalize (all - 1) * (m : Int) = y at *
        have goal : ∃ s' : Int × Int, (some (Sum.inl ((1 : Int), (m : Int) + 1)) : Option ((Int × Int) ⊕ Int)) = some (Sum.inl s') ∧ (s'.1 = 1 ∧ ∃ m' : Nat, s'.2 = m' ∧ 1 ≤ m') ∧ 20 - s'.2.toNat < 20 - (((m : Nat) : Int)).toNat := ⟨_, rfl, ⟨rfl, m + 1, by show (m : Int) + 1 = _; omega, by omega⟩, by show 20 - ((m : Int) + 1).toNat < _; omega⟩
        obtain ⟨q, hq32, q1, q2, ql, qu⟩ := s_reach h (x := 1 + y / 8) (by omega)
        have hq : q < 32 := by
          apply Classical.byContradiction
          intro n
          have : q = 32 := by omega
          subst this
          omega
        rw [if_pos hq] at q1 q2
        have hx := qu hq
        have hs := s_sum h (a := 0) hq (Nat.zero_le q)
        have p0 : psum (wal M 0 1) 0 = 0 := rfl
        rw [show ((0 : Nat) : Int) = 0 from rfl] at hs
        unfold fL_areReached_j119
        rw [gd_ok (by omega), gq_ok (by omega), gd_ok (by omega), q1, Option.bind_some, q2, Option.bind_some, if_pos rfl, hs, Option.bind_some, if_neg (by omega), gd_ok (by omega), gd_ok (by omega)]
        by_cases cq : q = 0
        · rw [if_pos (by omega)]; exact goal
        · have hs2 := s_sum h (a := 0) (b := q - 1) (by omega) (Nat.zero_le _)
          rw [show ((0 : Nat) : Int) = 0 from rfl, show ((q - 1 : Nat) : Int) = (q : Int) - 1 by omega, show q - 1 + 1 = q by omega] at hs2
          rw [if_neg (by omega), gd_ok (by omega), hs2, Option.bind_some, if_pos (by omega)]; exact goal
      · right
        rw [if_neg c0]
        exact ⟨_, rfl, rfl⟩
    · right
      rw [if_neg (by omega)]
      exact ⟨_, rfl, rfl⟩
  obtain ⟨r, er, hr⟩ := hl
  rw [er, hr]
theorem s_isBalanced (h : WI T B 0 (wal M 0)) (hB : B ≤ 400000000) : fG_isBalanced M = some 1 := by
  have hl : loopN (fG_isBalanced_l2 M) 200 1 = some (.inl ()) := by
    refine loop_c (fun i : Nat => ((i + 1 : Nat) : Int)) 32 rfl (by decide) ?_ ?_
    · intro i hi
      have hs := h.s (i + 1) (by omega) (by omega)
      have hz := sz_pos (i + 1)
      have hz2 := sz_le (i + 1) (by omega) (by omega)
      have hb := s_sumByBays (M := M) (k := 0) (by decide) h.few (a := i + 1 - sz (i + 1)) (b := i) (by omega) (by omega)
      unfold fG_isBalanced_l2
      rw [if_neg (by omega), s_firstBay0 (i + 1) (by omega) (by omega), Option.bind_some, gd_ok (by omega), show ((i + 1 : Nat) : Int) - 1 = (i : Int) by omega, hb, Option.bind_some, rW_sumOf (by decide), rdw_n, if_pos hs, gd_ok (by omega)]
      rfl
    · unfold fG_isBalanced_l2
      rfl
  have k8 := h.k 8 (by decide)
  have k9 := h.k 9 (by decide)
  have k10 := h.k 10 (by decide)
  have k11 := h.k 11 (by decide)
  have hbal := h.l
  have hc : ∀ i : Nat, fW_counted M 0 (i : Int) = wal M 0 5 i := fun i => by rw [rW_counted (by decide), rdw_n]
  have c8 := hc 8
  have c9 := hc 9
  have c10 := hc 10
  have c11 := hc 11
  unfold balOK at hbal
  unfold fG_isBalanced
  rw [hl, Option.bind_some]
  dsimp only
  rw [show (8 : Int) = ((8 : Nat) : Int) from rfl, show (9 : Int) = ((9 : Nat) : Int) from rfl, show (10 : Int) = ((10 : Nat) : Int) from rfl, show (11 : Int) = ((11 : Nat) : Int) from rfl, c8, c9, c10, c11, gd_ok (by omega), s_allSacks (by decide) h.few, Option.bind_some, gd_ok (by omega), if_pos (by omega)]
end REACHED
