/-! every bay is told right -/
section ISBAY
variable {M : MemG} {T B : Int}
theorem s_bayOf4 {b : Nat} (hb : b < 32) : fG_bayOf M (b : Int) 4 = some (cnt (fun r => ovr (r + 1) b) 32 : Nat) := by
  unfold fG_bayOf
  rw [bay_in hb, if_neg (by decide), if_neg (by decide), if_neg (by decide), if_neg (by decide), if_neg (by decide), if_pos rfl, s_rungsOver hb]
  rfl
theorem s_bayOf5 {b : Nat} (hb : b < 32) : fG_bayOf M (b : Int) 5 = some (psum (gC (wal M 0) b) 32) := by
  unfold fG_bayOf
  rw [bay_in hb, if_neg (by decide), if_neg (by decide), if_neg (by decide), if_neg (by decide), if_neg (by decide), if_neg (by decide), if_pos rfl, s_crackedOver hb, Option.bind_some]
theorem s_rungOf0 {r : Nat} (h0 : 0 < r) (hr : r < 33) : fG_rungOf M (r : Int) 0 = some (sz r : Int) := by
  unfold fG_rungOf
  rw [rung_in h0 hr, if_neg (by decide), if_pos rfl, size_ok r (by omega) h0 (by omega)]
theorem s_rungOf4 {r : Nat} (h0 : 0 < r) (hr : r < 33) : fG_rungOf M (r : Int) 4 = some ((r - sz r : Nat) : Int) := by
  unfold fG_rungOf
  rw [rung_in h0 hr, if_neg (by decide), if_neg (by decide), if_neg (by decide), if_neg (by decide), if_neg (by decide), if_pos rfl, s_firstBay0 r hr h0, Option.bind_some]
theorem s_rungOf5 {r : Nat} (h0 : 0 < r) (hr : r < 33) : fG_rungOf M (r : Int) 5 = fG_rungsBelow (r : Int) := by
  unfold fG_rungOf
  rw [rung_in h0 hr, if_neg (by decide), if_neg (by decide), if_neg (by decide), if_neg (by decide), if_neg (by decide), if_neg (by decide), if_pos rfl]
  cases fG_rungsBelow (r : Int) <;> rfl
theorem s_over {b : Nat} (hb : b < 32) (x3 x6 : Int) : loopN (fL_isBay_l127 M (b : Int) x3 x6) 200 (0, 0, 1) = some (((cnt (fun r => ovr (r + 1) b) 32 : Nat) : Int), psum (gC (wal M 0) b) 32) := by
  refine loop_c (fun i : Nat => (((cnt (fun r => ovr (r + 1) b) i : Nat) : Int), psum (gC (wal M 0) b) i, ((i + 1 : Nat) : Int))) 32 rfl (by decide) ?_ ?_
  · intro i hi
    have hle := gC_le (wal M 0) b i
    have hlt := gO_lt b hb i hi
    have hc := cnt_le (fun r => ovr (r + 1) b) i
    have hz := sz_pos (i + 1)
    have hps : psum (gC (wal M 0) b) (i + 1) = psum (gC (wal M 0) b) i + gC (wal M 0) b i := rfl
    have hcs : cnt (fun r => ovr (r + 1) b) (i + 1) = cnt (fun r => ovr (r + 1) b) i + (if ovr (i + 1) b = true then 1 else 0) := rfl
    rw [hps, hcs]
    unfold fL_isBay_l127 fL_isBay_j182 fL_isBay_j185
    dsimp only
    rw [if_pos (by omega), s_rungOf0 (by omega) (by omega), Option.bind_some, s_rungOf4 (by omega) (by omega), Option.bind_some, gd_ok (x := ((i + 1 : Nat) : Int) + 1) (by omega), gd_ok (x := ((i + 1 : Nat) : Int) + 1) (by omega), gd_ok (x := ((i + 1 : Nat) : Int) + 1) (by omega), s_rungOf3 (by omega) (by omega), Option.bind_some]
    have hg : gC (wal M 0) b i = if ovr (i + 1) b = true ∧ wal M 0 4 (i + 1) = 1 then (sz (i + 1) : Int) else 0 := rfl
    rw [hg]
    by_cases c1 : b < i + 1 - sz (i + 1)
    · have ho : ¬ ovr (i + 1) b = true := fun q => by have := (ovr_iff _ _).1 q; omega
      rw [if_pos (by omega), if_neg ho, if_neg (fun q => ho q.1)]
      exact inl3 (by omega) (by omega) (by omega)
    · rw [if_neg (by omega)]
      by_cases c2 : b < i + 1
      · have ho : ovr (i + 1) b = true := (ovr_iff _ _).2 ⟨by omega, c2⟩
        have hlt2 := hlt ho
        obtain ⟨a, ha⟩ : ∃ a : Nat, psum (gC (wal M 0) b) i = (a : Int) := ⟨(psum (gC (wal M 0) b) i).toNat, by omega⟩
        obtain ⟨k, hk, hsz⟩ := sz_pow (i + 1) (by omega)
        rw [if_pos (by omega), gd_ok (by omega), if_pos ho, ha]
        by_cases c3 : wal M 0 4 (i + 1) = 1
        · have ho2 := or_pow k hk a (by omega)
          rw [← hsz] at ho2
          rw [if_pos c3, if_pos rfl, if_pos ⟨ho, c3⟩, ho2]
          exact inl3 (by omega) rfl (by omega)
        · have ho2 := or_zero a (by omega)
          rw [if_neg c3, if_neg (by decide), if_neg (fun q => c3 q.2), ho2]
          exact inl3 (by omega) (by omega) (by omega)
      · have ho : ¬ ovr (i + 1) b = true := fun q => by have := (ovr_iff _ _).1 q; omega
        rw [if_neg (by omega), if_neg ho, if_neg (fun q => ho q.1)]
        exact inl3 (by omega) (by omega) (by omega)
  · unfold fL_isBay_l127
    rfl
theorem keeps_eq (x : Int) (h : 0 ≤ x ∧ x ≤ 3) : fL_keeps x = tabS 86 x.toNat := by
  have : x = 0 ∨ x = 1 ∨ x = 2 ∨ x = 3 := by omega
  rcases this with rfl | rfl | rfl | rfl <;> decide
theorem s_bay116 (h : WI T B 0 (wal M 0)) {b : Nat} (hb : b < 32) : ∃ M', fL_isBay_j116 M (b : Int) (wal M 0 1 b) 1 = some (M', 1) ∧ ∀ a, a ≠ 85 → M' a = M a := by
  obtain ⟨M', e, hf⟩ := s_stepsAgain (M := M) hb
  have hw : wal M' 0 = wal M 0 := wal_eq (fun a q => hf a (by omega)) (by decide)
  have hmono := chn_mono (f := fun _ => 1) (g := stpT (wal M 0)) (en := 0) (top := b + 1) (fun s h1 h2 => (chn_T (wal M 0) (t := b + 1) (by omega) s h1 h2).1) 32 (b + 1) (Nat.le_refl _)
  have hst := s_steps (M := M') hb
  have h' : WI T B 0 (wal M' 0) := by rw [hw]; exact h
  have a1 := s_sum h' (a := 0) hb (Nat.zero_le b)
  have a2 := s_sumAgain h' (a := 0) hb (Nat.zero_le b)
  have a3 := s_sum h' (a := b) hb (Nat.le_refl b)
  have a4 := s_sum h' (a := b) (b := 31) (by decide) (by omega)
  have a5 := s_sumAgain h' (a := b) (b := 31) (by decide) (by omega)
  rw [hw] at hst a1 a2 a3 a4 a5
  have ep : psum (wal M 0 1) (b + 1) - psum (wal M 0 1) b = wal M 0 1 b := by rw [psum]; omega
  rw [ep] at a3
  refine ⟨M', ?_, hf⟩
  have e4 : fG_bayOf M (b : Int) 4 = some ((cnt (fun r => ovr (r + 1) b) 32 : Nat) : Int) := s_bayOf4 hb
  unfold fL_isBay_j116
  rw [s_over hb, Option.bind_some, if_neg (by decide), e4, Option.bind_some, if_pos rfl, s_bayOf5 hb, Option.bind_some, if_pos rfl, s_steps hb, Option.bind_some, e, Option.bind_some, if_pos rfl, hst, Option.bind_some, gd_ok (by omega), bit_ok b hb, Option.bind_some, if_neg (by omega)]
  rw [show ((0 : Nat) : Int) = 0 from rfl] at a1 a2
  rw [show ((31 : Nat) : Int) = 31 from rfl] at a4 a5
  rw [a1, Option.bind_some, a2, Option.bind_some, if_pos rfl, a3, Option.bind_some, if_pos rfl, a4, Option.bind_some, a5, Option.bind_some, if_pos rfl]
end ISBAY
