/-! the mean: a number over a number that is not 0 is a number -/
theorem mask_le {x : UInt64} (h : x.toNat % 2 ^ 63 ≤ 9218868437227405312) : x &&& 0x7fffffffffffffff ≤ 0x7ff0000000000000 := by
  rw [UInt64.le_iff_toNat_le, UInt64.toNat_and]
  have e1 : (0x7fffffffffffffff : UInt64).toNat = 2 ^ 63 - 1 := rfl
  have e2 : (0x7ff0000000000000 : UInt64).toNat = 9218868437227405312 := rfl
  rw [e1, e2, Nat.and_two_pow_sub_one_eq_mod]
  exact h
theorem mean_ok {a b : Int32} (hb : b ≠ 0) : (FP.ddiv (FP.i2d a) (FP.i2d b) &&& 0x7fffffffffffffff ≤ 0x7ff0000000000000) ∧ dcI (FP.ddiv (FP.i2d a) (FP.i2d b)) (FP.ddiv (FP.i2d a) (FP.i2d b)) = 0 := by
  have hn : FP.dIsNaN (FP.ddiv (FP.i2d a) (FP.i2d b)) = false := FP.Core.ddiv_out (FP.Core.i2d_fin a).notNaN (FP.Core.i2d_fin b) (fun h => FP.Core.i2d_ne_zero hb ((FP.Core.zero_bits2 _).1 h))
  have hv := (FP.Core.notNaN_iff _).1 hn
  generalize FP.ddiv (FP.i2d a) (FP.i2d b) = x at *
  refine ⟨mask_le ((FP.Core.ne_nan x).1 hv), ?_⟩
  unfold dcI
  have e : FP.dcmp x x = some .eq := FP.Core.dcmp_self hv
  rw [e]
  rfl
theorem zero_ok : dcI FP.dconst0 FP.dconst0 = 0 := by decide +kernel
section MEAN
variable {M : MemG} {T B e : Int}
/-- the mean of a wall -/
noncomputable def mea (w : Wl) : UInt64 := if nFil w = 0 then FP.dconst0 else FP.ddiv (FP.i2d (i3 (psum (w 1) 32))) (FP.i2d (i3 (nFil w : Int)))
theorem nFil_le (w : Wl) : nFil w ≤ 32 := cnt_le _ 32
theorem nFil_i3 {w : Wl} (h : nFil w ≠ 0) : i3 (nFil w : Int) ≠ 0 := by
  have := nFil_le w
  exact i3_ne_0 ⟨by omega, by omega⟩ (by omega)
theorem mea_ok (w : Wl) (h : nFil w ≠ 0) : mea w &&& 0x7fffffffffffffff ≤ 0x7ff0000000000000 := by
  unfold mea
  rw [if_neg h]
  exact (mean_ok (nFil_i3 h)).1
theorem mea_cmp (w : Wl) : dcI (mea w) (mea w) = 0 := by
  unfold mea
  by_cases h : nFil w = 0
  · rw [if_pos h]; exact zero_ok
  · rw [if_neg h]; exact (mean_ok (nFil_i3 h)).2
theorem gdd_ok {α : Type} {x : UInt64} {k : Option α} (h : x &&& 0x7fffffffffffffff ≤ 0x7ff0000000000000) : gdd x k = k := if_pos h
theorem s_filled : fW_filledBays M 0 = some ((nFil (wal M 0) : Nat) : Int) := s_filledBays (by decide)
theorem s_meanSacks (h : WI T B e (wal M 0)) : fG_meanSacks M = some (mea (wal M 0)) := by
  unfold fG_meanSacks
  rw [s_filled, Option.bind_some]
  by_cases c : nFil (wal M 0) = 0
  · rw [if_pos (by omega)]
    unfold mea
    rw [if_pos c]
  · have hm := mea_ok (wal M 0) c
    unfold mea at hm ⊢
    rw [if_neg c] at hm ⊢
    rw [if_neg (by omega), s_allSacks (by decide) h.few, Option.bind_some, gdd_ok hm]
end MEAN
