/-! steps by a table -/
theorem bit_ok : ∀ b : Nat, b < 32 → fI_bitCount_0f7a4 ((b : Int) + 1) = some (chn (fun _ => 1) 0 32 (b + 1)) := by decide +kernel
theorem chn_mono {f g : Nat → Int} {en top : Nat} (h : ∀ s, en < s → s ≤ top → f s ≤ g s) : ∀ n r, r ≤ top → chn f en n r ≤ chn g en n r
  | 0, _, _ => Int.le_refl _
  | n + 1, r, hr => by
    rw [chn, chn]
    by_cases c : en < r
    · have h1 := h r c hr
      have h2 := chn_mono h n (r - sz r) (by omega)
      rw [if_pos c, if_pos c]; omega
    · rw [if_neg c, if_neg c]; exact Int.le_refl _
theorem stpT_eq (w : Wl) {r : Nat} (h0 : 0 < r) (hr : r < 33) : stpT w r = if w 4 r = 1 then 1 + chn (stpT w) (r - sz r) 32 (r - 1) else 1 := by
  have hz := sz_pos r
  show stp w (5 + 1) r = _
  rw [stp]
  by_cases c : w 4 r = 1
  · rw [if_pos c, if_pos c]
    congr 1
    refine chn_congr (top := r - 1) ?_ 32 (r - 1) (Nat.le_refl _)
    intro s h1 h2
    have k2 := in_half r hr s (by omega) h1
    have h16 : 2 ^ 4 = 16 := rfl
    exact stp_stable w 4 s (by omega) (by omega) (by omega)
  · rw [if_neg c, if_neg c]
section STEPS2
variable {M : MemG}
theorem at85 {s : Nat} (hs : s < 33) : fG_at M 85 (s : Int) = M 85 s := by
  unfold fG_at
  rw [if_neg (by omega), if_pos (show (s : Int) < ((lenA 85 : Nat) : Int) by show (s : Int) < ((33 : Nat) : Int); omega), Int.toNat_natCast]
theorem s_known {w : Wl} {t en : Nat} (ht : t ≤ 32) (hK : ∀ s, 0 < s → s ≤ t → M 85 s = stpT w s) (hF : ∀ s, en < s → s ≤ t → 1 ≤ stpT w s ∧ stpT w s ≤ (sz s : Int) ∧ en ≤ s - sz s ∧ sz s ≤ s) : fG_knownSteps M (t : Int) (en : Int) = some (chn (stpT w) en 32 t) := by
  unfold fG_knownSteps
  have := chain_loop (f := fG_knownSteps_l8 M (en : Int)) (F := stpT w) (en := en) (top := t) (a := 0) ht ?_ ?_ hF
  · rw [this, Int.zero_add]
  · intro s i h1 h2 hi m
    by_cases hm : 0 ≤ m ∧ m ≤ 32
    · left
      have k := hF s h1 h2
      have ks := sz_pos s
      unfold fG_knownSteps_l8
      dsimp only
      rw [if_pos (by omega), if_pos (by omega), at85 (by omega), hK s (by omega) h2, gd_ok (by omega), size_ok s (by omega) (by omega) (by omega), gd_ok (by omega), gd_ok (by omega), show (s : Int) - (sz s : Int) = ((s - sz s : Nat) : Int) by omega]
    · right; exact hm
  · intro s i m h1
    unfold fG_knownSteps_l8
    dsimp only
    rw [if_neg (show ¬ (en : Int) < (s : Int) by omega)]
    split <;> rfl
theorem s_byKnown {r : Nat} (h0 : 0 < r) (hr : r < 33) (hK : ∀ s, 0 < s → s < r → M 85 s = stpT (wal M 0) s) : fG_stepsByKnown M (r : Int) = some (stpT (wal M 0) r) := by
  have hz := sz_pos r
  have hzl := sz_le r hr h0
  unfold fG_stepsByKnown
  rw [rW_isCracked (by decide), rdw_n, stpT_eq (wal M 0) h0 hr]
  by_cases c : wal M 0 4 r = 1
  · have hF : ∀ s, r - sz r < s → s ≤ r - 1 → 1 ≤ stpT (wal M 0) s ∧ stpT (wal M 0) s ≤ (sz s : Int) ∧ r - sz r ≤ s - sz s ∧ sz s ≤ s := by
      intro s h1 h2
      have k := in_half r hr s (by omega) h1
      have kr := stp_rng (wal M 0) 6 s (by omega) (by omega)
      exact ⟨kr.1, kr.2, k.2, sz_le s (by omega) (by omega)⟩
    have kk := chn_rng hF 32 (r - 1) (Nat.le_refl _)
    have e := s_known (M := M) (w := wal M 0) (t := r - 1) (en := r - sz r) (by omega) (fun s h1 h2 => hK s h1 (by omega)) hF
    rw [show ((r - 1 : Nat) : Int) = (r : Int) - 1 by omega] at e
    rw [if_pos c, if_neg (by decide), s_firstBay0 r hr h0, Option.bind_some, gd_ok (by omega), e, Option.bind_some, gd_ok (by omega), if_pos c]
  · rw [if_neg c, if_pos rfl, if_neg c]
theorem wal_eq {M M2 : MemG} (h : ∀ a, a < 82 → M2 a = M a) {k : Nat} (hk : k < 11) : wal M2 k = wal M k := by
  funext j i
  unfold wal
  split
  · rw [h _ (by omega)]
  · rfl
theorem s_stepsAgain {b : Nat} (hb : b < 32) : ∃ M', fG_stepsAgain M (b : Int) = some (M', chn (stpT (wal M 0)) 0 32 (b + 1)) ∧ ∀ a, a ≠ 85 → M' a = M a := by
  have hl : ∃ r : MemG, loopN (fG_stepsAgain_l12 (b : Int)) 200 ((1 : Int), M) = some r ∧ (∀ a, a ≠ 85 → r a = M a) ∧ ∀ s, 0 < s → s < b + 2 → r 85 s = stpT (wal M 0) s := by
    refine loop_inv _ (fun z : Int × MemG => ∃ r : Nat, z.1 = r ∧ 1 ≤ r ∧ r ≤ b + 2 ∧ (∀ a, a ≠ 85 → z.2 a = M a) ∧ ∀ s, 0 < s → s < r → z.2 85 s = stpT (wal M 0) s) (fun z => 40 - z.1.toNat) _ ?_ 200 _ ⟨1, rfl, by decide, by omega, fun _ _ => rfl, fun s h1 h2 => by omega⟩ (by show 40 - 1 < 200; decide)
    rintro ⟨z1, z2⟩ ⟨r, e1, r1, r2, hf, hK⟩
    replace e1 : z1 = (r : Int) := e1
    subst e1
    replace hf : ∀ a, a ≠ 85 → z2 a = M a := hf
    replace hK : ∀ s, 0 < s → s < r → z2 85 s = stpT (wal M 0) s := hK
    have hw : wal z2 0 = wal M 0 := wal_eq (fun a h => hf a (by omega)) (by decide)
    unfold fG_stepsAgain_l12
    dsimp only
    rw [gd_ok (by omega)]
    by_cases c : r < b + 2
    · left
      have e := s_byKnown (M := z2) (r := r) r1 (by omega) (by rw [hw]; exact hK)
      rw [hw] at e
      have ep : fG_put z2 85 (r : Int) (stpT (wal M 0) r) = some (up z2 85 r (stpT (wal M 0) r)) := by
        unfold fG_put
        rw [if_neg (by omega), if_pos (show (r : Int) < ((lenA 85 : Nat) : Int) by show (r : Int) < ((33 : Nat) : Int); omega), Int.toNat_natCast]
        rfl
      rw [if_neg (by omega), e, Option.bind_some, ep, Option.bind_some, gd_ok (by omega)]
      refine ⟨_, rfl, ⟨r + 1, by show (r : Int) + 1 = _; omega, by omega, by omega, fun a ha => ?_, fun s h1 h2 => ?_⟩, by show 40 - ((r : Int) + 1).toNat < 40 - ((r : Int)).toNat; omega⟩
      · show up z2 85 r _ a = _
        rw [up_other ha]; exact hf a ha
      · show up z2 85 r _ 85 s = _
        by_cases cs : s = r
        · rw [cs, up_at]
        · rw [up_ne cs]; exact hK s h1 (by omega)
    · right
      rw [if_pos (by omega)]
      exact ⟨_, rfl, hf, fun s h1 h2 => hK s h1 (by omega)⟩
  obtain ⟨M', e, hf, hK⟩ := hl
  have ek := s_known (M := M') (w := wal M 0) (t := b + 1) (en := 0) (by omega) (fun s h1 h2 => hK s h1 (by omega)) (chn_T _ (by omega))
  unfold fG_stepsAgain
  rw [bay_in hb, if_neg (by decide), e, Option.bind_some, gd_ok (by omega), cast1, show (0 : Int) = ((0 : Nat) : Int) from rfl, ek, Option.bind_some]
  exact ⟨M', rfl, hf⟩
end STEPS2
