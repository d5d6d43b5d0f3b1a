/-! steps of a climb, in two ways -/
def chn (f : Nat → Int) (en : Nat) : Nat → Nat → Int
  | 0, _ => 0
  | n + 1, r => if en < r then f r + chn f en n (r - sz r) else 0
def stp (w : Wl) : Nat → Nat → Int
  | 0, _ => 1
  | n + 1, r => if w 4 r = 1 then 1 + chn (stp w n) (r - sz r) 32 (r - 1) else 1
theorem in_half : ∀ r : Nat, r < 33 → ∀ s : Nat, s < r → r - sz r < s → 2 * sz s ≤ sz r ∧ r - sz r ≤ s - sz s := by decide +kernel
theorem chn_congr {f g : Nat → Int} {en top : Nat} (h : ∀ s, en < s → s ≤ top → f s = g s) : ∀ n r, r ≤ top → chn f en n r = chn g en n r
  | 0, _, _ => rfl
  | n + 1, r, hr => by
    rw [chn, chn]
    by_cases c : en < r
    · rw [if_pos c, if_pos c, h r c hr, chn_congr h n (r - sz r) (by omega)]
    · rw [if_neg c, if_neg c]
theorem chn_rng {f : Nat → Int} {en top : Nat} (h : ∀ s, en < s → s ≤ top → 1 ≤ f s ∧ f s ≤ (sz s : Int) ∧ en ≤ s - sz s ∧ sz s ≤ s) : ∀ n r, r ≤ top → 0 ≤ chn f en n r ∧ (chn f en n r ≤ (r : Int) - en ∨ (r ≤ en ∧ chn f en n r = 0))
  | 0, r, _ => by
    rw [chn]
    omega
  | n + 1, r, hr => by
    rw [chn]
    by_cases c : en < r
    · rw [if_pos c]
      have h1 := h r c hr
      have h2 := chn_rng h n (r - sz r) (by omega)
      omega
    · rw [if_neg c]; omega
theorem stp_rng (w : Wl) : ∀ n r, 0 < r → r < 33 → 1 ≤ stp w n r ∧ stp w n r ≤ (sz r : Int)
  | 0, r, _, _ => by have := sz_pos r; rw [stp]; omega
  | n + 1, r, h0, hr => by
    have hz := sz_pos r
    have hz2 := sz_le r hr h0
    rw [stp]
    by_cases c : w 4 r = 1
    · rw [if_pos c]
      have := chn_rng (f := stp w n) (en := r - sz r) (top := r - 1) (fun s h1 h2 => by
        have k := stp_rng w n s (by omega) (by omega)
        have k2 := in_half r hr s (by omega) h1
        exact ⟨k.1, k.2, k2.2, sz_le s (by omega) (by omega)⟩) 32 (r - 1) (Nat.le_refl _)
      omega
    · rw [if_neg c]; omega
theorem stp_stable (w : Wl) : ∀ n r, 0 < r → r < 33 → sz r ≤ 2 ^ n → stp w (n + 1) r = stp w (n + 2) r
  | 0, r, h0, hr, hs => by
    have hz := sz_pos r
    have hz1 : sz r = 1 := by have : 2 ^ 0 = 1 := rfl; omega
    have e : ∀ f : Nat → Int, chn f (r - sz r) 32 (r - 1) = 0 := fun f => by rw [hz1, chn, if_neg (by omega)]
    rw [stp, stp, e, e]
  | n + 1, r, h0, hr, hs => by
    rw [stp, stp]
    by_cases c : w 4 r = 1
    · rw [if_pos c, if_pos c]
      congr 1
      refine chn_congr (top := r - 1) ?_ 32 (r - 1) (Nat.le_refl _)
      intro s h1 h2
      have k2 := in_half r hr s (by omega) h1
      have : 2 ^ (n + 1) = 2 * 2 ^ n := by rw [Nat.pow_succ]; omega
      exact stp_stable w n s (by omega) (by omega) (by omega)
    · rw [if_neg c, if_neg c]
/-- a loop down a chain of rungs -/
theorem chain_loop {f : (Int × Int × Int) → Option ((Int × Int × Int) ⊕ Int)} (F : Nat → Int) (en top : Nat) (a : Int) (htop : top ≤ 32) (h1 : ∀ (s : Nat) (i : Nat), en < s → s ≤ top → i < 32 → ∀ n, f (a + n, (s : Int), (i : Int)) = some (.inl (a + n + F s, ((s - sz s : Nat) : Int), (i : Int) + 1)) ∨ ¬ (0 ≤ n ∧ n ≤ 32)) (h2 : ∀ (s i : Nat) (n : Int), ¬ (en < s) → f (n, (s : Int), (i : Int)) = some (.inr n)) (hF : ∀ s, en < s → s ≤ top → 1 ≤ F s ∧ F s ≤ (sz s : Int) ∧ en ≤ s - sz s ∧ sz s ≤ s) : loopN f 200 (a, (top : Int), 0) = some (a + chn F en 32 top) := by
  have hl : ∃ r : Int, loopN f 200 (a, (top : Int), (0 : Int)) = some r ∧ r = a + chn F en 32 top := by
    refine loop_inv _ (fun z : Int × Int × Int => ∃ (s i : Nat) (n : Int), z.1 = a + n ∧ z.2.1 = s ∧ z.2.2 = i ∧ s + i ≤ top ∧ n + chn F en (32 - i) s = chn F en 32 top ∧ 0 ≤ n ∧ n + s ≤ top) (fun z => 40 - z.2.2.toNat) _ ?_ 200 _ ⟨top, 0, 0, (Int.add_zero a).symm, rfl, rfl, by omega, by rw [Nat.sub_zero]; omega, by omega, by omega⟩ (by show 40 - 0 < 200; decide)
    rintro ⟨z1, z2, z3⟩ ⟨s, i, n, e1, e2, e3, hsi, hc, hn, hns⟩
    · replace e1 : z1 = a + n := e1
      replace e2 : z2 = (s : Int) := e2
      replace e3 : z3 = (i : Int) := e3
      subst e1
      subst e2
      subst e3
      by_cases c : en < s
      · left
        have k := hF s c (by omega)
        rcases h1 s i c (by omega) (by omega) n with q | q
        · refine ⟨_, q, ⟨s - sz s, i + 1, n + F s, by show a + n + F s = _; omega, rfl, by show (i : Int) + 1 = _; omega, by omega, ?_, by omega, by omega⟩, by show 40 - ((i : Int) + 1).toNat < 40 - ((i : Int)).toNat; omega⟩
          rw [← hc, show 32 - i = (32 - (i + 1)) + 1 by omega, chn, if_pos c]
          omega
        · omega
      · right
        refine ⟨_, h2 s i _ c, ?_⟩
        have : chn F en (32 - i) s = 0 := by
          cases 32 - i with
          | zero => rfl
          | succ m => rw [chn, if_neg c]
        omega
  obtain ⟨r, er, hr⟩ := hl
  rw [er, hr]
section STEPS
variable {M : MemG}
theorem s_below : ∀ n : Nat, n < 6 → ∀ r : Nat, 0 < r → r < 33 → sz r ≤ 2 ^ n → fG_stepsBelow (n + 2) M 0 (r : Int) (5 - (n : Int)) = some (stp (wal M 0) (n + 1) r)
  | 0, _, r, h0, hr, hs => by
    have hz := sz_pos r
    have hz1 : sz r = 1 := by have : 2 ^ 0 = 1 := rfl; omega
    have e : ∀ f : Nat → Int, chn f (r - sz r) 32 (r - 1) = 0 := fun f => by rw [hz1, chn, if_neg (by omega)]
    rw [stp, e, fG_stepsBelow]
    unfold fG_stepsBelow_b
    rw [rW_isCracked (by decide), rdw_n]
    by_cases c : wal M 0 4 r = 1
    · rw [if_pos c, if_neg (by decide), if_neg (by decide), gd_ok (by omega), loopN]
      unfold fG_stepsBelow_l25
      dsimp only
      rw [if_pos (by decide), s_firstBay0 r hr h0, Option.bind_some, if_neg (by omega), if_pos c]
      rfl
    · rw [if_neg c, if_pos rfl, if_neg c]
  | n + 1, hn, r, h0, hr, hs => by
    have hz := sz_pos r
    have hzl := sz_le r hr h0
    rw [stp, fG_stepsBelow]
    unfold fG_stepsBelow_b
    rw [rW_isCracked (by decide), rdw_n]
    by_cases c : wal M 0 4 r = 1
    · rw [if_pos c, if_neg (by decide), if_neg (by omega), gd_ok (by omega), if_pos c, show (r : Int) - 1 = ((r - 1 : Nat) : Int) by omega]
      have hin := fun (s : Nat) (h1 : r - sz r < s) (h2 : s ≤ r - 1) => in_half r hr s (by omega) h1
      have hp : 2 ^ (n + 1) = 2 * 2 ^ n := by rw [Nat.pow_succ]; omega
      refine chain_loop (F := stp (wal M 0) (n + 1)) (en := r - sz r) (top := r - 1) (a := 1) (by omega) ?_ ?_ ?_
      · intro s i h1 h2 hi m
        by_cases hm : 0 ≤ m ∧ m ≤ 32
        · left
          have k := hin s h1 h2
          have kr := stp_rng (wal M 0) (n + 1) s (by omega) (by omega)
          have ih := s_below n (by omega) s (by omega) (by omega) (by omega)
          have ks := sz_pos s
          have ksl := sz_le s (by omega) (by omega)
          unfold fG_stepsBelow_l25
          dsimp only
          rw [if_pos (by omega), s_firstBay0 r hr h0, Option.bind_some, if_pos (by omega), gd_ok (by omega), show (5 : Int) - ((n + 1 : Nat) : Int) + 1 = 5 - (n : Int) by omega, ih, Option.bind_some, gd_ok (by omega), size_ok s (by omega) (by omega) (by omega), gd_ok (by omega), gd_ok (by omega), show (s : Int) - (sz s : Int) = ((s - sz s : Nat) : Int) by omega]
        · right; exact hm
      · intro s i m h1
        unfold fG_stepsBelow_l25
        dsimp only
        rw [s_firstBay0 r hr h0, Option.bind_some, if_neg (show ¬ ((r - sz r : Nat) : Int) < (s : Int) by omega)]
        split <;> rfl
      · intro s h1 h2
        have k := hin s h1 h2
        have kr := stp_rng (wal M 0) (n + 1) s (by omega) (by omega)
        exact ⟨kr.1, kr.2, k.2, sz_le s (by omega) (by omega)⟩
    · rw [if_neg c, if_pos rfl, if_neg c]
def stpT (w : Wl) (r : Nat) : Int := stp w 6 r
theorem chn_T (w : Wl) {t : Nat} (ht : t ≤ 32) : ∀ s, 0 < s → s ≤ t → 1 ≤ stpT w s ∧ stpT w s ≤ (sz s : Int) ∧ 0 ≤ s - sz s ∧ sz s ≤ s := fun s h1 h2 => ⟨(stp_rng w 6 s h1 (by omega)).1, (stp_rng w 6 s h1 (by omega)).2, Nat.zero_le _, sz_le s (by omega) h1⟩
theorem s_steps {b : Nat} (hb : b < 32) : fG_steps M (b : Int) = some (chn (stpT (wal M 0)) 0 32 (b + 1)) := by
  unfold fG_steps
  rw [bay_in hb, if_neg (by decide), gd_ok (by omega), cast1]
  have := chain_loop (f := fG_steps_l19 M) (F := stpT (wal M 0)) (en := 0) (top := b + 1) (a := 0) (by omega) ?_ ?_ (chn_T _ (by omega))
  · rw [this, Int.zero_add]
  · intro s i h1 h2 hi m
    by_cases hm : 0 ≤ m ∧ m ≤ 32
    · left
      have kr := stp_rng (wal M 0) 6 s h1 (by omega)
      have ks := sz_pos s
      have ksl := sz_le s (by omega) h1
      have e := s_below (M := M) 5 (by decide) s h1 (by omega) (by omega)
      rw [show (5 : Int) - ((5 : Nat) : Int) = 0 from rfl, show 5 + 1 = 6 from rfl] at e
      unfold fG_steps_l19
      dsimp only
      unfold stpT
      rw [if_pos (by omega), if_pos (by omega), e, Option.bind_some, gd_ok (by omega), size_ok s (by omega) (by omega) (by omega), gd_ok (by omega), gd_ok (by omega), show (s : Int) - (sz s : Int) = ((s - sz s : Nat) : Int) by omega]
    · right; exact hm
  · intro s i m h1
    unfold fG_steps_l19
    dsimp only
    rw [if_neg (show ¬ (0 : Int) < (s : Int) by omega)]
    split <;> rfl
end STEPS
