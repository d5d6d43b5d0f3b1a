/-! cracked rungs over a bay -/
def gC (w : Wl) (b i : Nat) : Int := if ovr (i + 1) b = true ∧ w 4 (i + 1) = 1 then (sz (i + 1) : Int) else 0
def gO (b i : Nat) : Int := if ovr (i + 1) b = true then (sz (i + 1) : Int) else 0
theorem or_pow : ∀ k : Nat, k < 6 → ∀ a : Nat, a < 2 ^ k → orI (a : Int) ((2 ^ k : Nat) : Int) = (a : Int) + ((2 ^ k : Nat) : Int) := by decide +kernel
theorem or_zero : ∀ a : Nat, a < 64 → orI (a : Int) 0 = (a : Int) := by decide +kernel
theorem sz_pow : ∀ r : Nat, r < 33 → ∃ k, k < 6 ∧ sz r = 2 ^ k := by decide +kernel
theorem gO_lt : ∀ b : Nat, b < 32 → ∀ i : Nat, i < 32 → ovr (i + 1) b = true → psum (gO b) i < (sz (i + 1) : Int) := by decide +kernel
theorem gO_top : ∀ b : Nat, b < 32 → psum (gO b) 32 < 64 := by decide +kernel
theorem gC_le (w : Wl) (b : Nat) : ∀ n, 0 ≤ psum (gC w b) n ∧ psum (gC w b) n ≤ psum (gO b) n
  | 0 => ⟨Int.le_refl _, Int.le_refl _⟩
  | n + 1 => by
    have h := gC_le w b n
    have hz := sz_pos (n + 1)
    rw [psum, psum]
    have : 0 ≤ gC w b n ∧ gC w b n ≤ gO b n := by
      unfold gC gO
      by_cases c : ovr (n + 1) b = true
      · rw [if_pos c]
        by_cases c2 : w 4 (n + 1) = 1
        · rw [if_pos ⟨c, c2⟩]; omega
        · rw [if_neg (fun q => c2 q.2)]; omega
      · rw [if_neg c, if_neg (fun q => c q.1)]; omega
    omega
theorem psum_skip {f : Nat → Int} {a : Nat} : ∀ {n : Nat}, a ≤ n → (∀ i, a ≤ i → i < n → f i = 0) → psum f n = psum f a
  | 0, h, _ => by rw [show a = 0 by omega]
  | n + 1, h, hf => by
    by_cases c : a = n + 1
    · rw [c]
    · rw [psum, psum_skip (n := n) (by omega) (fun i h1 h2 => hf i h1 (by omega)), hf n (by omega) (by omega)]; omega
section OVER
variable {M : MemG}
theorem s_crackedOver {b : Nat} (hb : b < 32) : fW_crackedOver M 0 (b : Int) = some (psum (gC (wal M 0) b) 32) := by
  have ht := gO_top b hb
  have hle := fun n => gC_le (wal M 0) b n
  have hm : ∀ n, n ≤ 32 → psum (gO b) n ≤ psum (gO b) 32 := fun n hn => psum_mono 32 (fun i _ => by unfold gO; split <;> omega) hn (Nat.le_refl _)
  have H := up_loop (mk := fun (a r i : Int) => (a, r, i)) (f := fW_crackedOver_l9 M 0) b hb (fun r a => a = psum (gC (wal M 0) b) (min (r - 1) 32)) (fun x => x = psum (gC (wal M 0) b) 32) ?_ ?_ 0 ?_
  · obtain ⟨x, e, hx⟩ := H
    unfold fW_crackedOver
    rw [gd_ok (by omega), e, hx]
  · intro r hr ho a i hi0 hi1 ha
    left
    have hbr := (ovr_iff r b).1 ho
    have hz := sz_pos r
    have e1 : min (r - 1) 32 = r - 1 := by omega
    have k1 := hle (r - 1)
    have k2 := hm (r - 1) (by omega)
    have g1 : gC (wal M 0) b (r - 1) = if wal M 0 4 r = 1 then (sz r : Int) else 0 := by
      unfold gC
      rw [show r - 1 + 1 = r by omega]
      by_cases c : wal M 0 4 r = 1
      · rw [if_pos c, if_pos ⟨ho, c⟩]
      · rw [if_neg c, if_neg (fun q => c q.2)]
    have hps : psum (gC (wal M 0) b) (r - 1 + 1) = psum (gC (wal M 0) b) (r - 1) + gC (wal M 0) b (r - 1) := rfl
    have fin : ∀ v, v = psum (gC (wal M 0) b) (r - 1) + gC (wal M 0) b (r - 1) → (∀ i, i < 33 → r < i → i < r + sz r → ovr i b = false) → v = psum (gC (wal M 0) b) (min (r + sz r - 1) 32) := by
      intro v hv hno
      rw [hv, ← hps]
      refine (psum_skip (by omega) (fun j h1 h2 => ?_)).symm
      unfold gC
      rw [if_neg]
      intro q
      have := hno (j + 1) (by omega) (by omega) (by omega)
      rw [this] at q
      exact absurd q.1 (by decide)
    rw [e1] at ha
    unfold fW_crackedOver_l9 fW_crackedOver_j37
    dsimp only
    rw [if_pos (by omega), if_neg (by omega), rW_isCracked (by decide), rdw_n, size_ok r (by omega) (by omega) (by omega)]
    by_cases c : wal M 0 4 r = 1
    · rw [if_pos c] at g1
      rw [if_pos c, if_neg (by decide), gd_ok (by omega), gd_ok (by omega), gd_ok (by omega), show (r : Int) + (sz r : Int) = ((r + sz r : Nat) : Int) by omega]
      exact ⟨_, rfl, fin _ (by rw [g1, ha])⟩
    · rw [if_neg c] at g1
      rw [if_neg c, if_pos rfl, gd_ok (by omega), gd_ok (by omega), show (r : Int) + (sz r : Int) = ((r + sz r : Nat) : Int) by omega]
      exact ⟨_, rfl, fin _ (by rw [g1, ha, Int.add_zero])⟩
  · intro r h1 h2 a i ha
    unfold fW_crackedOver_l9
    dsimp only
    rw [if_pos (show (32 : Int) < (r : Int) by omega)]
    have : min (r - 1) 32 = 32 := by omega
    rw [this] at ha
    split <;> exact ⟨_, rfl, ha⟩
  · have h0 := (up_first b hb).2
    show (0 : Int) = _
    rw [show min (b + 1 - 1) 32 = b by omega]
    refine (psum_skip (a := 0) (Nat.zero_le _) (fun j h1 h2 => ?_)).symm
    unfold gC
    rw [if_neg]
    intro q
    rw [h0 (j + 1) (by omega)] at q
    exact absurd q.1 (by decide)
end OVER
