/-! which bay stands ahead -/
abbrev ahd (w : Wl) (a b : Nat) : Prop := w 2 b < w 2 a ∨ (w 2 a = w 2 b ∧ (w 1 b < w 1 a ∨ (w 1 a = w 1 b ∧ a < b)))
def fil (w : Wl) (b : Nat) : Bool := !(w 1 b == 0)
def plc (w : Wl) (b : Nat) : Nat := cnt (fun a => fil w a && decide (ahd w a b)) 32
theorem fil_iff {w : Wl} {b : Nat} : fil w b = true ↔ w 1 b ≠ 0 := by unfold fil; simp
theorem ahd_irr (w : Wl) (a : Nat) : ¬ ahd w a a := by unfold ahd; omega
theorem ahd_tr {w : Wl} {a b c : Nat} (h1 : ahd w a b) (h2 : ahd w b c) : ahd w a c := by unfold ahd at *; omega
theorem ahd_tot (w : Wl) {a b : Nat} (h : a ≠ b) : ahd w a b ∨ ahd w b a := by unfold ahd; omega
theorem plc_lt {w : Wl} {a b : Nat} (ha : a < 32) (hf : w 1 a ≠ 0) (h : ahd w a b) : plc w a < plc w b := by
  refine cnt_lt (b := a) ?_ ?_ ?_ ha
  · intro i hi
    rw [Bool.and_eq_true, decide_eq_true_iff] at hi ⊢
    exact ⟨hi.1, ahd_tr hi.2 h⟩
  · rw [Bool.and_eq_true, decide_eq_true_iff]
    exact ⟨fil_iff.2 hf, h⟩
  · rw [Bool.and_eq_false_iff]
    right
    exact decide_eq_false (ahd_irr w a)
theorem plc_top {w : Wl} {a : Nat} (ha : a < 32) (hf : w 1 a ≠ 0) : plc w a < nFil w := by
  refine cnt_lt (b := a) ?_ ?_ ?_ ha
  · intro i hi
    rw [Bool.and_eq_true] at hi
    exact hi.1
  · exact fil_iff.2 hf
  · rw [Bool.and_eq_false_iff]
    right
    exact decide_eq_false (ahd_irr w a)
theorem plc_inj {w : Wl} {a b : Nat} (ha : a < 32) (hb : b < 32) (fa : w 1 a ≠ 0) (fb : w 1 b ≠ 0) (h : plc w a = plc w b) : a = b := by
  apply Classical.byContradiction
  intro q
  rcases ahd_tot w q with c | c
  · have := plc_lt ha fa c; omega
  · have := plc_lt hb fb c; omega
theorem cnt_uniq {s : Nat → Bool} : ∀ {n : Nat}, (∀ i j, i < n → j < n → s i = true → s j = true → i = j) → cnt s n ≤ 1
  | 0, _ => Nat.zero_le _
  | n + 1, h => by
    have h1 := cnt_uniq (s := s) (n := n) (fun i j hi hj => h i j (by omega) (by omega))
    unfold cnt
    by_cases c : s n = true
    · have h0 : cnt s n = 0 := by
        have := cnt_skip (p := s) (a := 0) (n := n) (Nat.zero_le _) (fun i _ hi => by
          cases e : s i with
          | false => rfl
          | true => have := h i n (by omega) (by omega) e c; omega)
        rw [this]; rfl
      rw [h0]; split <;> omega
    · rw [if_neg c]; omega
theorem cnt_some {s : Nat → Bool} : ∀ {n : Nat}, 0 < cnt s n → ∃ i, i < n ∧ s i = true
  | 0, h => absurd h (Nat.lt_irrefl 0)
  | n + 1, h => by
    by_cases c : s n = true
    · exact ⟨n, Nat.lt_succ_self n, c⟩
    · have h2 : 0 < cnt s n := by
        unfold cnt at h
        rw [if_neg c] at h
        exact h
      obtain ⟨i, hi, q⟩ := cnt_some h2
      exact ⟨i, by omega, q⟩
/-- filled bays of a place below t -/
def blw (w : Wl) (t : Nat) : Nat := cnt (fun b => fil w b && decide (plc w b < t)) 32
theorem blw_step (w : Wl) (t : Nat) : blw w (t + 1) = blw w t + cnt (fun b => fil w b && decide (plc w b = t)) 32 := by
  refine cnt_or ?_ ?_
  · intro i _
    by_cases c : fil w i = true
    · rw [c, Bool.true_and, Bool.true_and, Bool.true_and, ← Bool.decide_or]
      exact decide_eq_decide.2 (by omega)
    · rw [Bool.not_eq_true] at c
      rw [c]; rfl
  · intro i _ h
    rw [Bool.and_eq_true, decide_eq_true_iff] at h
    rw [Bool.and_eq_false_iff]
    right
    exact decide_eq_false (by omega)
theorem one_plc (w : Wl) (t : Nat) : cnt (fun b => fil w b && decide (plc w b = t)) 32 ≤ 1 := by
  refine cnt_uniq ?_
  intro i j hi hj h1 h2
  rw [Bool.and_eq_true, decide_eq_true_iff] at h1 h2
  exact plc_inj hi hj (fil_iff.1 h1.1) (fil_iff.1 h2.1) (by omega)
theorem blw_top (w : Wl) : blw w (nFil w) = nFil w := by
  refine cnt_congr ?_
  intro i hi
  by_cases c : fil w i = true
  · have := plc_top hi (fil_iff.1 c)
    rw [c, Bool.true_and]
    rw [show (!(w 1 i == 0)) = true from c]
    exact decide_eq_true this
  · rw [Bool.not_eq_true] at c
    rw [c]
    exact c.symm
theorem blw_dn (w : Wl) : ∀ d, d ≤ nFil w → nFil w ≤ blw w (nFil w - d) + d
  | 0, _ => by rw [Nat.sub_zero, blw_top]; omega
  | d + 1, h => by
    have h1 := blw_dn w d (by omega)
    have h2 := blw_step w (nFil w - (d + 1))
    have h3 := one_plc w (nFil w - (d + 1))
    rw [show nFil w - (d + 1) + 1 = nFil w - d by omega] at h2
    omega
theorem blw_up (w : Wl) : ∀ t, blw w t ≤ t
  | 0 => by
    have : blw w 0 = 0 := by
      have := cnt_skip (p := fun b => fil w b && decide (plc w b < 0)) (a := 0) (n := 32) (Nat.zero_le _) (fun i _ _ => by simp)
      exact this
    omega
  | t + 1 => by
    have h1 := blw_up w t
    have h2 := blw_step w t
    have h3 := one_plc w t
    omega
theorem plc_ex {w : Wl} {t : Nat} (h : t < nFil w) : ∃ b, b < 32 ∧ w 1 b ≠ 0 ∧ plc w b = t := by
  have h1 := blw_dn w (nFil w - (t + 1)) (by omega)
  rw [show nFil w - (nFil w - (t + 1)) = t + 1 by omega] at h1
  have h2 := blw_up w t
  have h3 := blw_step w t
  obtain ⟨b, hb, q⟩ := cnt_some (s := fun b => fil w b && decide (plc w b = t)) (n := 32) (by omega)
  rw [Bool.and_eq_true, decide_eq_true_iff] at q
  exact ⟨b, hb, fil_iff.1 q.1, q.2⟩
