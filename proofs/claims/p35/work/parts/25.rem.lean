/-! taking sacks out of a bay -/
def remW (w : Wl) (b : Nat) (x : Int) : Wl := if w 1 b - x = 0 then upw (upw (addS w b (-x)) 0 b 0) 2 b 0 else addS w b (-x)
theorem remW_nrm {w : Wl} (h : nrm w) {b : Nat} (hb : b < 32) (x : Int) : nrm (remW w b x) := by
  unfold remW
  split
  · exact upw_nrm (upw_nrm (addS_nrm h hb _) (by decide) hb _) (by decide) hb _
  · exact addS_nrm h hb _
theorem s_remove {M : MemG} {k b : Nat} (hk : k < 11) (hb : b < 32) {x : Int} {T B e : Int} (h : WI T B e (wal M k)) (hx : 0 ≤ x ∧ x ≤ 1000) : fW_remove M k (b : Int) x = some (setW M k (remW (wal M k) b x)) := by
  have hn := wal_nrm M k
  have hbb := h.b b hb
  have n1 := addS_nrm hn hb (-x)
  have n2 := upw_nrm n1 (j := 0) (by decide) hb 0
  have e1 : addS (wal M k) b (-x) 1 b = wal M k 1 b - x := by
    unfold addS; rw [if_neg (by omega), if_pos ⟨rfl, rfl⟩]; omega
  unfold fW_remove
  rw [gd_ok (by omega), s_changeSacks hk hb (by omega) (by omega) (fun r q1 q2 => by have := h.sum q1 q2; omega), Option.bind_some, rW_isEmpty hk, rdw_n, wal_set_same n1, e1]
  unfold remW
  by_cases c : wal M k 1 b - x = 0
  · rw [if_pos c, if_pos c, if_neg (by decide)]
    have h0 := put_w (M := setW M k (addS (wal M k) b (-x))) (k := k) (j := 0) (i := b) hk (by decide) hb 0
    have h0' : fG_put (setW M k (addS (wal M k) b (-x))) (16 + 6 * k) (b : Int) 0 = some (setW M k (upw (addS (wal M k) b (-x)) 0 b 0)) := by
      rw [setW_set, wal_set_same n1] at h0; exact h0
    rw [h0', Option.bind_some, put_w hk (by decide) hb, Option.bind_some, setW_set, wal_set_same n2]
  · rw [if_neg c, if_neg c, if_pos rfl]
section RM
variable {w : Wl} {b : Nat} {x : Int}
theorem rem1 (i : Nat) : remW w b x 1 i = if i = b then w 1 b - x else w 1 i := by
  unfold remW
  by_cases c : i = b
  · subst c
    rw [if_pos rfl]
    split
    · simp [upw, addS]; omega
    · simp [addS]; omega
  · rw [if_neg c]
    split
    · simp [upw, addS, c]
    · simp [addS, c]
theorem rem2 (i : Nat) : remW w b x 2 i = if i = b ∧ w 1 b - x = 0 then 0 else w 2 i := by
  unfold remW
  by_cases c : w 1 b - x = 0
  · by_cases c2 : i = b <;> simp [upw, addS, c, c2]
  · simp [addS, c]
theorem rem0 (i : Nat) : remW w b x 0 i = if i = b ∧ w 1 b - x = 0 then 0 else w 0 i := by
  unfold remW
  by_cases c : w 1 b - x = 0
  · by_cases c2 : i = b <;> simp [upw, addS, c, c2]
  · simp [addS, c]
theorem rem3 {r : Nat} : remW w b x 3 r = addS w b (-x) 3 r := by
  unfold remW
  split
  · unfold upw
    rw [if_neg (by omega), if_neg (by omega)]
  · rfl
theorem rem45 {j : Nat} (hj : j = 4 ∨ j = 5) (i : Nat) : remW w b x j i = w j i := by
  unfold remW
  split
  · unfold upw addS
    rw [if_neg (by omega), if_neg (by omega), if_neg (by omega), if_neg (by omega)]
  · unfold addS
    rw [if_neg (by omega), if_neg (by omega)]
theorem rem_psum (n : Nat) : psum (remW w b x 1) n = psum (w 1) n - (if b < n then x else 0) := by
  have := psum_upd (f := w 1) (g := remW w b x 1) (b := b) (d := -x) (by rw [rem1, if_pos rfl]; omega) (fun i hi => by rw [rem1, if_neg hi]) n
  rw [this]
  split <;> omega
end RM
theorem WI.rem {T B e : Int} {w : Wl} (h : WI T B e w) {b : Nat} (hb : b < 32) {x : Int} (hx : 0 ≤ x ∧ x ≤ w 1 b) : WI T B (e + x) (remW w b x) := by
  have hbb := h.b b hb
  refine ⟨remW_nrm h.n hb x, fun i hi => ?_, fun r q1 q2 => ?_, fun r q1 q2 => ?_, fun i hi => ?_, ?_, ?_⟩
  · rw [rem1, rem2, rem0]
    have hi' := h.b i hi
    by_cases c : i = b
    · subst c
      rw [if_pos rfl]
      by_cases c2 : w 1 i - x = 0
      · rw [if_pos ⟨rfl, c2⟩, if_pos ⟨rfl, c2⟩]
        refine ⟨by omega, by omega, by omega, by omega, by omega, by omega, fun _ => rfl⟩
      · rw [if_neg (fun q => c2 q.2), if_neg (fun q => c2 q.2)]
        refine ⟨by omega, by omega, hi'.2.2.1, hi'.2.2.2.1, hi'.2.2.2.2.1, hi'.2.2.2.2.2.1, fun q => absurd q c2⟩
    · rw [if_neg c, if_neg (fun q => c q.1), if_neg (fun q => c q.1)]
      exact hi'
  · have hs := addS_sum h.s b (-x) r q1 q2
    rw [rem3, hs, psum_addS, psum_addS, rem_psum, rem_psum]
    split <;> split <;> omega
  · rw [rem45 (Or.inl rfl), rem3]
    have hc := h.c r q1 q2
    refine ⟨hc.1, fun q => ?_⟩
    have := hc.2 q
    unfold addS
    split
    · omega
    · rw [if_neg (by omega)]; exact this
  · rw [rem45 (Or.inr rfl)]
    exact h.k i hi
  · have hl := h.l
    unfold balOK at hl ⊢
    rw [rem45 (Or.inr rfl), rem45 (Or.inr rfl), rem45 (Or.inr rfl), rem45 (Or.inr rfl), rem_psum, if_pos hb]
    omega
  · have hm := h.m
    unfold numOK numC at hm ⊢
    rw [rem45 (Or.inr rfl)]
    have : (fun r => remW w b x 4 (r + 1) == 1) = (fun r => w 4 (r + 1) == 1) := by
      funext r; rw [rem45 (Or.inl rfl)]
    rw [this]
    exact hm
/-! the sacks of a kind -/
def kSum (w : Wl) (y : Int) : Int := psum (fun b => if w 0 b = y then w 1 b else 0) 32
theorem kSum_rem {w : Wl} {b : Nat} (hb : b < 32) {x y : Int} : kSum (remW w b x) y = kSum w y - (if w 0 b = y then x else 0) := by
  unfold kSum
  have r0 : ¬ w 1 b - x = 0 → remW w b x 0 b = w 0 b := fun q => by rw [rem0, if_neg (fun z => q z.2)]
  have hoth : ∀ i, i ≠ b → (if remW w b x 0 i = y then remW w b x 1 i else 0) = (if w 0 i = y then w 1 i else 0) := by
    intro i hi
    have e0 : remW w b x 0 i = w 0 i := by rw [rem0, if_neg (fun z => hi z.1)]
    rw [e0, rem1, if_neg hi]
  have hown : (if remW w b x 0 b = y then remW w b x 1 b else 0) = (if w 0 b = y then w 1 b else 0) + (if w 0 b = y then -x else 0) := by
    rw [rem1, if_pos rfl]
    by_cases c : w 0 b = y
    · rw [if_pos c, if_pos c]
      by_cases c2 : w 1 b - x = 0
      · split <;> omega
      · rw [r0 c2, if_pos c]; omega
    · rw [if_neg c, if_neg c]
      by_cases c2 : w 1 b - x = 0
      · split <;> omega
      · rw [r0 c2, if_neg c]; omega
  rw [psum_upd (f := fun b => if w 0 b = y then w 1 b else 0) (g := fun i => if remW w b x 0 i = y then remW w b x 1 i else 0) hown hoth 32, if_pos hb]
  split <;> omega
