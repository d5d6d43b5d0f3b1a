/-! where to store: what is advised cracks no rung -/
def nocr (w : Wl) (b : Nat) (m : Int) : Prop := ∀ r, r < 33 → ovr r b = true → w 4 r ≠ 1 → w 3 r + m ≤ 100 * (sz r : Int)
def advi (w : Wl) (kd m : Int) (b : Nat) : Prop := (w 1 b = 0 ∨ (w 0 b = kd ∧ w 1 b + m ≤ 200)) ∧ nocr w b m
section BEST
variable {M : MemG} {T B e : Int}
theorem s_cracksUnder (h : WI T B e (wal M 0)) {b : Nat} (hb : b < 32) {m : Int} (hm : 0 ≤ m ∧ m ≤ 1000) : ∃ x : Int, fW_cracksUnder M 0 (b : Int) m = some x ∧ (x = 0 ∨ x = 1) ∧ (x = 0 → nocr (wal M 0) b m) := by
  have H := up_loop (α := Unit) (mk := fun (_ : Unit) (r i : Int) => (r, i)) (f := fW_cracksUnder_l7 M 0 m) b hb (fun r _ => ∀ s, s < r → s < 33 → ovr s b = true → wal M 0 4 s ≠ 1 → wal M 0 3 s + m ≤ 100 * (sz s : Int)) (fun x => (x = 0 ∨ x = 1) ∧ (x = 0 → nocr (wal M 0) b m)) ?_ ?_ () ?_
  · obtain ⟨x, e, hx⟩ := H
    refine ⟨x, ?_, hx⟩
    unfold fW_cracksUnder
    rw [gd_ok (by omega), e]
  · intro r hr ho a i hi0 hi1 ha
    have hbr := (ovr_iff r b).1 ho
    have hz := sz_pos r
    have hsum := h.sum (r := r) (by omega) hr
    have fin : (wal M 0 4 r ≠ 1 → wal M 0 3 r + m ≤ 100 * (sz r : Int)) → ∃ a' : Unit, fW_cracksUnder_j44 M 0 m (r : Int) i = some (.inl (((r + sz r : Nat) : Int), i + 1)) ∧ ((∀ i, i < 33 → r < i → i < r + sz r → ovr i b = false) → ∀ s, s < r + sz r → s < 33 → ovr s b = true → wal M 0 4 s ≠ 1 → wal M 0 3 s + m ≤ 100 * (sz s : Int)) := by
      intro q
      refine ⟨(), ?_, fun hg s h1 h2 h3 h4 => ?_⟩
      · unfold fW_cracksUnder_j44
        rw [size_ok r (by omega) (by omega) (by omega), gd_ok (by omega), gd_ok (by omega), show (r : Int) + (sz r : Int) = ((r + sz r : Nat) : Int) by omega]
      · by_cases c1 : s < r
        · exact ha s c1 h2 h3 h4
        · by_cases c2 : s = r
          · subst c2; exact q h4
          · rw [hg s h2 (by omega) h1] at h3
            exact absurd h3 (by decide)
    unfold fW_cracksUnder_l7
    dsimp only
    rw [if_pos hi1, if_neg (by omega), rW_isCracked (by decide), rdw_n, s_loadOf0 r hr (by omega), rW_sumOf (by decide), rdw_n, Option.bind_some]
    by_cases c : wal M 0 4 r = 1
    · left
      rw [if_pos c, if_neg (by decide)]
      exact fin (fun q => absurd c q)
    · rw [if_neg c, if_pos rfl, gd_ok (by omega)]
      by_cases c2 : 100 * (sz r : Int) < wal M 0 3 r + m
      · right
        rw [if_pos c2]
        exact ⟨_, rfl, Or.inr rfl, fun q => absurd q (by decide)⟩
      · left
        rw [if_neg c2]
        exact fin (fun _ => by omega)
  · intro r h1 h2 a i ha
    unfold fW_cracksUnder_l7
    dsimp only
    rw [if_pos (show (32 : Int) < (r : Int) by omega)]
    have : ((0 : Int) = 0 ∨ (0 : Int) = 1) ∧ ((0 : Int) = 0 → nocr (wal M 0) b m) := ⟨Or.inl rfl, fun _ s q1 q2 q3 => ha s (by omega) q1 q2 q3⟩
    split <;> exact ⟨_, rfl, this⟩
  · intro s h1 h2 h3
    rw [(up_first b hb).2 s h1] at h3
    exact absurd h3 (by decide)
theorem s_bestBay (h : WI T B e (wal M 0)) {kd m : Int} (hk : 0 ≤ kd ∧ kd ≤ 3) (hm : 1 ≤ m ∧ m ≤ 200) : ∃ x : Int, fG_bestBay M kd m = some x ∧ (x = -15 ∨ ∃ b : Nat, b < 32 ∧ x = b ∧ advi (wal M 0) kd m b) := by
  unfold fG_bestBay
  rw [kind_eq, if_pos hk, if_neg (by decide), within_in hm, if_neg (by decide)]
  refine loop_inv _ (fun z : Int × Int => ∃ b : Nat, z.2 = b ∧ b ≤ 32 ∧ (z.1 = -15 ∨ ∃ b : Nat, b < 32 ∧ z.1 = b ∧ advi (wal M 0) kd m b)) (fun z => 40 - z.2.toNat) _ ?_ 200 _ ⟨0, rfl, by decide, Or.inl rfl⟩ (by show 40 - 0 < 200; decide)
  rintro ⟨f, z2⟩ ⟨b, hz, hb, hI⟩
  replace hz : z2 = (b : Int) := hz
  replace hI : f = -15 ∨ ∃ b : Nat, b < 32 ∧ f = b ∧ advi (wal M 0) kd m b := hI
  subst hz
  unfold fG_bestBay_l27
  dsimp only
  by_cases c : b < 32
  · rw [if_pos (by omega), s_hasRoom h.few c (by omega), Option.bind_some]
    have j99 : ∀ g : Int, (g = -15 ∨ ∃ b : Nat, b < 32 ∧ g = b ∧ advi (wal M 0) kd m b) → ∃ s' : Int × Int, fG_bestBay_j99 M kd m g (b : Int) = some (.inl s') ∧ (∃ b : Nat, s'.2 = b ∧ b ≤ 32 ∧ (s'.1 = -15 ∨ ∃ b : Nat, b < 32 ∧ s'.1 = b ∧ advi (wal M 0) kd m b)) ∧ 40 - s'.2.toNat < 40 - (b : Int).toNat := by
      intro g hg
      refine ⟨(g, (b : Int) + 1), ?_, ⟨b + 1, by show (b : Int) + 1 = _; omega, by omega, hg⟩, by show 40 - ((b : Int) + 1).toNat < _; omega⟩
      unfold fG_bestBay_j99
      rw [gd_ok (by omega)]
    have j63 : ∃ s' : Int × Int, fG_bestBay_j63 M kd m f (b : Int) 0 = some (.inl s') ∧ (∃ b : Nat, s'.2 = b ∧ b ≤ 32 ∧ (s'.1 = -15 ∨ ∃ b : Nat, b < 32 ∧ s'.1 = b ∧ advi (wal M 0) kd m b)) ∧ 40 - s'.2.toNat < 40 - (b : Int).toNat := by
      unfold fG_bestBay_j63 fG_bestBay_j85
      rw [if_pos rfl, if_pos rfl]
      exact j99 f hI
    by_cases cr : wal M 0 1 b = 0 ∨ (wal M 0 0 b = kd ∧ wal M 0 1 b + m ≤ 200)
    · rw [if_pos cr, if_neg (by decide)]
      obtain ⟨x, ex, hx, hn⟩ := s_cracksUnder h c (m := m) (by omega)
      rw [ex, Option.bind_some]
      by_cases cx : x = 0
      · rw [if_pos cx]
        have ha : advi (wal M 0) kd m b := ⟨cr, hn cx⟩
        unfold fG_bestBay_j63 fG_bestBay_j85
        rw [if_neg (by decide), rW_isEmpty (by decide), rdw_n]
        by_cases c1 : wal M 0 1 b = 0
        · left
          rw [if_pos c1, if_neg (by decide), if_neg (by decide)]
          by_cases cf : f = -15
          · rw [if_pos cf]; exact j99 _ (Or.inr ⟨b, c, rfl, ha⟩)
          · rw [if_neg cf]; exact j99 _ hI
        · right
          rw [if_neg c1, if_pos rfl]
          exact ⟨_, rfl, Or.inr ⟨b, c, rfl, ha⟩⟩
      · rw [if_neg cx]; exact Or.inl j63
    · rw [if_neg cr, if_pos rfl]; exact Or.inl j63
  · right
    rw [if_neg (by omega)]
    exact ⟨_, rfl, hI⟩
theorem cnt_none {p : Nat → Bool} {n : Nat} (h : ∀ i, i < n → p i = false) : cnt p n = 0 := (cnt_skip (a := 0) (Nat.zero_le _) (fun i _ hi => h i hi)).trans rfl
theorem stoN_0 {w : Wl} {kd m : Int} {b : Nat} (h : nocr w b m) : stoN w b kd m = 0 := by
  unfold stoN ncr
  refine cnt_none (fun i hi => ?_)
  rw [Bool.eq_false_iff]
  intro q
  obtain ⟨q1, q2, q3, q4⟩ := (newc_iff _ _ _).1 q
  have e4 : addS (upw (upw (cntW w 8 m) 0 b kd) 2 b (w 2 b)) b m 4 (i + 1) = w 4 (i + 1) := by
    unfold addS cntW upw
    rw [if_neg (by omega), if_neg (by omega), if_neg (by omega), if_neg (by omega), if_neg (by omega)]
  have e3 : addS (upw (upw (cntW w 8 m) 0 b kd) 2 b (w 2 b)) b m 3 (i + 1) = w 3 (i + 1) + m := by
    unfold addS cntW upw
    rw [if_pos ⟨rfl, q1, q2⟩, if_neg (by omega), if_neg (by omega), if_neg (by omega)]
  rw [e4] at q3
  rw [e3] at q4
  have := h (i + 1) q1 q2 q3
  omega
theorem stoW_1 {w : Wl} {kd m : Int} {b : Nat} : stoW w b kd m 1 b = w 1 b + m := by
  unfold stoW brgW cntW crkW addS upw
  simp
theorem lcI_self (x : Int64) : lcI x x = 0 := by
  show (lg_cmp x x).toInt = 0
  rw [(lg_cmp_eq x x).2 rfl]
  rfl
end BEST
