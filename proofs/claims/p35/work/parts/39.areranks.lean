/-! ranks hold -/
theorem psum_ge {f : Nat → Int} {n b : Nat} (h : ∀ i, i < n → 0 ≤ f i) (hb : b < n) : f b ≤ psum f n := by
  have h1 := psum_mono n h (a := b + 1) (b := n) (by omega) (by omega)
  have h2 := psum_mono n h (a := 0) (b := b) (by omega) (by omega)
  have h3 : psum f (b + 1) = psum f b + f b := rfl
  have h4 : psum f 0 = 0 := rfl
  omega
theorem share_ok : ∀ q : Nat, q < 33 → (FP.fdiv (FP.i2f (i3 (32 - (q : Int)))) 1107296256 &&& 0x7fffffff ≤ 0x7f800000) ∧ fcI (FP.fdiv (FP.i2f (i3 (32 - (q : Int)))) 1107296256) (FP.fdiv (FP.i2f (i3 (32 - (q : Int)))) 1107296256) = 0 := by decide +kernel
section ARANKS
variable {M : MemG} {T B e : Int}
theorem s_commonAge (h : WI T B e (wal M 0)) : ∃ x : Int, fG_commonAge M = some x ∧ (x = -15 ↔ nFil (wal M 0) = 0) := by
  unfold fG_commonAge
  refine loop_inv _ (fun z : Int × Int × Int => ∃ m : Nat, z.2.2 = m ∧ m ≤ 32 ∧ (((∀ b, b < m → wal M 0 1 b = 0) ∧ z.1 = -15 ∧ z.2.1 = 0) ∨ (0 ≤ z.1 ∧ 0 < z.2.1 ∧ ∃ b, b < m ∧ wal M 0 1 b ≠ 0))) (fun z => 32 - z.2.2.toNat) _ ?_ 200 _ ⟨0, rfl, by decide, Or.inl ⟨fun b hb => absurd hb (Nat.not_lt_zero b), rfl, rfl⟩⟩ (by show 32 - 0 < 200; decide)
  rintro ⟨z1, z2, z3⟩ ⟨m, em, m32, hz⟩
  replace em : z3 = (m : Int) := em
  subst em
  replace hz : ((∀ b, b < m → wal M 0 1 b = 0) ∧ z1 = -15 ∧ z2 = 0) ∨ (0 ≤ z1 ∧ 0 < z2 ∧ ∃ b, b < m ∧ wal M 0 1 b ≠ 0) := hz
  unfold fG_commonAge_l7 fG_commonAge_j63 fG_commonAge_j69
  dsimp only
  by_cases c : m < 32
  · left
    have hb := h.b m c
    have mu : 32 - (((m : Nat) : Int) + 1).toNat < 32 - (((m : Nat) : Int)).toNat := by omega
    have hq := psum_ge (f := fun b => if wal M 0 2 b = wal M 0 2 m then wal M 0 1 b else 0) (n := 32) (b := m) (fun i hi => by
      have := h.b i hi
      split <;> omega) c
    rw [if_pos rfl] at hq
    rw [if_pos (by omega), rW_ageIn (by decide), rdw_n, s_sacksAsOldAs (by decide) h.few, Option.bind_some, rW_isEmpty (by decide), rdw_n, gd_ok (by omega), gd_ok (by omega)]
    generalize psum (fun b => if wal M 0 2 b = wal M 0 2 m then wal M 0 1 b else 0) 32 = q3 at hq ⊢
    have old : (wal M 0 1 m = 0 ∨ (0 ≤ z1 ∧ 0 < z2)) → ∃ s' : Int × Int × Int, (some (Sum.inl (z1, z2, (m : Int) + 1)) : Option ((Int × Int × Int) ⊕ Int)) = some (Sum.inl s') ∧ (∃ m' : Nat, s'.2.2 = m' ∧ m' ≤ 32 ∧ (((∀ b, b < m' → wal M 0 1 b = 0) ∧ s'.1 = -15 ∧ s'.2.1 = 0) ∨ (0 ≤ s'.1 ∧ 0 < s'.2.1 ∧ ∃ b, b < m' ∧ wal M 0 1 b ≠ 0))) ∧ 32 - s'.2.2.toNat < 32 - (((m : Nat) : Int)).toNat := by
      intro hx
      refine ⟨_, rfl, ⟨m + 1, by show (m : Int) + 1 = _; omega, by omega, ?_⟩, mu⟩
      rcases hz with ⟨k1, k2, k3⟩ | ⟨k1, k2, b, k3, k4⟩
      · left
        refine ⟨fun b hb => ?_, k2, k3⟩
        by_cases cb : b = m
        · rw [cb]
          rcases hx with hx | hx
          · exact hx
          · omega
        · exact k1 b (by omega)
      · right
        exact ⟨k1, k2, b, by omega, k4⟩
    have new : wal M 0 1 m ≠ 0 → ∃ s' : Int × Int × Int, (some (Sum.inl (wal M 0 2 m, q3, (m : Int) + 1)) : Option ((Int × Int × Int) ⊕ Int)) = some (Sum.inl s') ∧ (∃ m' : Nat, s'.2.2 = m' ∧ m' ≤ 32 ∧ (((∀ b, b < m' → wal M 0 1 b = 0) ∧ s'.1 = -15 ∧ s'.2.1 = 0) ∨ (0 ≤ s'.1 ∧ 0 < s'.2.1 ∧ ∃ b, b < m' ∧ wal M 0 1 b ≠ 0))) ∧ 32 - s'.2.2.toNat < 32 - (((m : Nat) : Int)).toNat := by
      intro hx
      exact ⟨_, rfl, ⟨m + 1, by show (m : Int) + 1 = _; omega, by omega, Or.inr ⟨by show 0 ≤ wal M 0 2 m; omega, by show 0 < q3; omega, m, by omega, hx⟩⟩, mu⟩
    by_cases c1 : wal M 0 1 m = 0
    · rw [if_pos c1, if_neg (by decide)]
      exact old (Or.inl c1)
    · rw [if_neg c1, if_pos rfl]
      by_cases c2 : z2 < q3
      · rw [if_pos c2]; exact new c1
      · rw [if_neg c2]
        by_cases c3 : q3 = z2
        · rw [if_pos c3]
          by_cases c4 : wal M 0 2 m < z1
          · rw [if_pos c4]; exact new c1
          · rw [if_neg c4]
            refine old (Or.inr ?_)
            clear old new
            rcases hz with ⟨_, k2, k3⟩ | ⟨k1, k2, _⟩
            · omega
            · exact ⟨k1, k2⟩
        · rw [if_neg c3]
          refine old (Or.inr ?_)
          rcases hz with ⟨_, k2, k3⟩ | ⟨k1, k2, _⟩
          · omega
          · exact ⟨k1, k2⟩
  · right
    rw [if_neg (by omega)]
    have : m = 32 := by omega
    subst this
    refine ⟨_, rfl, ?_⟩
    rcases hz with ⟨k1, k2, k3⟩ | ⟨k1, k2, b, k3, k4⟩
    · refine ⟨fun _ => ?_, fun _ => k2⟩
      apply Classical.byContradiction
      intro q
      obtain ⟨b, hb, hf⟩ := cnt_some (s := fun b => !(wal M 0 1 b == 0)) (n := 32) (by unfold nFil at q; omega)
      exact absurd (k1 b hb) (fil_iff.1 hf)
    · refine ⟨fun q => absurd q (by show ¬ (z1 = -15); omega), fun q => ?_⟩
      have := cnt_zero (p := fun b => !(wal M 0 1 b == 0)) (n := 32) q b k3
      exact absurd (fil_iff.2 k4) (by show ¬ ((!(wal M 0 1 b == 0)) = true); rw [this]; decide)
theorem s_rank_l34 (h : WI T B e (wal M 0)) (hT : T ≤ 1000000) : loopN (fL_areRanks_l34 M (nFil (wal M 0) : Int)) 200 (1, 1) = some 1 := by
  have hN : nFil (wal M 0) ≤ 32 := cnt_le _ 32
  have hl : ∃ r : Int, loopN (fL_areRanks_l34 M (nFil (wal M 0) : Int)) 200 ((1 : Int), (1 : Int)) = some r ∧ r = 1 := by
    refine loop_inv _ (fun z : Int × Int => z.1 = 1 ∧ ∃ m : Nat, z.2 = m ∧ 1 ≤ m) (fun z => 40 - z.2.toNat) _ ?_ 200 _ ⟨rfl, 1, rfl, by decide⟩ (by show 40 - 1 < 200; decide)
    rintro ⟨z1, z2⟩ ⟨e1, m, em, m1⟩
    replace em : z2 = (m : Int) := em
    replace e1 : z1 = 1 := e1
    subst em
    subst e1
    unfold fL_areRanks_l34 fL_areRanks_j125
    dsimp only
    rw [if_neg (by decide)]
    by_cases c : m < nFil (wal M 0)
    · left
      obtain ⟨b1, hb1, o1, f1, p1⟩ := s_oldest_at (M := M) (t := m - 1) (by omega)
      obtain ⟨b2, hb2, o2, f2, p2⟩ := s_oldest_at (M := M) (t := m) c
      have ha : ahd (wal M 0) b1 b2 := by
        rcases ahd_tot (wal M 0) (a := b1) (b := b2) (fun q => by rw [q] at p1; omega) with q | q
        · exact q
        · have := plc_lt hb2 f2 q; omega
      have k1 := h.b b1 hb1
      have k2 := h.b b2 hb2
      rw [if_pos (by omega), gd_ok (by omega), show (m : Int) - 1 = ((m - 1 : Nat) : Int) by omega, o1, Option.bind_some, o2, Option.bind_some, s_bayOf2 hb1, Option.bind_some, s_bayOf2 hb2, Option.bind_some, gd_ok (by omega), s_bayOf1 hb1, Option.bind_some, s_bayOf1 hb2, Option.bind_some, gd_ok (by omega), gd_ok (by omega)]
      have goal : ∃ s' : Int × Int, (some (Sum.inl ((1 : Int), (m : Int) + 1)) : Option ((Int × Int) ⊕ Int)) = some (Sum.inl s') ∧ (s'.1 = 1 ∧ ∃ m' : Nat, s'.2 = m' ∧ 1 ≤ m') ∧ 40 - s'.2.toNat < 40 - (((m : Nat) : Int)).toNat := ⟨_, rfl, ⟨rfl, m + 1, by show (m : Int) + 1 = _; omega, by omega⟩, by show 40 - ((m : Int) + 1).toNat < _; omega⟩
      unfold ahd at ha
      by_cases d1 : 0 < wal M 0 2 b1 - wal M 0 2 b2
      · rw [if_pos d1]; exact goal
      · rw [if_neg d1, if_pos (by omega)]
        by_cases d2 : 0 < wal M 0 1 b1 - wal M 0 1 b2
        · rw [if_pos d2]; exact goal
        · rw [if_neg d2, if_pos (by omega), if_pos (by omega)]; exact goal
    · right
      rw [if_neg (by omega)]
      exact ⟨_, rfl, rfl⟩
  obtain ⟨r, er, hr⟩ := hl
  rw [er, hr]
theorem s_rank_l140 (h : WI T B e (wal M 0)) {x : Int} (hx : (x = -15 ∧ ∀ r, 0 < r → r < 33 → wal M 0 4 r = 1) ∨ ∃ b : Nat, 0 < b ∧ b < 33 ∧ x = b ∧ ∀ r, 0 < r → r < 33 → wal M 0 4 r ≠ 1 → free (wal M 0) b ≤ free (wal M 0) r) (n : Int) : loopN (fL_areRanks_l140 M n x) 200 (1, 1) = some 1 := by
  refine loop_c (fun i : Nat => ((1 : Int), ((i + 1 : Nat) : Int))) 32 rfl (by decide) ?_ ?_
  · intro i hi
    have hs := h.sum (r := i + 1) (by omega) (by omega)
    have hz := sz_pos (i + 1)
    unfold fL_areRanks_l140 fL_areRanks_j208
    dsimp only
    rw [if_neg (by decide), if_pos (by omega), s_rungOf2 (by omega) (by omega), Option.bind_some, s_rungOf1 (by omega) (by omega), Option.bind_some, gd_ok (by omega), s_rungOf3 (by omega) (by omega), Option.bind_some, gd_ok (by omega), gd_ok (by omega)]
    by_cases c1 : wal M 0 4 (i + 1) = 1
    · rw [if_pos c1, if_pos rfl]; rfl
    · rw [if_neg c1, if_neg (by decide)]
      rcases hx with ⟨_, q⟩ | ⟨b, b0, b33, eb, q⟩
      · exact absurd (q (i + 1) (by omega) (by omega)) c1
      · have hf := q (i + 1) (by omega) (by omega) c1
        have hs2 := h.sum b0 b33
        have hz2 := sz_pos b
        unfold free at hf
        rw [if_neg (by omega), eb, s_rungOf2 b0 b33, Option.bind_some, s_rungOf1 b0 b33, Option.bind_some, gd_ok (by omega), if_neg (by omega)]
        rfl
  · unfold fL_areRanks_l140
    rfl
theorem s_soundShare : fG_soundShare M = some (FP.fdiv (FP.i2f (i3 (32 - (numC (wal M 0) : Int)))) 1107296256) := by
  unfold fG_soundShare
  have ec : fW_crackedRungs M 0 = some (numC (wal M 0) : Int) := s_crackedRungs (by decide)
  rw [ec, Option.bind_some]
  have := (share_ok (numC (wal M 0)) (by have := cnt_le (fun r => wal M 0 4 (r + 1) == 1) 32; unfold numC; omega)).1
  unfold gff
  exact if_pos this
theorem s_areRanks (h : WI T B e (wal M 0)) (hT : T ≤ 1000000) : fL_areRanks M = some 1 := by
  have a2 := s_account (M := M) h.few (i := 2) (by decide)
  have a13 := s_account (M := M) h.few (i := 13) (by decide)
  rw [show acc (wal M 0) 2 = (nFil (wal M 0) : Int) from rfl, show ((2 : Nat) : Int) = 2 from rfl] at a2
  rw [show acc (wal M 0) 13 = (numC (wal M 0) : Int) from rfl, show ((13 : Nat) : Int) = 13 from rfl] at a13
  have sh := share_ok (numC (wal M 0)) (by have := cnt_le (fun r => wal M 0 4 (r + 1) == 1) 32; unfold numC; omega)
  obtain ⟨x, ex, hx⟩ := s_tightest h
  obtain ⟨y, ey, hy⟩ := s_commonAge h
  have j242 : ∀ t : Int, fL_areRanks_j242 M t t = some 1 := by
    intro t
    unfold fL_areRanks_j242
    rw [if_pos rfl, s_soundShare, Option.bind_some, a13, Option.bind_some, sh.2]
    unfold gff
    rw [if_pos sh.1, if_pos rfl]
  unfold fL_areRanks
  rw [a2, Option.bind_some, s_oldest_no (Or.inr (Int.le_refl _)), Option.bind_some, if_pos rfl, s_oldest_no (Or.inl (by decide)), Option.bind_some, if_pos rfl]
  unfold fL_areRanks_j31 fL_areRanks_j228
  rw [s_rank_l34 h hT, Option.bind_some, ex, Option.bind_some, s_rank_l140 h hx, Option.bind_some, if_neg (by decide)]
  simp only [ey, Option.bind_some]
  by_cases c : nFil (wal M 0) = 0
  · rw [if_pos (by omega), if_pos (hy.2 c)]; exact j242 1
  · rw [if_neg (by omega), if_neg (fun q => c (hy.1 q))]; exact j242 0
end ARANKS
