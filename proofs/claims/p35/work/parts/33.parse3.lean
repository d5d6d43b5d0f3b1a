/-! whole texts -/
section READ3
variable {c : Nat → Int} {n p : Nat} {M : MemG}
theorem s_readCommand (h : TX c n p M) (hm : 0 ≤ M 2 3 ∧ M 2 3 ≤ 12) (hp : p ≤ 60) {v pe : Nat} (hv : pV c n p = some v) (hr : pR c n v (lenS v) 0 p = some pe) : ∃ M', fT_readCommand M = some (M', 1) ∧ TX c n pe M' ∧ (∀ a, a ≠ 2 → a ≠ 83 → M' a = M a) ∧ M' 2 3 = M 2 3 + 1 := by
  obtain ⟨v6, ve, vn⟩ := pV_lt hv
  have hl2 : loopN (fT_readCommand_l2 M) 200 0 = some (.inl ((v : Int), v)) := by
    refine loop_c (fun i : Nat => (i : Int)) v rfl (by omega) ?_ ?_
    · intro i hi
      obtain ⟨p1, p2, p3, _⟩ := pat_ch i (by omega)
      unfold fT_readCommand_l2
      rw [if_pos (by omega), p1, p2, if_pos rfl, p3, Option.bind_some, h.next, if_neg (vn i hi)]
      unfold fT_readCommand_j63
      rw [gd_ok (by omega)]
      rfl
    · obtain ⟨p1, p2, p3, _⟩ := pat_ch v v6
      unfold fT_readCommand_l2
      rw [if_pos (by omega), p1, p2, if_pos rfl, p3, Option.bind_some, h.next, if_pos ve]
  obtain ⟨_, _, _, vl⟩ := pat_ch v v6
  have s0 : St c n p M (M 2 3 * 4) (up M 2 4 (M 2 3 * 4)) := by
    refine ⟨⟨?_, ?_, h.2.2.1, ?_⟩, ?_, ?_, ?_, ?_⟩
    · rw [up_ne (by decide)]; exact h.1
    · rw [up_ne (by decide)]; exact h.2.1
    · intro i hi; rw [up_other (by decide)]; exact h.2.2.2 i hi
    · intro a q1 q2; rw [up_other q1]
    · rw [up_ne (by decide)]
    · rw [up_at]; omega
    · rw [up_at]; omega
  obtain ⟨M1, e1, s1⟩ := s0.cell (by omega) (v : Int)
  have s2 : St c n p (up M1 2 3 (M1 2 3 + 1)) (M 2 3 * 4 + 1) (up M1 2 3 (M1 2 3 + 1)) := by
    refine ⟨⟨?_, ?_, h.2.2.1, ?_⟩, fun _ _ _ => rfl, rfl, ?_, ?_⟩
    · rw [up_ne (by decide)]; exact s1.1.1
    · rw [up_ne (by decide)]; exact s1.1.2.1
    · intro i hi; rw [up_other (by decide)]; exact s1.1.2.2.2 i hi
    · rw [up_ne (by decide)]; exact s1.2.2.2.1
    · rw [up_ne (by decide)]; exact s1.2.2.2.2
  obtain ⟨M2, e2, s3⟩ := s_readAlong s2 (by omega) (i := v) (by omega) (by omega) hr
  have z3 : M1 2 3 = M 2 3 := s1.2.2.1
  unfold fT_readCommand
  rw [hl2, Option.bind_some]
  dsimp only
  rw [gd_ok (by omega), Option.bind_some, e1, Option.bind_some, gd_ok (by omega), Option.bind_some, e2, Option.bind_some]
  refine ⟨_, rfl, s3.1, fun a q1 q2 => ?_, ?_⟩
  · show M2 a = M a
    rw [s3.2.1 a q1 q2, up_other q1, s1.2.1 a q1 q2]
  · show M2 2 3 = _
    rw [s3.2.2.1, up_at, z3]
theorem nxt_lt {q : Int} (h : nxt c n p = q) (h0 : q ≠ -11) : p < n := by
  unfold nxt at h
  split at h
  · assumption
  · exact absurd h.symm h0
theorem s_readCommands (h : M 2 1 = n) (hn : n ≤ 60) (hc : ∀ i, i < n → M 82 i = c i) {cnt : Nat} (hq : pL c n 11 0 = some cnt) : ∃ M', fT_readCommands M = some (M', 1) ∧ (∀ a, a ≠ 2 → a ≠ 83 → M' a = M a) ∧ 0 ≤ M' 2 3 ∧ M' 2 3 ≤ 11 := by
  unfold fT_readCommands
  rw [Option.bind_some, Option.bind_some]
  suffices hl : ∃ r : MemG × Int, loopN fT_readCommands_l12 200 ((0 : Int), up (up M 2 5 0) 2 3 0) = some r ∧ (r.2 = 1 ∧ (∀ a, a ≠ 2 → a ≠ 83 → r.1 a = M a) ∧ 0 ≤ r.1 2 3 ∧ r.1 2 3 ≤ 11) by
    obtain ⟨⟨M', f⟩, e, h1, h2⟩ := hl
    cases h1
    exact ⟨M', e, h2⟩
  refine loop_inv _ (fun z : Int × MemG => ∃ m p1 cn : Nat, z.1 = m ∧ m ≤ 11 ∧ z.2 2 3 = m ∧ TX c n p1 z.2 ∧ p1 ≤ 60 ∧ (∀ a, a ≠ 2 → a ≠ 83 → z.2 a = M a) ∧ pL c n (11 - m) p1 = some cn) (fun z => 11 - z.1.toNat) _ ?_ 200 _ ⟨0, 0, cnt, rfl, by decide, by show up (up M 2 5 0) 2 3 0 2 3 = _; rw [up_at]; rfl, ⟨?_, ?_, hn, ?_⟩, by decide, ?_, hq⟩ (by show 11 - 0 < 200; decide)
  · rintro ⟨z1, z2⟩ ⟨m, p1, cn, e, hm, e3, ht, hp1, hf, hr⟩
    replace e : z1 = (m : Int) := e
    subst e
    replace e3 : z2 2 3 = (m : Int) := e3
    replace ht : TX c n p1 z2 := ht
    replace hf : ∀ a, a ≠ 2 → a ≠ 83 → z2 a = M a := hf
    obtain ⟨f, hff⟩ : ∃ f, 11 - m = f + 1 := by
      refine ⟨11 - m - 1, ?_⟩
      by_cases c0 : m = 11
      · subst c0; cases hr
      · omega
    rw [hff, pL] at hr
    cases hv : pV c n p1 with
    | none => rw [hv] at hr; cases hr
    | some v =>
      rw [hv, Option.bind_some] at hr
      cases hx : pR c n v (lenS v) 0 p1 with
      | none => rw [hx] at hr; cases hr
      | some p2 =>
        rw [hx, Option.bind_some] at hr
        obtain ⟨M1, e1, t1, f1, c1⟩ := s_readCommand ht (by omega) hp1 hv hx
        have hf1 : ∀ a, a ≠ 2 → a ≠ 83 → M1 a = M a := fun a q1 q2 => (f1 a q1 q2).trans (hf a q1 q2)
        unfold fT_readCommands_l12
        dsimp only
        rw [if_neg (by omega), e1, Option.bind_some, if_neg (show ¬ ((1 : Int) = 0) by decide)]
        dsimp only
        have t11 := t1.1
        have t12 := t1.2.1
        by_cases c2 : p2 = n
        · right
          rw [if_pos (by omega)]
          exact ⟨_, rfl, rfl, hf1, by show 0 ≤ M1 2 3; omega, by show M1 2 3 ≤ 11; omega⟩
        · left
          rw [if_neg c2] at hr
          split at hr
          · rename_i h59
            have hlt := nxt_lt h59 (by decide)
            cases hy : pL c n f (p2 + 1) with
            | none => rw [hy] at hr; cases hr
            | some cn2 =>
              have hrc : fT_readCode M1 59 = some (up M1 2 5 (M1 2 5 + 1), 1) := by
                unfold fT_readCode
                have := t1.2.1
                have := t1.2.2.1
                rw [t1.next, if_pos h59, gd_ok (by omega), Option.bind_some]
              rw [if_neg (by omega), hrc, Option.bind_some, if_neg (show ¬ ((1 : Int) = 0) by decide), gd_ok (by omega)]
              refine ⟨_, rfl, ⟨m + 1, p2 + 1, cn2, by show (m : Int) + 1 = _; omega, by omega, ?_, ⟨?_, ?_, hn, ?_⟩, by omega, ?_, ?_⟩, ?_⟩
              · show up M1 2 5 (M1 2 5 + 1) 2 3 = _
                rw [up_ne (by decide), c1, e3]; omega
              · show up M1 2 5 (M1 2 5 + 1) 2 1 = _
                rw [up_ne (by decide)]; exact t1.1
              · show up M1 2 5 (M1 2 5 + 1) 2 5 = _
                rw [up_at, t1.2.1]; omega
              · intro i hi
                show up M1 2 5 (M1 2 5 + 1) 82 i = _
                rw [up_other (by decide)]; exact t1.2.2.2 i hi
              · intro a q1 q2
                show up M1 2 5 (M1 2 5 + 1) a = _
                rw [up_other q1]; exact hf1 a q1 q2
              · rw [show 11 - (m + 1) = f by omega]; exact hy
              · show 11 - ((m : Int) + 1).toNat < 11 - ((m : Int)).toNat
                omega
          · cases hr
  · show up (up M 2 5 0) 2 3 0 2 1 = _
    rw [up_ne (by decide), up_ne (by decide)]; exact h
  · show up (up M 2 5 0) 2 3 0 2 5 = _
    rw [up_ne (by decide), up_at]; rfl
  · intro i hi
    show up (up M 2 5 0) 2 3 0 82 i = _
    rw [up_other (by decide), up_other (by decide)]; exact hc i hi
  · intro a q1 q2
    show up (up M 2 5 0) 2 3 0 a = _
    rw [up_other q1, up_other q1]
theorem s_readNone (h : M 2 1 = 0) : ∃ M', fT_readCommands M = some (M', 0) ∧ (∀ a, a ≠ 2 → M' a = M a) ∧ M' 2 5 = 0 := by
  have hx : TX (fun _ => 0) 0 0 (up (up M 2 5 0) 2 3 0) := by
    refine ⟨?_, ?_, by decide, fun i hi => absurd hi (Nat.not_lt_zero i)⟩
    · rw [up_ne (by decide), up_ne (by decide)]; exact h
    · rw [up_ne (by decide), up_at]; rfl
  have hne : ∀ v : Nat, v < 6 → chS v 0 ≠ -11 := by decide +kernel
  have hl : loopN (fT_readCommand_l2 (up (up M 2 5 0) 2 3 0)) 200 0 = some (.inr (up (up M 2 5 0) 2 3 0, 0)) := by
    refine loop_c (fun i : Nat => (i : Int)) 6 rfl (by omega) ?_ ?_
    · intro i hi
      obtain ⟨p1, p2, p3, _⟩ := pat_ch i hi
      unfold fT_readCommand_l2
      rw [if_pos (by omega), p1, p2, if_pos rfl, p3, Option.bind_some, hx.next, if_neg (show ¬ (nxt (fun _ => 0) 0 0 = chS i 0) from fun q => hne i hi q.symm)]
      unfold fT_readCommand_j63
      rw [gd_ok (by omega)]
      rfl
    · rfl
  refine ⟨up (up M 2 5 0) 2 3 0, ?_, fun a q => by rw [up_other q, up_other q], hx.2.1⟩
  unfold fT_readCommands
  rw [Option.bind_some, Option.bind_some, loopN]
  unfold fT_readCommands_l12
  dsimp only
  rw [if_neg (by decide)]
  unfold fT_readCommand
  rw [hl]
  rfl
theorem txt_ok : ∀ i : Nat, i < 26 → 7 ≤ i → lenS i ≤ 60 ∧ (pL (chS i) (lenS i) 11 0).isSome = true := by decide +kernel
theorem txt_ch : ∀ i : Nat, i < 26 → ∀ j, j < lenS i → 32 ≤ chS i j ∧ chS i j ≤ 126 := by decide +kernel
theorem s_write (h : M 2 1 = 0) {i : Nat} (hi : i < 26) (h7 : 7 ≤ i) : ∃ M', fL_write M i = some M' ∧ M' 2 1 = (lenS i : Nat) ∧ (∀ j, j < lenS i → M' 82 j = chS i j) ∧ ∀ a, a ≠ 2 → a ≠ 82 → M' a = M a := by
  have hn := (txt_ok i hi h7).1
  have hc := txt_ch i hi
  unfold fL_write
  suffices hl : ∃ r : MemG, loopN (fL_write_l2 i) 200 ((0 : Int), M) = some r ∧ (r 2 1 = (lenS i : Nat) ∧ (∀ j, j < lenS i → r 82 j = chS i j) ∧ ∀ a, a ≠ 2 → a ≠ 82 → r a = M a) by
    obtain ⟨r, e, h1⟩ := hl
    exact ⟨r, by rw [e, Option.bind_some], h1⟩
  refine loop_inv _ (fun z : Int × MemG => ∃ m : Nat, z.1 = m ∧ m ≤ lenS i ∧ z.2 2 1 = m ∧ (∀ j, j < m → z.2 82 j = chS i j) ∧ ∀ a, a ≠ 2 → a ≠ 82 → z.2 a = M a) (fun z => lenS i - z.1.toNat) _ ?_ 200 _ ⟨0, rfl, Nat.zero_le _, h, fun j hj => absurd hj (Nat.not_lt_zero j), fun _ _ _ => rfl⟩ (by show lenS i - 0 < 200; omega)
  rintro ⟨z1, z2⟩ ⟨m, e, hm, e1, ec, ef⟩
  replace e : z1 = (m : Int) := e
  subst e
  replace e1 : z2 2 1 = (m : Int) := e1
  replace ec : ∀ j, j < m → z2 82 j = chS i j := ec
  replace ef : ∀ a, a ≠ 2 → a ≠ 82 → z2 a = M a := ef
  unfold fL_write_l2
  dsimp only
  by_cases c1 : m < lenS i
  · left
    have ecc : fS_charAt i (m : Int) = some (chS i m) := by
      unfold fS_charAt
      rw [gx_ok (by omega), Int.toNat_natCast]
    have hcm := hc m c1
    have ea : fG_append z2 (chS i m) = some (up (up z2 82 m (chS i m)) 2 1 ((m : Int) + 1), (m : Int) + 1) := by
      unfold fG_append
      rw [within_eq, if_pos hcm, if_neg (by decide)]
      unfold fT_addCode
      rw [e1, if_pos (by omega)]
      unfold fG_put
      have e3 : up z2 82 (m : Int).toNat (chS i m) 2 1 = (m : Int) := by rw [up_other (by decide)]; exact e1
      rw [if_neg (by omega), if_pos (show (m : Int) < ((lenA 82 : Nat) : Int) by show (m : Int) < ((60 : Nat) : Int); omega), Option.bind_some, Option.bind_some, e3, gd_ok (by omega), Option.bind_some, up_at, Int.toNat_natCast]
      rfl
    rw [if_pos (show (m : Int) < fS_length i by unfold fS_length; omega), ecc, Option.bind_some, ea, Option.bind_some, gd_ok (by omega)]
    refine ⟨_, rfl, ⟨m + 1, by show (m : Int) + 1 = _; omega, by omega, ?_, ?_, ?_⟩, ?_⟩
    · show up (up z2 82 m (chS i m)) 2 1 ((m : Int) + 1) 2 1 = _
      rw [up_at]; omega
    · intro j hj
      show up (up z2 82 m (chS i m)) 2 1 ((m : Int) + 1) 82 j = _
      rw [up_other (by decide)]
      by_cases cj : j = m
      · rw [cj, up_at]
      · rw [up_ne cj]; exact ec j (by omega)
    · intro a q1 q2
      show up (up z2 82 m (chS i m)) 2 1 ((m : Int) + 1) a = _
      rw [up_other q1, up_other q2]; exact ef a q1 q2
    · show lenS i - ((m : Int) + 1).toNat < lenS i - ((m : Int)).toNat
      omega
  · right
    rw [if_neg (show ¬ ((m : Int) < fS_length i) by unfold fS_length; omega)]
    have : m = lenS i := by omega
    subst this
    exact ⟨_, rfl, e1, ec, ef⟩
end READ3
