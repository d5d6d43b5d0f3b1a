/-! reading of commands -/
def pS (c : Nat → Int) (n : Nat) (q : Int) (p : Nat) : Option Nat := if q = 50 then (if 0 < pN c n 2 p then some (p + pN c n 2 p) else none) else if q = 51 then (if 0 < pN c n 3 p then some (p + pN c n 3 p) else none) else if q = 63 then (if nxt c n p = tabS 87 0 ∨ nxt c n p = tabS 87 1 ∨ nxt c n p = tabS 87 2 ∨ nxt c n p = tabS 87 3 then some (p + 1) else none) else if nxt c n p = q then some (p + 1) else none
def pR (c : Nat → Int) (n : Nat) (i : Nat) : Nat → Nat → Nat → Option Nat
  | 0, _, p => some p
  | m + 1, k, p => (pS c n (chS i k) p).bind fun p2 => pR c n i m (k + 1) p2
def pV (c : Nat → Int) (n p : Nat) : Option Nat := if nxt c n p = chS 0 0 then some 0 else if nxt c n p = chS 1 0 then some 1 else if nxt c n p = chS 2 0 then some 2 else if nxt c n p = chS 3 0 then some 3 else if nxt c n p = chS 4 0 then some 4 else if nxt c n p = chS 5 0 then some 5 else none
def pL (c : Nat → Int) (n : Nat) : Nat → Nat → Option Nat
  | 0, _ => none
  | f + 1, p => (pV c n p).bind fun v => (pR c n v (lenS v) 0 p).bind fun p2 => if p2 = n then some 1 else if nxt c n p2 = 59 then (pL c n f (p2 + 1)).bind fun m => some (m + 1) else none
theorem pS_le {c : Nat → Int} {n : Nat} {q : Int} {p p2 : Nat} (h : pS c n q p = some p2) : p2 ≤ p + 3 := by
  unfold pS at h
  have h2 := pN_le c n 2 p
  have h3 := pN_le c n 3 p
  repeat' split at h
  all_goals first | cases h | skip
  all_goals omega
section READ2
variable {c : Nat → Int} {n p : Nat} {M M0 : MemG} {k : Int}
theorem s_part (h : St c n p M0 k M) (hk : k ≤ 1000) (hp : p ≤ 200) {i : Nat} {k0 : Int} {q : Int} {p2 : Nat} (hq : pS c n q p = some p2) : ∃ M', (if q = 50 then (fT_readNumber M 2).bind fun q19 => fT_readAlong_j77 (q19.1) (i) (q19.2) k0 else if q = 51 then (fT_readNumber M 3).bind fun q17 => fT_readAlong_j77 (q17.1) (i) (q17.2) k0 else if q = 63 then (fT_readKind M).bind fun q15 => fT_readAlong_j77 (q15.1) (i) (q15.2) k0 else (fT_readCode M q).bind fun q11 => fT_readAlong_j77 (q11.1) (i) (q11.2) k0) = fT_readAlong_j77 M' i 1 k0 ∧ St c n p2 M0 (k + 1) M' := by
  unfold pS at hq
  by_cases c1 : q = 50
  · rw [if_pos c1] at hq ⊢
    split at hq
    · rename_i z
      cases hq
      obtain ⟨M', e, s⟩ := s_readNumber h hk hp (mx := 2) (by decide) z
      rw [show ((2 : Nat) : Int) = 2 from rfl] at e
      rw [e, Option.bind_some]
      exact ⟨_, rfl, s⟩
    · cases hq
  · rw [if_neg c1] at hq ⊢
    by_cases c2 : q = 51
    · rw [if_pos c2] at hq ⊢
      split at hq
      · rename_i z
        cases hq
        obtain ⟨M', e, s⟩ := s_readNumber h hk hp (mx := 3) (by decide) z
        rw [show ((3 : Nat) : Int) = 3 from rfl] at e
        rw [e, Option.bind_some]
        exact ⟨_, rfl, s⟩
      · cases hq
    · rw [if_neg c2] at hq ⊢
      by_cases c3 : q = 63
      · rw [if_pos c3] at hq ⊢
        split at hq
        · rename_i z
          cases hq
          have hz : ∃ b : Nat, b < 4 ∧ nxt c n p = tabS 87 b := by
            rcases z with z | z | z | z
            · exact ⟨0, by decide, z⟩
            · exact ⟨1, by decide, z⟩
            · exact ⟨2, by decide, z⟩
            · exact ⟨3, by decide, z⟩
          obtain ⟨b, hb, hz⟩ := hz
          obtain ⟨M', e, s⟩ := s_readKind h hk hp hb hz
          rw [e, Option.bind_some]
          exact ⟨_, rfl, s⟩
        · cases hq
      · rw [if_neg c3] at hq ⊢
        split at hq
        · rename_i z
          cases hq
          obtain ⟨M', e, s⟩ := s_readCode h hp z
          rw [e, Option.bind_some]
          exact ⟨_, rfl, s.mono (by omega)⟩
        · cases hq
theorem s_readAlong (h : St c n p M0 k M) (hk : k ≤ 900) {i : Nat} (hi : lenS i ≤ 60) (hp : p + 3 * lenS i ≤ 190) {pe : Nat} (hq : pR c n i (lenS i) 0 p = some pe) : ∃ M', fT_readAlong M i = some (M', 1) ∧ St c n pe M0 (k + lenS i) M' := by
  unfold fT_readAlong
  suffices hl : ∃ r : MemG × Int, loopN (fT_readAlong_l4 i) 200 ((1 : Int), (0 : Int), M) = some r ∧ (r.2 = 1 ∧ St c n pe M0 (k + lenS i) r.1) by
    obtain ⟨⟨M', f⟩, e, h1, h2⟩ := hl
    cases h1
    exact ⟨M', e, h2⟩
  refine loop_inv _ (fun z : Int × Int × MemG => z.1 = 1 ∧ ∃ d : Nat, ∃ p1 : Nat, z.2.1 = d ∧ d ≤ lenS i ∧ p1 ≤ p + 3 * d ∧ St c n p1 M0 (k + d) z.2.2 ∧ pR c n i (lenS i - d) d p1 = some pe) (fun z => lenS i - z.2.1.toNat) _ ?_ 200 _ ⟨rfl, 0, p, rfl, Nat.zero_le _, by omega, h.mono (by omega), hq⟩ (by show lenS i - 0 < 200; omega)
  rintro ⟨z1, z2, z3⟩ ⟨h1, d, p1, e, hd, hp1, hs, hr⟩
  replace h1 : z1 = 1 := h1
  replace e : z2 = (d : Int) := e
  replace hs : St c n p1 M0 (k + d) z3 := hs
  subst h1
  subst e
  unfold fT_readAlong_l4
  dsimp only
  by_cases c1 : d < lenS i
  · left
    obtain ⟨m, hm⟩ : ∃ m, lenS i - d = m + 1 := ⟨lenS i - d - 1, by omega⟩
    rw [hm, pR] at hr
    cases hx : pS c n (chS i d) p1 with
    | none => rw [hx] at hr; cases hr
    | some p2 =>
      rw [hx, Option.bind_some] at hr
      have hle := pS_le hx
      obtain ⟨M', e, s⟩ := s_part (k0 := (d : Int)) (i := i) hs (by omega) (by omega) hx
      have ec : fS_charAt i (d : Int) = some (chS i d) := by
        unfold fS_charAt
        rw [gx_ok (by omega), Int.toNat_natCast]
      rw [if_pos (show (d : Int) < fS_length i by unfold fS_length; omega), if_neg (by decide), ec, Option.bind_some, e]
      unfold fT_readAlong_j77
      rw [gd_ok (by omega)]
      refine ⟨_, rfl, ⟨rfl, d + 1, p2, by show (d : Int) + 1 = _; omega, by omega, by omega, s.mono (by omega), ?_⟩, ?_⟩
      · rw [show lenS i - (d + 1) = m by omega]; exact hr
      · show lenS i - ((d : Int) + 1).toNat < lenS i - ((d : Int)).toNat
        omega
  · right
    rw [if_neg (show ¬ ((d : Int) < fS_length i) by unfold fS_length; omega)]
    rw [show lenS i - d = 0 by omega, pR] at hr
    cases hr
    unfold gz
    rw [if_pos (by decide)]
    exact ⟨_, rfl, rfl, hs.mono (by omega)⟩
theorem pat_ch : ∀ v : Nat, v < 6 → fT_patternOf (v : Int) = v ∧ fS_isEmpty v = 0 ∧ fS_charAt v 0 = some (chS v 0) ∧ lenS v ≤ 11 := by decide +kernel
theorem pV_lt {v : Nat} (h : pV c n p = some v) : v < 6 ∧ nxt c n p = chS v 0 ∧ ∀ u, u < v → nxt c n p ≠ chS u 0 := by
  have hne : ∀ v : Nat, v < 6 → ∀ u, u < v → chS v 0 ≠ chS u 0 := by decide +kernel
  have : v < 6 ∧ nxt c n p = chS v 0 := by
    unfold pV at h
    repeat' split at h
    all_goals first | (cases h; constructor; decide; assumption) | cases h
  refine ⟨this.1, this.2, fun u hu => ?_⟩
  rw [this.2]
  exact hne v this.1 u hu
end READ2
