/-! reading of the text -/
def nxt (c : Nat → Int) (n p : Nat) : Int := if p < n then c p else -11
def TX (c : Nat → Int) (n p : Nat) (M : MemG) : Prop := M 2 1 = n ∧ M 2 5 = p ∧ n ≤ 60 ∧ ∀ i, i < n → M 82 i = c i
def St (c : Nat → Int) (n p : Nat) (M0 : MemG) (k : Int) (M : MemG) : Prop := TX c n p M ∧ (∀ a, a ≠ 2 → a ≠ 83 → M a = M0 a) ∧ M 2 3 = M0 2 3 ∧ 0 ≤ M 2 4 ∧ M 2 4 ≤ k
theorem up_at {M : MemG} {a i : Nat} {v : Int} : up M a i v a i = v := by unfold up; rw [if_pos ⟨rfl, rfl⟩]
theorem up_ne {M : MemG} {a i j : Nat} {v : Int} (h : j ≠ i) : up M a i v a j = M a j := by unfold up; rw [if_neg (fun q => h q.2)]
section READ
variable {c : Nat → Int} {n p : Nat} {M M0 : MemG} {k : Int}
theorem TX.next (h : TX c n p M) : fT_nextCode M = nxt c n p := by
  unfold fT_nextCode nxt
  rw [h.1, h.2.1]
  by_cases q : p < n
  · have := h.2.2.1
    rw [if_pos (by omega), if_pos q]
    unfold fG_at
    rw [if_neg (by omega), if_pos (show (p : Int) < ((lenA 82 : Nat) : Int) by show (p : Int) < ((60 : Nat) : Int); omega), Int.toNat_natCast, h.2.2.2 p q]
  · rw [if_neg (by omega), if_neg q]
theorem St.mono {k' : Int} (h : St c n p M0 k M) (hk : k ≤ k') : St c n p M0 k' M := ⟨h.1, h.2.1, h.2.2.1, h.2.2.2.1, by have := h.2.2.2.2; omega⟩
theorem put83 (M : MemG) (x v : Int) : ∃ M1, fG_put M 83 x v = some M1 ∧ ∀ a, a ≠ 83 → M1 a = M a := by
  unfold fG_put
  split
  · exact ⟨_, rfl, fun _ _ => rfl⟩
  · split
    · exact ⟨_, rfl, fun a q => up_other q⟩
    · exact ⟨_, rfl, fun _ _ => rfl⟩
theorem St.cell (h : St c n p M0 k M) (hk : k ≤ 1000) (v : Int) : ∃ M', fT_addCell M v = some M' ∧ St c n p M0 (k + 1) M' := by
  obtain ⟨M1, e, o⟩ := put83 M (M 2 4) v
  obtain ⟨h1, h2, h3, h4, h5⟩ := h
  unfold fT_addCell
  have e2 : M1 2 = M 2 := o 2 (by decide)
  rw [e, Option.bind_some, e2, gd_ok (by omega)]
  refine ⟨_, rfl, ⟨?_, ?_, h1.2.2.1, ?_⟩, ?_, ?_, ?_, ?_⟩
  · rw [up_ne (by decide), e2]; exact h1.1
  · rw [up_ne (by decide), e2]; exact h1.2.1
  · intro i hi
    rw [up_other (by decide), o 82 (by decide)]; exact h1.2.2.2 i hi
  · intro a q1 q2
    rw [up_other q1, o a q2]; exact h2 a q1 q2
  · rw [up_ne (by decide), e2]; exact h3
  · rw [up_at]; omega
  · rw [up_at]; omega
theorem St.step (h : St c n p M0 k M) : M 2 5 = (p : Int) ∧ St c n (p + 1) M0 k (up M 2 5 (M 2 5 + 1)) := by
  obtain ⟨h1, h2, h3, h4, h5⟩ := h
  refine ⟨h1.2.1, ⟨?_, ?_, h1.2.2.1, ?_⟩, ?_, ?_, ?_, ?_⟩
  · rw [up_ne (by decide)]; exact h1.1
  · rw [up_at, h1.2.1]; omega
  · intro i hi
    rw [up_other (by decide)]; exact h1.2.2.2 i hi
  · intro a q1 q2
    rw [up_other q1]; exact h2 a q1 q2
  · rw [up_ne (by decide)]; exact h3
  · rw [up_ne (by decide)]; omega
  · rw [up_ne (by decide)]; omega
theorem s_readCode (h : St c n p M0 k M) (hp : p ≤ 200) {q : Int} (hq : nxt c n p = q) : ∃ M', fT_readCode M q = some (M', 1) ∧ St c n (p + 1) M0 k M' := by
  obtain ⟨e, s⟩ := h.step
  unfold fT_readCode
  rw [h.1.next, if_pos hq, gd_ok (by omega), Option.bind_some]
  exact ⟨_, rfl, s⟩
theorem letters : ∀ a : Nat, a < 4 → fG_atS 87 (a : Int) = tabS 87 a := by decide
theorem letters_ne : ∀ b : Nat, b < 4 → ∀ a, a < b → tabS 87 a ≠ tabS 87 b := by decide
theorem s_readKind (h : St c n p M0 k M) (hk : k ≤ 1000) (hp : p ≤ 200) {b : Nat} (hb : b < 4) (hq : nxt c n p = tabS 87 b) : ∃ M', fT_readKind M = some (M', 1) ∧ St c n (p + 1) M0 (k + 1) M' := by
  have hl : loopN (fT_readKind_l2 M) 200 0 = some (.inl (b : Int)) := by
    refine loop_c (fun i : Nat => (i : Int)) b rfl (by omega) ?_ ?_
    · intro i hi
      have := letters_ne b hb i hi
      unfold fT_readKind_l2
      rw [if_pos (by omega), letters i (by omega), h.1.next, if_neg (by rw [hq]; exact fun z => this z.symm), gd_ok (by omega)]
      rfl
    · unfold fT_readKind_l2
      rw [if_pos (by omega), letters b hb, h.1.next, if_pos hq]
  obtain ⟨M1, e1, s1⟩ := h.cell hk b
  obtain ⟨e2, s2⟩ := s1.step
  unfold fT_readKind
  rw [hl, Option.bind_some]
  dsimp only
  rw [e1, Option.bind_some, gd_ok (by omega), Option.bind_some]
  exact ⟨_, rfl, s2⟩
def pN (c : Nat → Int) (n : Nat) : Nat → Nat → Nat
  | 0, _ => 0
  | m + 1, p => if 48 ≤ nxt c n p ∧ nxt c n p ≤ 57 then 1 + pN c n m (p + 1) else 0
theorem pN_le (c : Nat → Int) (n : Nat) : ∀ m p, pN c n m p ≤ m
  | 0, _ => Nat.le_refl _
  | m + 1, p => by
    rw [pN]
    have := pN_le c n m (p + 1)
    split <;> omega
theorem s_readNumber (h : St c n p M0 k M) (hk : k ≤ 1000) (hp : p ≤ 200) {mx : Nat} (hm : mx ≤ 3) (hq : 0 < pN c n mx p) : ∃ M', fT_readNumber M (mx : Int) = some (M', 1) ∧ St c n (p + pN c n mx p) M0 (k + 1) M' := by
  have hl : ∃ r, loopN (fT_readNumber_l4 (mx : Int)) 200 ((0 : Int), (0 : Int), M) = some r ∧ (r.2.1 = (pN c n mx p : Nat) ∧ St c n (p + pN c n mx p) M0 k r.2.2) := by
    refine loop_inv _ (fun z : Int × Int × MemG => ∃ d : Nat, z.2.1 = d ∧ d ≤ mx ∧ 0 ≤ z.1 ∧ z.1 < 10 ^ d ∧ St c n (p + d) M0 k z.2.2 ∧ pN c n mx p = d + pN c n (mx - d) (p + d)) (fun z => mx - z.2.1.toNat) _ ?_ 200 _ ⟨0, rfl, Nat.zero_le _, Int.le_refl _, by show (0 : Int) < 10 ^ 0; decide, h, by simp⟩ (by show mx - 0 < 200; omega)
    rintro ⟨z1, z2, z3⟩ ⟨d, e, hd, h0, h1, hs, hn⟩
    replace e : z2 = (d : Int) := e
    subst e
    replace h0 : 0 ≤ z1 := h0
    replace h1 : z1 < 10 ^ d := h1
    replace hs : St c n (p + d) M0 k z3 := hs
    have h9 : z1 ≤ 10000 := by
      have : d = 0 ∨ d = 1 ∨ d = 2 ∨ d = 3 := by omega
      rcases this with rfl | rfl | rfl | rfl <;> simp at h1 <;> omega
    obtain ⟨e5, s5⟩ := hs.step
    unfold fT_readNumber_l4
    dsimp only
    by_cases c1 : (d : Int) < (mx : Int)
    · rw [if_pos c1, hs.1.next, within_eq]
      obtain ⟨m', hm'⟩ : ∃ m', mx - d = m' + 1 := ⟨mx - d - 1, by omega⟩
      by_cases c2 : 48 ≤ nxt c n (p + d) ∧ nxt c n (p + d) ≤ 57
      · left
        rw [if_pos c2, if_neg (by decide), gd_ok (by omega), gd_ok (by omega), e5, gd_ok (by omega), Option.bind_some]
        rw [e5] at s5
        refine ⟨_, rfl, ⟨d + 1, by show (d : Int) + 1 = _; omega, by omega, by show 0 ≤ 10 * z1 + _ - 48; omega, ?_, s5, ?_⟩, ?_⟩
        · show 10 * z1 + nxt c n (p + d) - 48 < 10 ^ (d + 1)
          generalize nxt c n (p + d) = y at c2 ⊢
          have : d = 0 ∨ d = 1 ∨ d = 2 := by omega
          rcases this with rfl | rfl | rfl <;> simp at h1 ⊢ <;> omega
        · rw [hn, hm', pN, if_pos c2, show mx - (d + 1) = m' by omega, show p + (d + 1) = p + d + 1 by omega]
          omega
        · show mx - ((d : Int) + 1).toNat < mx - ((d : Int)).toNat
          omega
      · right
        rw [if_neg c2, if_pos rfl]
        have hz : pN c n mx p = d := by rw [hn, hm', pN, if_neg c2]; rfl
        refine ⟨_, rfl, ?_, ?_⟩
        · show (d : Int) = _
          rw [hz]
        · show St c n _ M0 k z3
          rw [hz]; exact hs
    · right
      rw [if_neg c1]
      have hz : pN c n mx p = d := by rw [hn, show mx - d = 0 by omega, pN]; rfl
      refine ⟨_, rfl, ?_, ?_⟩
      · show (d : Int) = _
        rw [hz]
      · show St c n _ M0 k z3
        rw [hz]; exact hs
  obtain ⟨r, e, h1, h2⟩ := hl
  obtain ⟨M1, e1, s1⟩ := h2.cell hk r.1
  unfold fT_readNumber
  rw [e, Option.bind_some, e1, Option.bind_some, h1, if_pos (by omega)]
  exact ⟨_, rfl, s1⟩
end READ
