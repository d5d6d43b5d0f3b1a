/-! plain facts: loops, sums, rungs, walls as rows of numbers -/
theorem loop_inv {σ ρ : Type} (f : σ → Option (σ ⊕ ρ)) (I : σ → Prop) (μ : σ → Nat) (P : ρ → Prop) (h : ∀ s, I s → (∃ s', f s = some (.inl s') ∧ I s' ∧ μ s' < μ s) ∨ ∃ r, f s = some (.inr r) ∧ P r) : ∀ (n : Nat) (s : σ), I s → μ s < n → ∃ r, loopN f n s = some r ∧ P r := by
  intro n
  induction n with
  | zero => intro s _ h2; omega
  | succ n ih =>
    intro s h1 h2
    rcases h s h1 with ⟨s', e, h3, h4⟩ | ⟨r, e, h3⟩
    · obtain ⟨r, e2, h5⟩ := ih s' h3 (by omega)
      refine ⟨r, ?_, h5⟩
      rw [loopN, e]
      exact e2
    · refine ⟨r, ?_, h3⟩
      rw [loopN, e]
      rfl
/-- a loop that counts: its state at each turn is told -/
theorem loop_cnt {σ ρ : Type} (f : σ → Option (σ ⊕ ρ)) (st : Nat → σ) (r : ρ) (N : Nat) (hs : ∀ i, i < N → f (st i) = some (.inl (st (i + 1)))) (he : f (st N) = some (.inr r)) : ∀ (d n : Nat), d ≤ N → d < n → loopN f n (st (N - d)) = some r := by
  intro d
  induction d with
  | zero =>
    intro n _ hn
    obtain ⟨n, rfl⟩ : ∃ k, n = k + 1 := ⟨n - 1, by omega⟩
    rw [loopN, Nat.sub_zero, he]
    rfl
  | succ d ih =>
    intro n hd hn
    obtain ⟨n, rfl⟩ : ∃ k, n = k + 1 := ⟨n - 1, by omega⟩
    rw [loopN, hs (N - (d + 1)) (by omega)]
    show loopN f n (st (N - (d + 1) + 1)) = some r
    rw [show N - (d + 1) + 1 = N - d by omega]
    exact ih n (by omega) (by omega)
theorem loop_c {σ ρ : Type} {f : σ → Option (σ ⊕ ρ)} (st : Nat → σ) {r : ρ} (N : Nat) {s0 : σ} (h0 : s0 = st 0) (hN : N < 200) (hs : ∀ i, i < N → f (st i) = some (.inl (st (i + 1)))) (he : f (st N) = some (.inr r)) : loopN f 200 s0 = some r := by
  have h := loop_cnt f st r N hs he N 200 (Nat.le_refl _) hN
  rw [Nat.sub_self] at h
  rw [h0]
  exact h
def psum (f : Nat → Int) : Nat → Int
  | 0 => 0
  | n + 1 => psum f n + f n
theorem psum_congr {f g : Nat → Int} : ∀ {n : Nat}, (∀ i, i < n → f i = g i) → psum f n = psum g n
  | 0, _ => rfl
  | n + 1, h => by rw [psum, psum, psum_congr (fun i hi => h i (by omega)), h n (by omega)]
theorem psum_mono {f : Nat → Int} (N : Nat) (h : ∀ i, i < N → 0 ≤ f i) : ∀ {a b : Nat}, a ≤ b → b ≤ N → psum f a ≤ psum f b := by
  intro a b hab hb
  induction b with
  | zero => rw [show a = 0 by omega]; exact Int.le_refl _
  | succ b ih =>
    by_cases c : a = b + 1
    · rw [c]; exact Int.le_refl _
    · have h1 := ih (by omega) (by omega)
      have h2 := h b (by omega)
      show psum f a ≤ psum f b + f b
      omega
theorem psum_le {f : Nat → Int} {B : Int} : ∀ {n : Nat}, (∀ i, i < n → f i ≤ B) → psum f n ≤ n * B
  | 0, _ => by simp [psum]
  | n + 1, h => by
    have h1 := psum_le (n := n) (fun i hi => h i (by omega))
    have h2 := h n (by omega)
    show psum f n + f n ≤ _
    have h3 : ((n + 1 : Nat) : Int) * B = n * B + B := by
      rw [Int.natCast_add, Int.add_mul]; simp
    omega
theorem psum_nonneg {f : Nat → Int} {n : Nat} (h : ∀ i, i < n → 0 ≤ f i) : 0 ≤ psum f n := psum_mono n h (a := 0) (Nat.zero_le _) (Nat.le_refl _)
theorem psum_upd {f g : Nat → Int} {b : Nat} {d : Int} (h1 : g b = f b + d) (h2 : ∀ i, i ≠ b → g i = f i) : ∀ n, psum g n = psum f n + (if b < n then d else 0)
  | 0 => by simp [psum]
  | n + 1 => by
    rw [psum, psum, psum_upd h1 h2 n]
    by_cases c : n = b
    · subst c
      rw [if_neg (by omega), if_pos (by omega), h1]
      omega
    · rw [h2 n c]
      by_cases c2 : b < n
      · rw [if_pos c2, if_pos (by omega)]; omega
      · rw [if_neg c2, if_neg (by omega)]; omega
/-- the size of a rung -/
def sz (r : Nat) : Nat := if r % 2 = 1 then 1 else if r % 4 = 2 then 2 else if r % 8 = 4 then 4 else if r % 16 = 8 then 8 else if r % 32 = 16 then 16 else 32
theorem size_ok : ∀ r : Nat, r < 65 → 0 < r → r ≠ 64 → fG_sizeOf (r : Int) = (sz r : Int) := by decide +kernel
theorem sz_pos (r : Nat) : 1 ≤ sz r ∧ sz r ≤ 32 := by
  unfold sz
  repeat' split
  all_goals decide
theorem sz_le : ∀ r : Nat, r < 33 → 0 < r → sz r ≤ r := by decide +kernel
/-! walls -/
abbrev Wl : Type := Nat → Nat → Int
def lenJ (j : Nat) : Nat := if j < 3 then 32 else if j < 5 then 33 else 16
def wal (M : MemG) (k : Nat) : Wl := fun j i => if j < 6 ∧ i < lenJ j then M (16 + 6 * k + j) i else 0
def setW (M : MemG) (k : Nat) (w : Wl) : MemG := fun a i => if 16 + 6 * k ≤ a ∧ a < 16 + 6 * k + 6 ∧ i < lenJ (a - (16 + 6 * k)) then w (a - (16 + 6 * k)) i else M a i
def upw (w : Wl) (j i : Nat) (v : Int) : Wl := fun a b => if a = j ∧ b = i then v else w a b
/-- nothing stands outside -/
def nrm (w : Wl) : Prop := ∀ j i, ¬ (j < 6 ∧ i < lenJ j) → w j i = 0
theorem wal_nrm (M : MemG) (k : Nat) : nrm (wal M k) := fun j i h => by unfold wal; rw [if_neg h]
theorem upw_nrm {w : Wl} (h : nrm w) {j i : Nat} (hj : j < 6) (hi : i < lenJ j) (v : Int) : nrm (upw w j i v) := by
  intro a b hab
  unfold upw
  by_cases c : a = j ∧ b = i
  · exact absurd ⟨by omega, by rw [c.1, c.2]; exact hi⟩ hab
  · rw [if_neg c]; exact h a b hab
theorem lenA_w {k j : Nat} (hk : k < 11) (hj : j < 6) : lenA (16 + 6 * k + j) = lenJ j := by
  unfold lenA lenJ
  rw [if_pos (by omega), show (16 + 6 * k + j - 16) % 6 = j by omega]
theorem wal_set_same {M : MemG} {k : Nat} {w : Wl} (h : nrm w) : wal (setW M k w) k = w := by
  funext j i
  unfold wal setW
  by_cases c : j < 6 ∧ i < lenJ j
  · rw [if_pos c, show 16 + 6 * k + j - (16 + 6 * k) = j by omega, if_pos ⟨by omega, by omega, c.2⟩]
  · rw [if_neg c, h j i c]
theorem wal_set_other {M : MemG} {k k2 : Nat} {w : Wl} (h : k2 ≠ k) : wal (setW M k w) k2 = wal M k2 := by
  funext j i
  unfold wal setW
  by_cases c : j < 6 ∧ i < lenJ j
  · rw [if_pos c, if_pos c, if_neg (by omega)]
  · rw [if_neg c, if_neg c]
theorem setW_set {M : MemG} {k : Nat} {w w2 : Wl} : setW (setW M k w) k w2 = setW M k w2 := by
  funext a i
  unfold setW
  by_cases c : 16 + 6 * k ≤ a ∧ a < 16 + 6 * k + 6 ∧ i < lenJ (a - (16 + 6 * k))
  · rw [if_pos c, if_pos c]
  · rw [if_neg c, if_neg c, if_neg c]
theorem setW_self {M : MemG} {k : Nat} : setW M k (wal M k) = M := by
  funext a i
  unfold setW wal
  by_cases c : 16 + 6 * k ≤ a ∧ a < 16 + 6 * k + 6 ∧ i < lenJ (a - (16 + 6 * k))
  · rw [if_pos c, if_pos ⟨by omega, c.2.2⟩, show 16 + 6 * k + (a - (16 + 6 * k)) = a by omega]
  · rw [if_neg c]
theorem setW_out {M : MemG} {k a : Nat} {w : Wl} (h : a < 16 + 6 * k ∨ 16 + 6 * k + 6 ≤ a) : setW M k w a = M a := by
  funext i
  unfold setW
  rw [if_neg (by omega)]
def rdw (w : Wl) (j : Nat) (x : Int) : Int := if x < 0 then 0 else w j x.toNat
theorem at_w {M : MemG} {k j : Nat} (hk : k < 11) (hj : j < 6) (x : Int) : fG_at M (16 + 6 * k + j) x = rdw (wal M k) j x := by
  unfold fG_at rdw wal
  rw [lenA_w hk hj]
  by_cases c : x < 0
  · rw [if_pos c, if_pos c]
  · rw [if_neg c, if_neg c]
    by_cases c2 : x < (lenJ j : Nat)
    · rw [if_pos c2, if_pos ⟨hj, by omega⟩]
    · rw [if_neg c2, if_neg (by omega)]
theorem rdw_n (w : Wl) (j i : Nat) : rdw w j (i : Int) = w j i := by
  unfold rdw
  rw [if_neg (by omega), Int.toNat_natCast]
theorem put_w {M : MemG} {k j i : Nat} (hk : k < 11) (hj : j < 6) (hi : i < lenJ j) (v : Int) : fG_put M (16 + 6 * k + j) (i : Int) v = some (setW M k (upw (wal M k) j i v)) := by
  unfold fG_put
  rw [lenA_w hk hj, if_neg (by omega), if_pos (by omega), Option.bind_some, Int.toNat_natCast]
  congr 1
  funext a b
  unfold up setW upw wal
  by_cases c : a = 16 + 6 * k + j ∧ b = i
  · rw [if_pos c, if_pos ⟨by omega, by omega, by rw [c.1, c.2, show 16 + 6 * k + j - (16 + 6 * k) = j by omega]; exact hi⟩, if_pos ⟨by omega, c.2⟩]
  · rw [if_neg c]
    by_cases c2 : 16 + 6 * k ≤ a ∧ a < 16 + 6 * k + 6 ∧ b < lenJ (a - (16 + 6 * k))
    · rw [if_pos c2, if_neg (by omega), if_pos ⟨by omega, c2.2.2⟩, show 16 + 6 * k + (a - (16 + 6 * k)) = a by omega]
    · rw [if_neg c2]
/-- outside its row a number is written nowhere -/
theorem put_out {M : MemG} {a : Nat} {x v : Int} (h : x < 0 ∨ (lenA a : Int) ≤ x) : fG_put M a x v = some M := by
  unfold fG_put
  by_cases c : x < 0
  · rw [if_pos c]
  · rw [if_neg c, if_neg (by omega)]
/-! the readers of a wall -/
section RD
variable {M : MemG} {k : Nat}
theorem rW_kindIn (hk : k < 11) (x : Int) : fW_kindIn M k x = rdw (wal M k) 0 x := at_w (j := 0) hk (by decide) x
theorem rW_sacksIn (hk : k < 11) (x : Int) : fW_sacksIn M k x = rdw (wal M k) 1 x := at_w (j := 1) hk (by decide) x
theorem rW_ageIn (hk : k < 11) (x : Int) : fW_ageIn M k x = rdw (wal M k) 2 x := at_w (j := 2) hk (by decide) x
theorem rW_sumOf (hk : k < 11) (x : Int) : fW_sumOf M k x = rdw (wal M k) 3 x := at_w (j := 3) hk (by decide) x
theorem rW_counted (hk : k < 11) (x : Int) : fW_counted M k x = rdw (wal M k) 5 x := at_w (j := 5) hk (by decide) x
theorem rW_isCracked (hk : k < 11) (x : Int) : fW_isCracked M k x = if rdw (wal M k) 4 x = 1 then 1 else 0 := by unfold fW_isCracked; rw [at_w (j := 4) hk (by decide) x]
theorem rW_isEmpty (hk : k < 11) (x : Int) : fW_isEmpty M k x = if rdw (wal M k) 1 x = 0 then 1 else 0 := by unfold fW_isEmpty; rw [at_w (j := 1) hk (by decide) x]
end RD
