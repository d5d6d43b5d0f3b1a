/-! what the wall's readers answer -/
theorem inl2 {α β ρ : Type} {a c : α} {b d : β} (h1 : a = c) (h2 : b = d) : (some (Sum.inl (a, b)) : Option ((α × β) ⊕ ρ)) = some (Sum.inl (c, d)) := by rw [h1, h2]
theorem inl3 {α β γ ρ : Type} {a c : α} {b d : β} {u v : γ} (h1 : a = c) (h2 : b = d) (h3 : u = v) : (some (Sum.inl (a, b, u)) : Option ((α × β × γ) ⊕ ρ)) = some (Sum.inl (c, d, v)) := by rw [h1, h2, h3]
theorem inl4 {α β γ δ ρ : Type} {a c : α} {b d : β} {u v : γ} {x y : δ} (h1 : a = c) (h2 : b = d) (h3 : u = v) (h4 : x = y) : (some (Sum.inl (a, b, u, x)) : Option ((α × β × γ × δ) ⊕ ρ)) = some (Sum.inl (c, d, v, y)) := by rw [h1, h2, h3, h4]
theorem inrE {α ρ : Type} {a c : ρ} (h1 : a = c) : (some (Sum.inr a) : Option (α ⊕ ρ)) = some (Sum.inr c) := by rw [h1]
theorem cast1 (i : Nat) : (i : Int) + 1 = ((i + 1 : Nat) : Int) := by omega
/-- the sacks of a wall's bays are few -/
def fewS (w : Wl) : Prop := ∀ b, b < 32 → 0 ≤ w 1 b ∧ w 1 b ≤ 200
theorem few_psum {w : Wl} (h : fewS w) {n : Nat} (hn : n ≤ 32) : 0 ≤ psum (w 1) n ∧ psum (w 1) n ≤ 6400 := by
  have h1 : psum (w 1) n ≤ (n : Int) * 200 := psum_le (fun i hi => (h i (by omega)).2)
  have h2 : 0 ≤ psum (w 1) n := psum_nonneg (fun i hi => (h i (by omega)).1)
  omega
theorem s_sumByBays {M : MemG} {k : Nat} (hk : k < 11) (h : fewS (wal M k)) {a b : Nat} (hb : b < 32) (hab : a ≤ b + 1) : fW_sumByBays M k a b = some (psum (wal M k 1) (b + 1) - psum (wal M k 1) a) := by
  unfold fW_sumByBays
  refine loop_c (fun i => ((if i ≤ a then 0 else if i ≤ b + 1 then psum (wal M k 1) i - psum (wal M k 1) a else psum (wal M k 1) (b + 1) - psum (wal M k 1) a), (i : Int))) 32 (by simp) (by decide) (fun i hi => ?_) ?_
  · unfold fW_sumByBays_l5 fW_sumByBays_j33
    dsimp only
    have e : psum (wal M k 1) (i + 1) = psum (wal M k 1) i + wal M k 1 i := rfl
    have f1 := few_psum h (n := i) (by omega)
    have f2 := few_psum h (n := a) (by omega)
    have f3 := few_psum h (n := b + 1) (by omega)
    have f4 := h i hi
    rw [if_pos (by omega), rW_sacksIn hk, rdw_n]
    by_cases c1 : (i : Int) < a
    · rw [if_pos c1, gd_ok (by omega), if_pos (by omega), if_pos (by omega)]
      exact inl2 rfl (cast1 i)
    · rw [if_neg c1]
      have e2 : i = a → psum (wal M k 1) i = psum (wal M k 1) a := fun q => by rw [q]
      have e3 : i = b + 1 → psum (wal M k 1) i = psum (wal M k 1) (b + 1) := fun q => by rw [q]
      have e4 : a = b + 1 → psum (wal M k 1) a = psum (wal M k 1) (b + 1) := fun q => by rw [q]
      have e5 : i + 1 = a → psum (wal M k 1) (i + 1) = psum (wal M k 1) a := fun q => by rw [q]
      by_cases c2 : (b : Int) < i
      · rw [if_pos c2, gd_ok (by omega)]
        refine inl2 ?_ (cast1 i)
        repeat' split
        all_goals omega
      · rw [if_neg c2]
        have hv : (if i ≤ a then 0 else if i ≤ b + 1 then psum (wal M k 1) i - psum (wal M k 1) a else psum (wal M k 1) (b + 1) - psum (wal M k 1) a) = psum (wal M k 1) i - psum (wal M k 1) a := by
          repeat' split
          all_goals omega
        rw [hv, gd_ok (by omega), gd_ok (by omega)]
        refine inl2 ?_ (cast1 i)
        repeat' split
        all_goals omega
  · unfold fW_sumByBays_l5
    dsimp only
    rw [if_neg (by omega)]
    refine inrE ?_
    have e4 : a = b + 1 → psum (wal M k 1) a = psum (wal M k 1) (b + 1) := fun q => by rw [q]
    have e3 : 32 = b + 1 → psum (wal M k 1) 32 = psum (wal M k 1) (b + 1) := fun q => by rw [q]
    repeat' split
    all_goals omega
theorem s_allSacks {M : MemG} {k : Nat} (hk : k < 11) (h : fewS (wal M k)) : fW_allSacks M k = some (psum (wal M k 1) 32) := by
  unfold fW_allSacks
  have e := s_sumByBays (M := M) (k := k) hk h (a := 0) (b := 31) (by decide) (by decide)
  rw [show ((0 : Nat) : Int) = 0 from rfl, show ((31 : Nat) : Int) = 31 from rfl] at e
  rw [e, Option.bind_some]
  show some (psum (wal M k 1) 32 - 0) = _
  rw [Int.sub_zero]
/-- the sum over the bays of which something holds -/
theorem s_sacksOfKind {M : MemG} {k : Nat} (hk : k < 11) (h : fewS (wal M k)) (x : Int) : fW_sacksOfKind M k x = some (psum (fun b => if wal M k 0 b = x then wal M k 1 b else 0) 32) := by
  unfold fW_sacksOfKind
  have hf : ∀ n, n ≤ 32 → 0 ≤ psum (fun b => if wal M k 0 b = x then wal M k 1 b else 0) n ∧ psum (fun b => if wal M k 0 b = x then wal M k 1 b else 0) n ≤ 6400 := by
    intro n hn
    have h1 : psum (fun b => if wal M k 0 b = x then wal M k 1 b else 0) n ≤ (n : Int) * 200 := psum_le (fun i hi => by
      have := h i (by omega)
      split <;> omega)
    have h2 : 0 ≤ psum (fun b => if wal M k 0 b = x then wal M k 1 b else 0) n := psum_nonneg (fun i hi => by
      have := h i (by omega)
      split <;> omega)
    omega
  refine loop_c (fun i => (psum (fun b => if wal M k 0 b = x then wal M k 1 b else 0) i, (i : Int))) 32 rfl (by decide) (fun i hi => ?_) ?_
  · unfold fW_sacksOfKind_l4 fW_sacksOfKind_j27
    dsimp only
    have f1 := hf i (by omega)
    have f2 := hf (i + 1) (by omega)
    have e : psum (fun b => if wal M k 0 b = x then wal M k 1 b else 0) (i + 1) = psum (fun b => if wal M k 0 b = x then wal M k 1 b else 0) i + (if wal M k 0 i = x then wal M k 1 i else 0) := rfl
    rw [if_pos (by omega), rW_sacksIn hk, rdw_n, rW_kindIn hk, rdw_n]
    by_cases c : wal M k 0 i = x
    · rw [if_pos c] at e
      rw [if_pos c, gd_ok (by omega), gd_ok (by omega)]
      exact inl2 e.symm (cast1 i)
    · rw [if_neg c] at e
      rw [if_neg c, gd_ok (by omega)]
      exact inl2 (by omega) (cast1 i)
  · unfold fW_sacksOfKind_l4
    dsimp only
    rw [if_neg (by omega)]
theorem s_sacksAsOldAs {M : MemG} {k : Nat} (hk : k < 11) (h : fewS (wal M k)) (x : Int) : fW_sacksAsOldAs M k x = some (psum (fun b => if wal M k 2 b = x then wal M k 1 b else 0) 32) := by
  unfold fW_sacksAsOldAs
  have hf : ∀ n, n ≤ 32 → 0 ≤ psum (fun b => if wal M k 2 b = x then wal M k 1 b else 0) n ∧ psum (fun b => if wal M k 2 b = x then wal M k 1 b else 0) n ≤ 6400 := by
    intro n hn
    have h1 : psum (fun b => if wal M k 2 b = x then wal M k 1 b else 0) n ≤ (n : Int) * 200 := psum_le (fun i hi => by
      have := h i (by omega)
      split <;> omega)
    have h2 : 0 ≤ psum (fun b => if wal M k 2 b = x then wal M k 1 b else 0) n := psum_nonneg (fun i hi => by
      have := h i (by omega)
      split <;> omega)
    omega
  refine loop_c (fun i => (psum (fun b => if wal M k 2 b = x then wal M k 1 b else 0) i, (i : Int))) 32 rfl (by decide) (fun i hi => ?_) ?_
  · unfold fW_sacksAsOldAs_l4 fW_sacksAsOldAs_j27
    dsimp only
    have f1 := hf i (by omega)
    have f2 := hf (i + 1) (by omega)
    have e : psum (fun b => if wal M k 2 b = x then wal M k 1 b else 0) (i + 1) = psum (fun b => if wal M k 2 b = x then wal M k 1 b else 0) i + (if wal M k 2 i = x then wal M k 1 i else 0) := rfl
    rw [if_pos (by omega), rW_sacksIn hk, rdw_n, rW_ageIn hk, rdw_n]
    by_cases c : wal M k 2 i = x
    · rw [if_pos c] at e
      rw [if_pos c, gd_ok (by omega), gd_ok (by omega)]
      exact inl2 e.symm (cast1 i)
    · rw [if_neg c] at e
      rw [if_neg c, gd_ok (by omega)]
      exact inl2 (by omega) (cast1 i)
  · unfold fW_sacksAsOldAs_l4
    dsimp only
    rw [if_neg (by omega)]
/-- how many of n places have something -/
def cnt (p : Nat → Bool) : Nat → Nat
  | 0 => 0
  | n + 1 => cnt p n + (if p n then 1 else 0)
theorem cnt_le (p : Nat → Bool) : ∀ n, cnt p n ≤ n
  | 0 => Nat.le_refl _
  | n + 1 => by
    have := cnt_le p n
    show cnt p n + (if p n then 1 else 0) ≤ n + 1
    split <;> omega
theorem s_filledBays {M : MemG} {k : Nat} (hk : k < 11) : fW_filledBays M k = some (cnt (fun b => !(wal M k 1 b == 0)) 32 : Nat) := by
  unfold fW_filledBays
  refine loop_c (fun i => ((cnt (fun b => !(wal M k 1 b == 0)) i : Int), (i : Int))) 32 rfl (by decide) (fun i hi => ?_) ?_
  · unfold fW_filledBays_l4 fW_filledBays_j21
    dsimp only
    have f1 := cnt_le (fun b => !(wal M k 1 b == 0)) i
    have e : cnt (fun b => !(wal M k 1 b == 0)) (i + 1) = cnt (fun b => !(wal M k 1 b == 0)) i + (if (!(wal M k 1 i == 0)) then 1 else 0) := rfl
    rw [if_pos (by omega), rW_isEmpty hk, rdw_n]
    by_cases c : wal M k 1 i = 0
    · rw [if_pos c, if_neg (by decide), gd_ok (by omega)]
      refine inl2 ?_ (cast1 i)
      rw [e]; simp [c]
    · rw [if_neg c, if_pos rfl, gd_ok (by omega), gd_ok (by omega)]
      refine inl2 ?_ (cast1 i)
      rw [e]; simp [c]
  · unfold fW_filledBays_l4
    dsimp only
    rw [if_neg (by omega)]
theorem s_crackedRungs {M : MemG} {k : Nat} (hk : k < 11) : fW_crackedRungs M k = some (cnt (fun r => wal M k 4 (r + 1) == 1) 32 : Nat) := by
  unfold fW_crackedRungs
  refine loop_c (fun i => ((cnt (fun r => wal M k 4 (r + 1) == 1) i : Int), ((i + 1 : Nat) : Int))) 32 rfl (by decide) (fun i hi => ?_) ?_
  · unfold fW_crackedRungs_l4 fW_crackedRungs_j21
    dsimp only
    have f1 := cnt_le (fun r => wal M k 4 (r + 1) == 1) i
    have e : cnt (fun r => wal M k 4 (r + 1) == 1) (i + 1) = cnt (fun r => wal M k 4 (r + 1) == 1) i + (if (wal M k 4 (i + 1) == 1) then 1 else 0) := rfl
    rw [if_neg (by omega), rW_isCracked hk, rdw_n]
    by_cases c : wal M k 4 (i + 1) = 1
    · rw [if_pos c, if_neg (by decide), gd_ok (by omega), gd_ok (by omega)]
      refine inl2 ?_ (cast1 _)
      rw [e]; simp [c]
    · rw [if_neg c, if_pos rfl, gd_ok (by omega)]
      refine inl2 ?_ (cast1 _)
      rw [e]; simp [c]
  · unfold fW_crackedRungs_l4
    dsimp only
    rw [if_pos (by omega)]
