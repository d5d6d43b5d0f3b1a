/-! rungs over a bay: the way up; and the way down -/
def ovr (r b : Nat) : Bool := decide (r - sz r ≤ b) && decide (b < r)
theorem ovr_iff (r b : Nat) : ovr r b = true ↔ r - sz r ≤ b ∧ b < r := by unfold ovr; simp
theorem up_first : ∀ b : Nat, b < 32 → ovr (b + 1) b = true ∧ ∀ i, i < b + 1 → ovr i b = false := by decide +kernel
theorem up_step1 : ∀ b : Nat, b < 32 → ∀ r : Nat, r < 33 → ovr r b = true → r + sz r < 33 → ovr (r + sz r) b = true := by decide +kernel
theorem up_step3 : ∀ b : Nat, b < 32 → ∀ r : Nat, r < 33 → ((List.range 33).all fun i => !(ovr r b && decide (r < i) && decide (i < r + sz r)) || !ovr i b) = true := by decide +kernel
theorem up_step2 (b : Nat) (hb : b < 32) (r : Nat) (hr : r < 33) (ho : ovr r b = true) (i : Nat) (hi : i < 33) (h : r < i ∧ i < r + sz r) : ovr i b = false := by
  have h1 := List.all_eq_true.mp (up_step3 b hb r hr) i (List.mem_range.mpr hi)
  simpa [ho, h.1, h.2] using h1
theorem up_step (b : Nat) (hb : b < 32) (r : Nat) (hr : r < 33) (ho : ovr r b = true) : (r + sz r < 33 → ovr (r + sz r) b = true) ∧ ∀ i : Nat, i < 33 → r < i → i < r + sz r → ovr i b = false := ⟨up_step1 b hb r hr ho, fun i h1 h2 h3 => up_step2 b hb r hr ho i h1 ⟨h2, h3⟩⟩
theorem dn_step : ∀ r : Nat, r < 33 → 0 < r → r - sz r < r ∧ sz r ≤ r := by decide +kernel
theorem rungs_k (k : Nat) (x : Int) : fW_rungsOver k x = fW_rungsOver 0 x := rfl
theorem s_rungsOver0 : ∀ b : Nat, b < 32 → fW_rungsOver 0 (b : Int) = some (cnt (fun r => ovr (r + 1) b) 32 : Nat) := by decide +kernel
theorem s_rungsOver {k b : Nat} (hb : b < 32) : fW_rungsOver k (b : Int) = some (cnt (fun r => ovr (r + 1) b) 32 : Nat) := (rungs_k k b).trans (s_rungsOver0 b hb)
theorem s_loadOf0 : ∀ r : Nat, r < 33 → 0 < r → fG_loadOf (r : Int) = some (100 * (sz r : Int)) := by decide +kernel
theorem s_firstBay0 : ∀ r : Nat, r < 33 → 0 < r → fG_firstBayOf (r : Int) = some (((r - sz r : Nat)) : Int) := by decide +kernel
theorem s_rungsBelow0 : ∀ r : Nat, r < 33 → 0 < r → ∃ q, q < 6 ∧ fG_rungsBelow (r : Int) = some ((q : Nat) : Int) ∧ shlI 1 (q : Int) = (sz r : Int) := by decide +kernel
/-- where a loop goes up the rungs over a bay -/
theorem up_loop_d {α σ ρ : Type} (mk : α → Int → Int → σ) (f : σ → Option (σ ⊕ ρ)) (b : Nat) (hb : b < 32) (I : Nat → α → Prop) (P : ρ → Prop)
    (hs : ∀ r : Nat, r < 33 → ovr r b = true → ∀ a (i : Int), 0 ≤ i → i < 32 → I r a → (∃ a', f (mk a (r : Int) i) = some (.inl (mk a' ((r + sz r : Nat) : Int) (i + 1))) ∧ ((∀ i, i < 33 → r < i → i < r + sz r → ovr i b = false) → I (r + sz r) a')) ∨ ∃ x, f (mk a (r : Int) i) = some (.inr x) ∧ P x)
    (he : ∀ r : Nat, 32 < r → r < 65 → ∀ a (i : Int), I r a → ∃ x, f (mk a (r : Int) i) = some (.inr x) ∧ P x) : ∀ (d n r i : Nat) (a : α), 65 - r ≤ d → d < n → i + 1 ≤ r → r < 65 → (r < 33 → ovr r b = true) → I r a → ∃ x, loopN f n (mk a (r : Int) (i : Int)) = some x ∧ P x := by
  intro d
  induction d with
  | zero => intro n r i a h1 h2 h3 h4; omega
  | succ d ih =>
    intro n r i a h1 h2 h3 h4 ho hI
    obtain ⟨n, rfl⟩ : ∃ k, n = k + 1 := ⟨n - 1, by omega⟩
    by_cases c : r < 33
    · rcases hs r c (ho c) a i (by omega) (by omega) hI with ⟨a', e, h'⟩ | ⟨x, e, hx⟩
      · have hz := sz_pos r
        have hst := up_step b hb r c (ho c)
        obtain ⟨x, e2, hx⟩ := ih n (r + sz r) (i + 1) a' (by omega) (by omega) (by omega) (by omega) hst.1 (h' hst.2)
        refine ⟨x, ?_, hx⟩
        rw [loopN, e]
        exact e2
      · refine ⟨x, ?_, hx⟩
        rw [loopN, e]
        rfl
    · obtain ⟨x, e, hx⟩ := he r (by omega) h4 a i hI
      refine ⟨x, ?_, hx⟩
      rw [loopN, e]
      rfl
theorem up_loop {α σ ρ : Type} (mk : α → Int → Int → σ) (f : σ → Option (σ ⊕ ρ)) (b : Nat) (hb : b < 32) (I : Nat → α → Prop) (P : ρ → Prop)
    (hs : ∀ r : Nat, r < 33 → ovr r b = true → ∀ a (i : Int), 0 ≤ i → i < 32 → I r a → (∃ a', f (mk a (r : Int) i) = some (.inl (mk a' ((r + sz r : Nat) : Int) (i + 1))) ∧ ((∀ i, i < 33 → r < i → i < r + sz r → ovr i b = false) → I (r + sz r) a')) ∨ ∃ x, f (mk a (r : Int) i) = some (.inr x) ∧ P x)
    (he : ∀ r : Nat, 32 < r → r < 65 → ∀ a (i : Int), I r a → ∃ x, f (mk a (r : Int) i) = some (.inr x) ∧ P x) (a : α) (h0 : I (b + 1) a) : ∃ x, loopN f 200 (mk a ((b : Int) + 1) 0) = some x ∧ P x := by
  rw [cast1]
  exact up_loop_d mk f b hb I P hs he 64 200 (b + 1) 0 a (by omega) (by decide) (by omega) (by omega) (fun _ => (up_first b hb).1) h0
/-! a change of sacks in a bay -/
def addS (w : Wl) (b : Nat) (d : Int) : Wl := fun j i => if j = 3 ∧ i < 33 ∧ ovr i b = true then w 3 i + d else if j = 1 ∧ i = b then w 1 i + d else w j i
theorem addS_nrm {w : Wl} (h : nrm w) {b : Nat} (hb : b < 32) (d : Int) : nrm (addS w b d) := by
  intro j i hji
  unfold addS
  rw [if_neg (fun c => hji ⟨by omega, by rw [c.1]; exact c.2.1⟩), if_neg (fun c => hji ⟨by omega, by rw [c.1, c.2]; exact hb⟩)]
  exact h j i hji
/-- the sums with some rungs done: those below r -/
def addP (w : Wl) (b r : Nat) (d : Int) : Wl := fun j i => if j = 3 ∧ i < 33 ∧ i < r ∧ ovr i b = true then w 3 i + d else if j = 1 ∧ i = b then w 1 i + d else w j i
theorem addP_nrm {w : Wl} (h : nrm w) {b : Nat} (hb : b < 32) (r : Nat) (d : Int) : nrm (addP w b r d) := by
  intro j i hji
  unfold addP
  rw [if_neg (fun c => hji ⟨by omega, by rw [c.1]; exact c.2.1⟩), if_neg (fun c => hji ⟨by omega, by rw [c.1, c.2]; exact hb⟩)]
  exact h j i hji
theorem s_changeSacks {M : MemG} {k : Nat} (hk : k < 11) {b : Nat} (hb : b < 32) {d : Int} (hd : -100000 ≤ d ∧ d ≤ 100000) (hr1 : -100000 ≤ wal M k 1 b ∧ wal M k 1 b ≤ 100000) (hr3 : ∀ r, 0 < r → r < 33 → -100000 ≤ wal M k 3 r ∧ wal M k 3 r ≤ 100000) : fW_changeSacks M k (b : Int) d = some (setW M k (addS (wal M k) b d)) := by
  have hn := wal_nrm M k
  unfold fW_changeSacks
  have e1 : fG_at M (16 + 6 * k + 1) (b : Int) = wal M k 1 b := by rw [at_w hk (by decide), rdw_n]
  have f1 := hr1
  rw [e1, gd_ok (by omega), put_w hk (by decide) (by exact hb), Option.bind_some, gd_ok (by omega)]
  have hst : upw (wal M k) 1 b (wal M k 1 b + d) = addP (wal M k) b (b + 1) d := by
    funext j i
    unfold upw addP
    by_cases c : j = 1 ∧ i = b
    · rw [if_pos c, if_neg (by omega), if_pos c, c.2]
    · rw [if_neg c]
      by_cases c2 : j = 3 ∧ i < 33 ∧ i < b + 1 ∧ ovr i b = true
      · have := (up_first b hb).2 i c2.2.2.1
        rw [this] at c2
        exact absurd c2.2.2.2 (by decide)
      · rw [if_neg c2, if_neg c]
  rw [hst]
  have hfin : ∀ r, 33 ≤ r → addP (wal M k) b r d = addS (wal M k) b d := by
    intro r hr
    funext j i
    unfold addP addS
    by_cases c : j = 3 ∧ i < 33 ∧ ovr i b = true
    · rw [if_pos c, if_pos ⟨c.1, c.2.1, by omega, c.2.2⟩]
    · rw [if_neg c, if_neg (fun q => c ⟨q.1, q.2.1, q.2.2.2⟩)]
  have hpn : ∀ r, nrm (addP (wal M k) b r d) := fun r => addP_nrm hn hb r d
  refine Exists.elim (up_loop (fun (m : MemG) (r i : Int) => (r, i, m)) (fW_changeSacks_l25 k d) b hb (fun r m => m = setW M k (addP (wal M k) b r d)) (fun m => m = setW M k (addS (wal M k) b d)) (fun r hr ho m i h0 h1 hI => ?_) (fun r hr hr2 m i hI => ?_) (setW M k (addP (wal M k) b (b + 1) d)) rfl) (fun x hx => by rw [hx.1, hx.2])
  · subst hI
    refine Or.inl ?_
    unfold fW_changeSacks_l25
    dsimp only
    have hz := sz_pos r
    have hov := (ovr_iff r b).mp ho
    have hrr := size_ok r (by omega) (by omega) (by omega)
    have ev : addP (wal M k) b r d 3 r = wal M k 3 r := by
      unfold addP
      rw [if_neg (by omega), if_neg (by omega)]
    have hv := hr3 r (by omega) hr
    rw [if_pos h1, if_neg (by omega), at_w hk (by decide), rdw_n, wal_set_same (hpn r), ev, gd_ok (by omega), put_w hk (by decide) (by exact hr), Option.bind_some, hrr, gd_ok (by omega), gd_ok (by omega)]
    have hg := (up_step b hb r hr ho).2
    refine ⟨setW M k (addP (wal M k) b (r + sz r) d), ?_, fun _ => rfl⟩
    refine congrArg (fun q => some (Sum.inl q)) (Prod.ext ?_ (Prod.ext rfl ?_))
    · dsimp only; omega
    · dsimp only
      rw [setW_set, wal_set_same (hpn r)]
      congr 1
      funext j i2
      unfold upw addP
      by_cases c : j = 3 ∧ i2 = r
      · rw [if_pos c, if_pos ⟨c.1, by omega, by omega, by rw [c.2]; exact ho⟩, c.2]
      · rw [if_neg c]
        by_cases c2 : j = 3 ∧ i2 < 33 ∧ i2 < r ∧ ovr i2 b = true
        · rw [if_pos c2, if_pos ⟨c2.1, c2.2.1, by omega, c2.2.2.2⟩]
        · rw [if_neg c2, if_neg (c := j = 3 ∧ i2 < 33 ∧ i2 < r + sz r ∧ ovr i2 b = true) (fun q => ?_)]
          by_cases c3 : i2 < r
          · exact c2 ⟨q.1, q.2.1, c3, q.2.2.2⟩
          · have := hg i2 q.2.1 (by omega) q.2.2.1
            rw [this] at q
            exact absurd q.2.2.2 (by decide)
  · subst hI
    unfold fW_changeSacks_l25
    dsimp only
    refine ⟨setW M k (addP (wal M k) b r d), ?_, by rw [hfin r (by omega)]⟩
    by_cases c : i < 32
    · rw [if_pos c, if_pos (by omega)]
    · rw [if_neg c]
