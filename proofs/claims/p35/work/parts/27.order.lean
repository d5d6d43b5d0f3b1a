/-! orders -/
theorem s_oldestOfKind {M : MemG} {k : Nat} (hk : k < 11) (x : Int) : (fW_oldestOfKind M k x = some (-15) ∧ ∀ b, b < 32 → wal M k 0 b = x → wal M k 1 b = 0) ∨ ∃ b : Nat, b < 32 ∧ fW_oldestOfKind M k x = some (b : Int) ∧ wal M k 1 b ≠ 0 ∧ wal M k 0 b = x := by
  unfold fW_oldestOfKind
  have h := loop_inv (fW_oldestOfKind_l5 M k x) (fun s => ∃ i : Nat, s.2 = i ∧ i ≤ 32 ∧ ((s.1 = -15 ∧ ∀ b, b < i → wal M k 0 b = x → wal M k 1 b = 0) ∨ ∃ b : Nat, b < 32 ∧ s.1 = b ∧ wal M k 1 b ≠ 0 ∧ wal M k 0 b = x)) (fun s => (32 - s.2).toNat) (fun q => (q = -15 ∧ ∀ b, b < 32 → wal M k 0 b = x → wal M k 1 b = 0) ∨ ∃ b : Nat, b < 32 ∧ q = b ∧ wal M k 1 b ≠ 0 ∧ wal M k 0 b = x) (fun s hs => ?_) 200 (-15, 0) ⟨0, rfl, by decide, Or.inl ⟨rfl, fun b hb => absurd hb (by omega)⟩⟩ (by decide)
  · obtain ⟨r, e, h⟩ := h
    rcases h with ⟨rfl, h⟩ | ⟨b, hb, rfl, h⟩
    · exact Or.inl ⟨e, h⟩
    · exact Or.inr ⟨b, hb, e, h⟩
  · obtain ⟨s1, s2⟩ := s
    obtain ⟨i, rfl, hi, h⟩ := hs
    dsimp only at h
    unfold fW_oldestOfKind_l5 fW_oldestOfKind_j47 fW_oldestOfKind_j49
    dsimp only
    by_cases c : i < 32
    · refine Or.inl ?_
      rw [if_pos (by omega), rW_isEmpty hk, rdw_n, rW_kindIn hk, rdw_n]
      have stay : (wal M k 0 i = x → wal M k 1 i = 0) → ∃ i' : Nat, (i : Int) + 1 = i' ∧ i' ≤ 32 ∧ ((s1 = -15 ∧ ∀ b, b < i' → wal M k 0 b = x → wal M k 1 b = 0) ∨ ∃ b : Nat, b < 32 ∧ s1 = b ∧ wal M k 1 b ≠ 0 ∧ wal M k 0 b = x) := by
        intro hq
        refine ⟨i + 1, cast1 i, by omega, ?_⟩
        rcases h with ⟨e, h⟩ | h
        · refine Or.inl ⟨e, fun b hb => ?_⟩
          by_cases c2 : b = i
          · rw [c2]; exact hq
          · exact h b (by omega)
        · exact Or.inr h
      have go : wal M k 1 i ≠ 0 → wal M k 0 i = x → ∃ i' : Nat, (i : Int) + 1 = i' ∧ i' ≤ 32 ∧ (((i : Int) = -15 ∧ ∀ b, b < i' → wal M k 0 b = x → wal M k 1 b = 0) ∨ ∃ b : Nat, b < 32 ∧ (i : Int) = b ∧ wal M k 1 b ≠ 0 ∧ wal M k 0 b = x) := fun q1 q2 => ⟨i + 1, cast1 i, by omega, Or.inr ⟨i, c, rfl, q1, q2⟩⟩
      by_cases c1 : wal M k 1 i = 0
      · rw [if_pos c1, if_neg (by decide), gd_ok (by omega)]
        exact ⟨_, rfl, stay (fun _ => c1), by dsimp only; omega⟩
      · rw [if_neg c1, if_pos rfl]
        by_cases c2 : wal M k 0 i = x
        · rw [if_pos c2, gd_ok (by omega)]
          by_cases c3 : s1 = -15
          · rw [if_pos c3]
            exact ⟨_, rfl, go c1 c2, by dsimp only; omega⟩
          · rw [if_neg c3]
            by_cases c4 : fW_ageIn M k s1 < fW_ageIn M k (i : Int)
            · rw [if_pos c4]
              exact ⟨_, rfl, go c1 c2, by dsimp only; omega⟩
            · rw [if_neg c4, gd_ok (by omega)]
              refine ⟨_, rfl, ?_, by dsimp only; omega⟩
              rcases h with ⟨e, h⟩ | h
              · exact absurd e c3
              · exact ⟨i + 1, cast1 i, by omega, Or.inr h⟩
        · rw [if_neg c2, gd_ok (by omega)]
          exact ⟨_, rfl, stay (fun q => absurd q c2), by dsimp only; omega⟩
    · refine Or.inr ⟨s1, by rw [if_neg (by omega)], ?_⟩
      have : i = 32 := by omega
      subst this
      exact h
/-- how many bays of a kind have sacks -/
def kNum (w : Wl) (x : Int) : Nat := cnt (fun b => w 0 b == x && !(w 1 b == 0)) 32
theorem cnt_zero {p : Nat → Bool} : ∀ {n : Nat}, cnt p n = 0 → ∀ i, i < n → p i = false
  | 0, _, _, hi => absurd hi (by omega)
  | n + 1, h, i, hi => by
    have h' : cnt p n + (if p n then 1 else 0) = 0 := h
    by_cases c : i = n
    · subst c
      cases hp : p i with
      | false => rfl
      | true => rw [hp] at h'; simp at h'
    · exact cnt_zero (n := n) (by omega) i (by omega)
theorem cnt_lt {p q : Nat → Bool} {b : Nat} (h : ∀ i, q i = true → p i = true) (hp : p b = true) (hq : q b = false) : ∀ {n : Nat}, b < n → cnt q n < cnt p n := by
  have hle : ∀ n, cnt q n ≤ cnt p n := by
    intro n
    induction n with
    | zero => exact Nat.le_refl _
    | succ n ih =>
      show cnt q n + (if q n then 1 else 0) ≤ cnt p n + (if p n then 1 else 0)
      have := h n
      cases hq' : q n <;> cases hp' : p n <;> simp_all
      omega
  intro n
  induction n with
  | zero => intro hb; omega
  | succ n ih =>
    intro hb
    show cnt q n + (if q n then 1 else 0) < cnt p n + (if p n then 1 else 0)
    by_cases c : b = n
    · subst c
      rw [hp, hq]
      have := hle b
      simp
      omega
    · have h1 := ih (by omega)
      have := h n
      cases hq' : q n <;> cases hp' : p n <;> simp_all
      omega
theorem kSum_pos {w : Wl} (h : fewS w) {x : Int} (h0 : ∀ b, b < 32 → w 0 b = x → w 1 b = 0) : kSum w x = 0 := by
  unfold kSum
  rw [psum_congr (g := fun _ => 0) (fun i hi => ?_)]
  · have : ∀ n, psum (fun _ => (0 : Int)) n = 0 := by
      intro n
      induction n with
      | zero => rfl
      | succ n ih => show psum (fun _ => (0 : Int)) n + 0 = 0; rw [ih]; rfl
    exact this 32
  · split
    · exact h0 i hi (by assumption)
    · rfl
theorem fill_aux {a b : Nat} {i mi : Int} (h : b < a) (q : mi = 0 ∨ (a : Int) + i ≤ 32) (c : 0 < mi) : (b : Int) + (i + 1) ≤ 32 := by omega
/-- the sacks of an order leave the bays of its kind -/
theorem s_fillLoop {M0 : MemG} {T B e : Int} {x n : Int} (h : WI T B e (wal M0 0)) (hn : 0 ≤ n ∧ n ≤ 999) (hs : n ≤ kSum (wal M0 0) x) : ∃ w', loopN (fG_fillOrder_l48 x n) 200 (n, 0, M0) = some (setW M0 0 w') ∧ WI T B (e + n) w' ∧ (∀ i, w' 5 i = wal M0 0 5 i) ∧ kSum w' x = kSum (wal M0 0) x - n := by
  have h := loop_inv (fG_fillOrder_l48 x n) (fun s => ∃ w, s.2.2 = setW M0 0 w ∧ WI T B (e + n - s.1) w ∧ (∀ i, w 5 i = wal M0 0 5 i) ∧ kSum w x = kSum (wal M0 0) x - (n - s.1) ∧ 0 ≤ s.1 ∧ s.1 ≤ n ∧ 0 ≤ s.2.1 ∧ s.2.1 ≤ 32 ∧ (s.1 = 0 ∨ (kNum w x : Int) + s.2.1 ≤ 32)) (fun s => (32 - s.2.1).toNat) (fun m => ∃ w', m = setW M0 0 w' ∧ WI T B (e + n) w' ∧ (∀ i, w' 5 i = wal M0 0 5 i) ∧ kSum w' x = kSum (wal M0 0) x - n) (fun s hs' => ?_) 200 (n, 0, M0) ⟨wal M0 0, setW_self.symm, by dsimp only; rw [Int.add_sub_cancel]; exact h, fun _ => rfl, by dsimp only; omega, by dsimp only; omega, by dsimp only; omega, by dsimp only; omega, by dsimp only; omega, Or.inr (by have := cnt_le (fun b => wal M0 0 0 b == x && !(wal M0 0 1 b == 0)) 32; unfold kNum; dsimp only; omega)⟩ (by dsimp only; omega)
  · obtain ⟨r, e1, w', rfl, h1⟩ := h
    exact ⟨w', e1, h1⟩
  · obtain ⟨mi, i, m⟩ := s
    obtain ⟨w, hm, hW, h5, hK, q1, q2, q3, q4, q5⟩ := hs'
    dsimp only at hm hW hK q1 q2 q3 q4 q5
    subst hm
    have hnr := hW.n
    have hwal := wal_set_same (M := M0) (k := 0) hnr
    unfold fG_fillOrder_l48
    dsimp only
    have fin : mi = 0 → ∃ w', setW M0 0 w = setW M0 0 w' ∧ WI T B (e + n) w' ∧ (∀ i, w' 5 i = wal M0 0 5 i) ∧ kSum w' x = kSum (wal M0 0) x - n := by
      intro q
      subst q
      rw [Int.sub_zero] at hW
      exact ⟨w, rfl, hW, h5, by omega⟩
    by_cases c : i < 32
    · rw [if_pos c]
      by_cases c1 : 0 < mi
      · rw [if_pos c1]
        refine Or.inl ?_
        rcases s_oldestOfKind (M := setW M0 0 w) (k := 0) (by decide) x with ⟨_, hz⟩ | ⟨b, hb, hO, hne, hkd⟩
        · rw [hwal] at hz
          have := kSum_pos hW.few hz
          omega
        · rw [hwal] at hne hkd
          have hbb := hW.b b hb
          rw [hO, Option.bind_some, rW_sacksIn (by decide), rdw_n, hwal, s_remove (M := setW M0 0 w) (k := 0) (by decide) hb (by rw [hwal]; exact hW) (by omega), Option.bind_some, hwal, setW_set, gd_ok (by omega), gd_ok (by omega)]
          refine ⟨_, rfl, ⟨remW w b (min mi (w 1 b)), rfl, ?_, fun j => ?_, ?_, by dsimp only; omega, by dsimp only; omega, by dsimp only; omega, by dsimp only; omega, ?_⟩, by dsimp only; omega⟩
          · have := hW.rem hb (x := min mi (w 1 b)) (by omega)
            rw [show e + n - (mi - min mi (w 1 b)) = e + n - mi + min mi (w 1 b) by omega]
            exact this
          · rw [rem45 (Or.inr rfl)]; exact h5 j
          · rw [kSum_rem hb, if_pos hkd, hK]; omega
          · dsimp only
            by_cases c2 : mi ≤ w 1 b
            · exact Or.inl (by omega)
            · refine Or.inr ?_
              have hlt : kNum (remW w b (min mi (w 1 b))) x < kNum w x := by
                unfold kNum
                refine cnt_lt (b := b) (fun j hj => ?_) ?_ ?_ hb
                · simp only [Bool.and_eq_true, beq_iff_eq, Bool.not_eq_true', beq_eq_false_iff_ne] at hj ⊢
                  rw [rem0, rem1] at hj
                  by_cases c3 : j = b
                  · subst c3; exact ⟨hkd, hne⟩
                  · rw [if_neg (fun q => c3 q.1), if_neg c3] at hj
                    exact hj
                · simp only [Bool.and_eq_true, beq_iff_eq, Bool.not_eq_true', beq_eq_false_iff_ne]
                  exact ⟨hkd, hne⟩
                · have : remW w b (min mi (w 1 b)) 1 b = 0 := by rw [rem1, if_pos rfl]; omega
                  rw [this]; simp
              exact fill_aux hlt q5 c1
      · rw [if_neg c1]
        exact Or.inr ⟨_, rfl, fin (by omega)⟩
    · rw [if_neg c]
      refine Or.inr ⟨_, rfl, fin ?_⟩
      rcases q5 with q | q
      · exact q
      · have hz : kNum w x = 0 := by omega
        have hz2 : ∀ b, b < 32 → w 0 b = x → w 1 b = 0 := by
          intro b hb hk
          have := cnt_zero hz b hb
          simpa [hk] using this
        have := kSum_pos hW.few hz2
        omega
