/-! the whole check of a granary -/
def FitF (M M' : MemG) : Prop := ∀ a, a ≠ 3 → a ≠ 84 → a ≠ 85 → M' a = M a
theorem FitF.rf (M : MemG) : FitF M M := fun _ _ _ _ => rfl
theorem FitF.tr {A B C : MemG} (h1 : FitF A B) (h2 : FitF B C) : FitF A C := fun a q1 q2 q3 => (h2 a q1 q2 q3).trans (h1 a q1 q2 q3)
theorem FitF.w {A B : MemG} (h : FitF A B) {k : Nat} (hk : k < 11) : wal B k = wal A k := by
  funext j i
  unfold wal
  split
  · rw [h _ (by omega) (by omega) (by omega)]
  · rfl
theorem FitF.gi {T B : Int} {M M' : MemG} (h : FitF M M') (g : GI T B M) : GI T B M' := by
  have e1 := h 1 (by decide) (by decide) (by decide)
  have e0 := h 0 (by decide) (by decide) (by decide)
  refine ⟨fun k hk => by rw [h.w hk]; exact g.1 k hk, ?_, ?_, ?_⟩
  · rw [e1]; exact g.2.1
  · rw [e1]; exact g.2.2.1
  · rw [e0]; exact g.2.2.2
theorem FitF.und {M M' : MemG} (h : FitF M M') {w : Wl} (g1 : 0 ≤ M 1 1 ∧ M 1 1 < 8) (u : Und M w) : Und M' w := by
  have e1 := h 1 (by decide) (by decide) (by decide)
  unfold Und
  rw [e1, h.w (by omega)]
  exact u
theorem FitF.lf {M M' : MemG} (h : FitF M M') : LF M M' := ⟨h.w (by decide), by rw [h 0 (by decide) (by decide) (by decide)], by rw [h 2 (by decide) (by decide) (by decide)]⟩
theorem psum_add {f g : Nat → Int} : ∀ n, psum (fun i => f i + g i) n = psum f n + psum g n
  | 0 => rfl
  | n + 1 => by
    show psum (fun i => f i + g i) n + (f n + g n) = psum f n + f n + (psum g n + g n)
    rw [psum_add n]; omega
theorem kinds_all {T : Int} {w : Wl} (h : bayOK T w) : psum (w 1) 32 = kSum w 0 + kSum w 1 + kSum w 2 + kSum w 3 := by
  unfold kSum
  rw [← psum_add, ← psum_add, ← psum_add]
  refine psum_congr (fun i hi => ?_)
  have hb := h i hi
  by_cases c0 : w 0 i = 0
  · rw [if_pos c0, if_neg (by omega), if_neg (by omega), if_neg (by omega)]; omega
  · by_cases c1 : w 0 i = 1
    · rw [if_neg c0, if_pos c1, if_neg (by omega), if_neg (by omega)]; omega
    · by_cases c2 : w 0 i = 2
      · rw [if_neg c0, if_neg c1, if_pos c2, if_neg (by omega)]; omega
      · rw [if_neg c0, if_neg c1, if_neg c2, if_pos (by omega)]; omega
theorem cnt_s (p : Nat → Bool) (n : Nat) : cnt p (n + 1) = cnt p n + (if p n = true then 1 else 0) := rfl
theorem psum_s (f : Nat → Int) (n : Nat) : psum f (n + 1) = psum f n + f n := rfl
section ISFIT
variable {M : MemG} {T B : Int}
theorem s_fit38 (h : WI T B 0 (wal M 0)) (hT : T ≤ 1000000) : ∃ M', loopN (fL_isFit_l38 0) 200 ((0 : Int), (0 : Int), (1 : Int), (0 : Int), M) = some (psum (wal M 0 1) 32, ((nFil (wal M 0) : Nat) : Int), (1 : Int), M') ∧ FitF M M' := by
  have hl : ∃ r : Int × Int × Int × MemG, loopN (fL_isFit_l38 0) 200 ((0 : Int), (0 : Int), (1 : Int), (0 : Int), M) = some r ∧ ∃ M', r = (psum (wal M 0 1) 32, ((nFil (wal M 0) : Nat) : Int), (1 : Int), M') ∧ FitF M M' := by
    refine loop_inv _ (fun z : Int × Int × Int × Int × MemG => ∃ (b : Nat) (M' : MemG), z = (psum (wal M 0 1) b, ((cnt (fun b => !(wal M 0 1 b == 0)) b : Nat) : Int), (1 : Int), (b : Int), M') ∧ b ≤ 32 ∧ FitF M M') (fun z => 40 - z.2.2.2.1.toNat) _ ?_ 200 _ ⟨0, M, rfl, by decide, FitF.rf M⟩ (by show 40 - 0 < 200; decide)
    rintro z ⟨b, M', rfl, hb, hf⟩
    have hw : wal M' 0 = wal M 0 := hf.w (by decide)
    unfold fL_isFit_l38
    dsimp only
    rw [if_neg (by decide)]
    by_cases c : b < 32
    · left
      have hp := few_psum h.few (n := b) hb
      have hp1 := h.few b c
      have hcl := cnt_le (fun b => !(wal M 0 1 b == 0)) b
      have b1 := s_bayOf1 (M := M') c
      rw [hw] at b1
      obtain ⟨M2, e2, f2⟩ := s_isBay (M := M') (T := T) (B := B) (by rw [hw]; exact h) hT c
      have fin : ∀ t : Int, (t = 0 ∨ t = 1) → (cnt (fun b => !(wal M 0 1 b == 0)) b : Nat) + t = (cnt (fun b => !(wal M 0 1 b == 0)) (b + 1) : Nat) → ∃ s', fL_isFit_j76 M' (psum (wal M 0 1) b + wal M 0 1 b) 0 (b : Int) ((cnt (fun b => !(wal M 0 1 b == 0)) b : Nat) : Int) t = some (.inl s') ∧ (∃ (b : Nat) (M' : MemG), s' = (psum (wal M 0 1) b, ((cnt (fun b => !(wal M 0 1 b == 0)) b : Nat) : Int), (1 : Int), (b : Int), M') ∧ b ≤ 32 ∧ FitF M M') ∧ 40 - s'.2.2.2.1.toNat < 40 - (b : Int).toNat := by
        intro t ht he
        refine ⟨(psum (wal M 0 1) (b + 1), ((cnt (fun b => !(wal M 0 1 b == 0)) (b + 1) : Nat) : Int), (1 : Int), ((b + 1 : Nat) : Int), M2), ?_, ⟨b + 1, M2, rfl, by omega, hf.tr (fun a _ _ q => f2 a q)⟩, by show 40 - ((b + 1 : Nat) : Int).toNat < _; omega⟩
        unfold fL_isFit_j76
        rw [gd_ok (by omega), e2, Option.bind_some, gd_ok (by omega), he, psum_s, cast1]
      rw [if_pos (by omega), b1, Option.bind_some, gd_ok (by omega), Option.bind_some]
      by_cases c1 : 0 < wal M 0 1 b
      · rw [if_pos c1]
        refine fin 1 (Or.inr rfl) ?_
        rw [cnt_s, if_pos (by simp; omega)]; omega
      · rw [if_neg c1]
        refine fin 0 (Or.inl rfl) ?_
        rw [cnt_s, if_neg (by simp; omega)]; omega
    · right
      have : b = 32 := by omega
      subst this
      rw [if_neg (by decide)]
      exact ⟨_, rfl, M', rfl, hf⟩
  obtain ⟨r, er, M', e2, hf⟩ := hl
  exact ⟨M', by rw [er, e2], hf⟩
theorem s_fit95 {e : Int} (h : WI T B e (wal M 0)) (x y : Int) : ∃ M', loopN (fL_isFit_l95 x y) 200 ((0 : Int), (1 : Int), (1 : Int), M) = some (((numC (wal M 0) : Nat) : Int), (1 : Int), M') ∧ FitF M M' := by
  have hl : ∃ r : Int × Int × MemG, loopN (fL_isFit_l95 x y) 200 ((0 : Int), (1 : Int), (1 : Int), M) = some r ∧ ∃ M', r = (((numC (wal M 0) : Nat) : Int), (1 : Int), M') ∧ FitF M M' := by
    refine loop_inv _ (fun z : Int × Int × Int × MemG => ∃ (b : Nat) (M' : MemG), z = (((cnt (fun r => wal M 0 4 (r + 1) == 1) b : Nat) : Int), (1 : Int), ((b + 1 : Nat) : Int), M') ∧ b ≤ 32 ∧ FitF M M') (fun z => 40 - z.2.2.1.toNat) _ ?_ 200 _ ⟨0, M, rfl, by decide, FitF.rf M⟩ (by show 40 - 1 < 200; decide)
    rintro z ⟨b, M', rfl, hb, hf⟩
    have hw : wal M' 0 = wal M 0 := hf.w (by decide)
    unfold fL_isFit_l95
    dsimp only
    rw [if_neg (by decide)]
    by_cases c : b < 32
    · left
      have hcl := cnt_le (fun r => wal M 0 4 (r + 1) == 1) b
      have r3 := s_rungOf3 (M := M') (r := b + 1) (by omega) (by omega)
      rw [hw] at r3
      obtain ⟨M2, e2, f2⟩ := s_isRung (M := M') (T := T) (B := B) (e := e) (by rw [hw]; exact h) (r := b + 1) (by omega) (by omega)
      have he : ((cnt (fun r => wal M 0 4 (r + 1) == 1) b : Nat) : Int) + (if wal M 0 4 (b + 1) = 1 then 1 else 0) = ((cnt (fun r => wal M 0 4 (r + 1) == 1) (b + 1) : Nat) : Int) := by
        rw [cnt_s]
        by_cases c1 : wal M 0 4 (b + 1) = 1
        · rw [if_pos c1, if_pos (by simp [c1])]; omega
        · rw [if_neg c1, if_neg (by simp [c1])]; omega
      have hr : -10 ≤ (if wal M 0 4 (b + 1) = 1 then (1 : Int) else 0) ∧ (if wal M 0 4 (b + 1) = 1 then (1 : Int) else 0) ≤ 10 := by
        by_cases c1 : wal M 0 4 (b + 1) = 1
        · rw [if_pos c1]; decide
        · rw [if_neg c1]; decide
      refine ⟨(((cnt (fun r => wal M 0 4 (r + 1) == 1) (b + 1) : Nat) : Int), (1 : Int), ((b + 1 + 1 : Nat) : Int), M2), ?_, ⟨b + 1, M2, rfl, by omega, hf.tr (fun a q1 q2 _ => f2 a q1 q2)⟩, by show 40 - ((b + 1 + 1 : Nat) : Int).toNat < 40 - ((b + 1 : Nat) : Int).toNat; omega⟩
      rw [if_pos (by omega), r3, Option.bind_some, gd_ok (by omega), e2, Option.bind_some, gd_ok (by omega), he, cast1]
    · right
      have : b = 32 := by omega
      subst this
      rw [if_neg (by decide)]
      exact ⟨_, rfl, M', rfl, hf⟩
  obtain ⟨r, er, M', e2, hf⟩ := hl
  exact ⟨M', by rw [er, e2], hf⟩
theorem s_fit144 (h : WI T B 0 (wal M 0)) (hB : B ≤ 400000000) : fL_isFit_j144 M (psum (wal M 0 1) 32) ((nFil (wal M 0) : Nat) : Int) ((numC (wal M 0) : Nat) : Int) 1 (mea (wal M 0)) = some (M, 1) := by
  have a := fun (i : Nat) (hi : i < 16) => s_account (M := M) h.few hi
  have a1 : fG_account M 1 = some (wal M 0 5 1) := a 1 (by decide)
  have a2 : fG_account M 2 = some ((nFil (wal M 0) : Nat) : Int) := a 2 (by decide)
  have a3 : fG_account M 3 = some (psum (wal M 0 1) 32) := a 3 (by decide)
  have a4 : fG_account M 4 = some (kSum (wal M 0) 0) := a 4 (by decide)
  have a5 : fG_account M 5 = some (kSum (wal M 0) 1) := a 5 (by decide)
  have a6 : fG_account M 6 = some (kSum (wal M 0) 2) := a 6 (by decide)
  have a7 : fG_account M 7 = some (kSum (wal M 0) 3) := a 7 (by decide)
  have a8 : fG_account M 8 = some (wal M 0 5 8) := a 8 (by decide)
  have a9 : fG_account M 9 = some (wal M 0 5 9) := a 9 (by decide)
  have a10 : fG_account M 10 = some (wal M 0 5 10) := a 10 (by decide)
  have a11 : fG_account M 11 = some (wal M 0 5 11) := a 11 (by decide)
  have a13 : fG_account M 13 = some ((numC (wal M 0) : Nat) : Int) := a 13 (by decide)
  have a14 : fG_account M 14 = some (wal M 0 5 14) := a 14 (by decide)
  have hp := few_psum h.few (n := 32) (by decide)
  have hk := kinds_all h.b
  have k1 := h.k 1 (by decide)
  have k8 := h.k 8 (by decide)
  have k9 := h.k 9 (by decide)
  have k10 := h.k 10 (by decide)
  have k11 := h.k 11 (by decide)
  have hbal := h.l
  unfold balOK at hbal
  have hnum := h.m
  unfold numOK at hnum
  unfold fL_isFit_j144
  rw [if_neg (by decide), a3, Option.bind_some, if_pos rfl, a2, Option.bind_some, if_pos rfl, a13, Option.bind_some, if_pos rfl, a4, Option.bind_some, a5, Option.bind_some, a6, Option.bind_some, a7, Option.bind_some, gd_ok (by omega), if_pos hk, a8, Option.bind_some, a9, Option.bind_some, a10, Option.bind_some, a11, Option.bind_some, gd_ok (by omega), if_pos (by omega), s_meanSacks h, Option.bind_some, if_pos (mea_cmp _), a1, Option.bind_some, if_neg (by omega), a14, Option.bind_some, if_neg (by omega)]
theorem s_isFit (h : WI T B 0 (wal M 0)) (hT : T ≤ 1000000) (hB : B ≤ 400000000) : ∃ M', fL_isFit M = some (M', 1) ∧ FitF M M' := by
  obtain ⟨M1, e1, f1⟩ := s_fit38 h hT
  have w1 : wal M1 0 = wal M 0 := f1.w (by decide)
  obtain ⟨M2, e2, f2⟩ := s_fit95 (M := M1) (T := T) (B := B) (e := 0) (by rw [w1]; exact h) (psum (wal M 0 1) 32) ((nFil (wal M 0) : Nat) : Int)
  have w2 : wal M2 0 = wal M 0 := (f2.w (by decide)).trans w1
  have e3 := s_fit144 (M := M2) (T := T) (B := B) (by rw [w2]; exact h) hB
  rw [w1] at e2
  rw [w2] at e3
  refine ⟨M2, ?_, f1.tr f2⟩
  unfold fL_isFit
  rw [s_areRanks h hT, Option.bind_some, if_neg (by decide), s_areReached h, Option.bind_some, if_neg (by decide), s_isBalanced h hB, Option.bind_some, if_pos rfl]
  unfold fL_isFit_j33
  rw [e1, Option.bind_some]
  dsimp only
  rw [e2, Option.bind_some]
  dsimp only
  by_cases c : nFil (wal M 0) = 0
  · rw [if_pos (by omega)]
    unfold mea at e3
    rw [if_pos c] at e3
    exact e3
  · have hm := mea_ok (wal M 0) c
    unfold mea at e3 hm
    rw [if_neg c] at e3 hm
    rw [if_neg (by omega), gdd_ok hm]
    exact e3
end ISFIT
