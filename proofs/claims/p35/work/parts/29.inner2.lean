/-! mending, orders, weeks -/
theorem WI.snd {T B e : Int} {w : Wl} (h : WI T B e w) {r : Nat} (h0 : 0 < r) (hr : r < 33) (hs : w 3 r ≤ 100 * (sz r : Int)) : WI T B e (upw w 4 r 0) := by
  have hj : ∀ j i, j ≠ 4 → upw w 4 r 0 j i = w j i := by intro j i hj; unfold upw; rw [if_neg (fun q => hj q.1)]
  have h4 : ∀ i, upw w 4 r 0 4 i = if i = r then 0 else w 4 i := by
    intro i; unfold upw
    by_cases c : i = r
    · rw [if_pos ⟨rfl, c⟩, if_pos c]
    · rw [if_neg (fun q => c q.2), if_neg c]
  have h1f : upw w 4 r 0 1 = w 1 := funext fun i => hj 1 i (by decide)
  refine ⟨upw_nrm h.n (by decide) hr _, fun i hi => ?_, fun q q1 q2 => ?_, fun q q1 q2 => ?_, fun i hi => ?_, ?_, ?_⟩
  · rw [hj 1 i (by decide), hj 2 i (by decide), hj 0 i (by decide)]; exact h.b i hi
  · rw [hj 3 q (by decide), h1f]; exact h.s q q1 q2
  · rw [h4, hj 3 q (by decide)]
    by_cases c : q = r
    · subst c
      rw [if_pos rfl]
      exact ⟨Or.inl rfl, fun _ => hs⟩
    · rw [if_neg c]; exact h.c q q1 q2
  · rw [hj 5 i (by decide)]; exact h.k i hi
  · have hl := h.l
    unfold balOK at hl ⊢
    rw [hj 5 8 (by decide), hj 5 9 (by decide), hj 5 10 (by decide), hj 5 11 (by decide), h1f]
    exact hl
  · have hm := h.m
    unfold numOK numC at hm ⊢
    rw [hj 5 14 (by decide)]
    have : ∀ n, cnt (fun i => upw w 4 r 0 4 (i + 1) == 1) n ≤ cnt (fun i => w 4 (i + 1) == 1) n := by
      intro n
      induction n with
      | zero => exact Nat.le_refl _
      | succ n ih =>
        show cnt (fun i => upw w 4 r 0 4 (i + 1) == 1) n + (if (upw w 4 r 0 4 (n + 1) == 1) = true then 1 else 0) ≤ cnt (fun i => w 4 (i + 1) == 1) n + (if (w 4 (n + 1) == 1) = true then 1 else 0)
        rw [h4]
        by_cases c : n + 1 = r
        · rw [if_pos c]; simp; omega
        · rw [if_neg c]; omega
    have := this 32
    omega
section OPS
variable {M : MemG} {T B : Int}
theorem s_mend (h : WI T B 0 (wal M 0)) (hB : B ≤ 1500000000) (x : Int) : ∃ q, fG_mend M x = some q ∧ InOp T B M q := by
  unfold fG_mend
  rw [rung_eq]
  by_cases c1 : 1 ≤ x ∧ x ≤ 32
  · rw [if_pos c1, if_neg (by decide)]
    obtain ⟨r, rfl⟩ : ∃ b : Nat, x = b := ⟨x.toNat, by omega⟩
    have hr : r < 33 := by omega
    have hr0 : 0 < r := by omega
    have hs := h.sum hr0 hr
    have hz := sz_pos r
    have h1 := h.k 1 (by decide)
    have h15 := h.k 15 (by decide)
    rw [rW_isCracked (by decide), rdw_n]
    by_cases c2 : wal M 0 4 r = 1
    · rw [if_pos c2, if_neg (by decide), s_loadOf0 r hr hr0, Option.bind_some, rW_sumOf (by decide), rdw_n]
      by_cases c3 : 100 * (sz r : Int) < wal M 0 3 r
      · rw [if_pos c3, Option.bind_some, gd_ok (by omega), refuse_eq]
        exact ⟨_, rfl, InOp.refuse⟩
      · rw [if_neg c3, size_ok r (by omega) hr0 (by omega), gd_ok (by omega), rW_counted (by decide)]
        rw [show (1 : Int) = ((1 : Nat) : Int) from rfl, rdw_n]
        by_cases c4 : wal M 0 5 1 < (sz r : Int) + ((1 : Nat) : Int)
        · rw [if_pos c4, gd_ok (by omega), refuse_eq]
          exact ⟨_, rfl, InOp.refuse⟩
        · rw [if_neg c4]
          have hsd := h.snd hr0 hr (by omega)
          have e1 : upw (wal M 0) 4 r 0 5 1 = wal M 0 5 1 := by unfold upw; rw [if_neg (by omega)]
          have e15 : upw (wal M 0) 4 r 0 5 15 = wal M 0 5 15 := by unfold upw; rw [if_neg (by omega)]
          have hc1 : WI T (B + 200) 0 (cntW (upw (wal M 0) 4 r 0) 1 (-((sz r : Int) + ((1 : Nat) : Int)))) := hsd.ctr (c := 1) (by decide) (by omega) (by omega) (by omega) (by omega) (by rw [if_neg (by decide), if_neg (by decide)]; omega)
          have e15' : cntW (upw (wal M 0) 4 r 0) 1 (-((sz r : Int) + ((1 : Nat) : Int))) 5 15 = wal M 0 5 15 := by unfold cntW; unfold upw; simp
          have hc2 : WI T (B + 400) 0 (cntW (cntW (upw (wal M 0) 4 r 0) 1 (-((sz r : Int) + ((1 : Nat) : Int)))) 15 ((sz r : Int) + ((1 : Nat) : Int))) := hc1.ctr (c := 15) (by decide) (by omega) (by omega) (by omega) (by omega) (by rw [if_neg (by decide), if_neg (by decide)]; omega)
          unfold fW_makeSound
          rw [put_w (by decide) (by decide) (by exact hr), Option.bind_some, Option.bind_some, gd_ok (by omega)]
          have k1 := s_count (M := setW M 0 (upw (wal M 0) 4 r 0)) (k := 0) (c := 1) (by decide) (by decide) (d := -((sz r : Int) + ((1 : Nat) : Int))) (by rw [wal_set_same hsd.n]; omega)
          rw [wal_set_same hsd.n, setW_set] at k1
          rw [k1, Option.bind_some]
          have k2 := s_count (M := setW M 0 (cntW (upw (wal M 0) 4 r 0) 1 (-((sz r : Int) + ((1 : Nat) : Int))))) (k := 0) (c := 15) (by decide) (by decide) (d := (sz r : Int) + ((1 : Nat) : Int)) (by rw [wal_set_same hc1.n]; omega)
          rw [wal_set_same hc1.n, setW_set, show ((15 : Nat) : Int) = 15 from rfl] at k2
          rw [k2, Option.bind_some, rW_counted (by decide), rdw_n, wal_set_same hc2.n]
          exact ⟨_, rfl, InOp.yes (hc2.k 1 (by decide)).1 (hc2.mono (by omega) (by omega))⟩
    · rw [if_neg c2, if_pos rfl, refuse_eq]
      exact ⟨_, rfl, InOp.refuse⟩
  · rw [if_neg c1, if_pos rfl]
    exact ⟨_, rfl, InOp.no (by decide)⟩
/-- the coins of an order -/
def cF (x n : Int) : Int := if x = 0 then 4 * n - n / 10 else if x = 1 then 3 * n else if x = 2 then 2 * n else 3 * n - n / 20
theorem s_coins {x n : Int} (hn : 1 ≤ n ∧ n ≤ 999) : fG_coinsFor x n = some (cF x n) ∧ 0 ≤ cF x n ∧ cF x n ≤ 4000 := by
  unfold fG_coinsFor cF
  by_cases c0 : x = 0
  · rw [if_pos c0, if_pos c0, gq_ok (by omega), gd_ok (by omega)]
    exact ⟨rfl, by omega, by omega⟩
  · rw [if_neg c0, if_neg c0]
    by_cases c1 : x = 1
    · rw [if_pos c1, if_pos c1, gd_ok (by omega)]
      exact ⟨rfl, by omega, by omega⟩
    · rw [if_neg c1, if_neg c1]
      by_cases c2 : x = 2
      · rw [if_pos c2, if_pos c2, gd_ok (by omega)]
        exact ⟨rfl, by omega, by omega⟩
      · rw [if_neg c2, if_neg c2, gq_ok (by omega), gd_ok (by omega)]
        exact ⟨rfl, by omega, by omega⟩
theorem s_order_ok (h : WI T B 0 (wal M 0)) (hB : B ≤ 1500000000) {x n : Int} (hx : 0 ≤ x ∧ x ≤ 3) (hn : 1 ≤ n ∧ n ≤ 999) (hs : n ≤ kSum (wal M 0) x) : ∃ w', fG_fillOrder M x n = some (setW M 0 w', cF x n) ∧ WI (T + 60) (B + 400000) 0 w' ∧ kSum w' x = kSum (wal M 0) x - n ∧ w' 5 1 = wal M 0 5 1 + cF x n := by
  obtain ⟨w, e, hw, h5, hk⟩ := s_fillLoop (M0 := M) (x := x) (n := n) h (by omega) hs
  obtain ⟨ec, hc0, hc1⟩ := s_coins (x := x) hn
  have h10 := h.k 10 (by decide)
  have h1 := h.k 1 (by decide)
  have g10 := h5 10
  have g1 := h5 1
  have ha : WI T (B + 10000) 0 (cntW w 10 n) := hw.ctr (c := 10) (d := n) (by decide) (by omega) (by omega) (by omega) (by omega) (by rw [if_neg (by decide), if_pos (by decide)]; omega)
  have e1 : cntW w 10 n 5 1 = w 5 1 := by unfold cntW upw; rw [if_neg (by omega)]
  have hb : WI T (B + 20000) 0 (cntW (cntW w 10 n) 1 (cF x n)) := ha.ctr (c := 1) (d := cF x n) (by decide) (by omega) (by omega) (by omega) (by omega) (by rw [if_neg (by decide), if_neg (by decide)]; omega)
  have k1 := s_count (M := setW M 0 w) (k := 0) (c := 10) (by decide) (by decide) (d := n) (by rw [wal_set_same hw.n]; omega)
  rw [show ((10 : Nat) : Int) = 10 from rfl, wal_set_same hw.n, setW_set] at k1
  have k2 := s_count (M := setW M 0 (cntW w 10 n)) (k := 0) (c := 1) (by decide) (by decide) (d := cF x n) (by rw [wal_set_same ha.n]; omega)
  rw [show ((1 : Nat) : Int) = 1 from rfl, wal_set_same ha.n, setW_set] at k2
  have hks : kSum (cntW (cntW w 10 n) 1 (cF x n)) x = kSum w x := by
    unfold kSum
    refine psum_congr (fun i _ => ?_)
    have q0 : cntW (cntW w 10 n) 1 (cF x n) 0 i = w 0 i := by unfold cntW upw; rw [if_neg (by omega), if_neg (by omega)]
    have q1 : cntW (cntW w 10 n) 1 (cF x n) 1 i = w 1 i := by unfold cntW upw; rw [if_neg (by omega), if_neg (by omega)]
    rw [q0, q1]
  refine ⟨cntW (cntW w 10 n) 1 (cF x n), ?_, hb.mono (by omega) (by omega), by rw [hks, hk], ?_⟩
  · unfold fG_fillOrder
    rw [kind_eq, if_pos hx, if_neg (by decide), within_eq, if_pos hn, if_neg (by decide), s_sacksOfKind (by decide) h.few, Option.bind_some]
    have hs' : ¬ psum (fun b => if wal M 0 0 b = x then wal M 0 1 b else 0) 32 < n := by
      have : kSum (wal M 0) x = psum (fun b => if wal M 0 0 b = x then wal M 0 1 b else 0) 32 := rfl
      omega
    rw [if_neg hs', e, Option.bind_some, k1, Option.bind_some, ec, Option.bind_some, k2, Option.bind_some, Option.bind_some]
  · show cntW (cntW w 10 n) 1 (cF x n) 5 1 = _
    have : cntW (cntW w 10 n) 1 (cF x n) 5 1 = cntW w 10 n 5 1 + cF x n := by
      show upw (cntW w 10 n) 5 1 (cntW w 10 n 5 1 + cF x n) 5 1 = _
      unfold upw; rw [if_pos ⟨rfl, rfl⟩]
    rw [this, e1, g1]
theorem s_order_no (h : WI T B 0 (wal M 0)) {x n : Int} (hx : 0 ≤ x ∧ x ≤ 3) (hn : 1 ≤ n ∧ n ≤ 999) (hs : kSum (wal M 0) x < n) : fG_fillOrder M x n = some (up (up M 0 7 3) 0 8 (kSum (wal M 0) x), -14) := by
  unfold fG_fillOrder
  rw [kind_eq, if_pos hx, if_neg (by decide), within_eq, if_pos hn, if_neg (by decide), s_sacksOfKind (by decide) h.few, Option.bind_some]
  have hs' : psum (fun b => if wal M 0 0 b = x then wal M 0 1 b else 0) 32 < n := hs
  rw [if_pos hs', refuse_eq]
  rfl
theorem s_order (h : WI T B 0 (wal M 0)) (hB : B ≤ 1500000000) (x n : Int) : ∃ q, fG_fillOrder M x n = some q ∧ InOp T B M q := by
  by_cases c1 : 0 ≤ x ∧ x ≤ 3
  · by_cases c2 : 1 ≤ n ∧ n ≤ 999
    · by_cases c3 : kSum (wal M 0) x < n
      · exact ⟨_, s_order_no h c1 c2 c3, InOp.refuse⟩
      · obtain ⟨w', e, hw, -, -⟩ := s_order_ok h hB c1 c2 (by omega)
        exact ⟨_, e, InOp.yes (s_coins c2).2.1 hw⟩
    · refine ⟨_, ?_, InOp.no (c := -12) (by decide)⟩
      unfold fG_fillOrder
      rw [kind_eq, if_pos c1, if_neg (by decide), within_eq, if_neg c2, if_pos rfl]
  · refine ⟨_, ?_, InOp.no (c := -12) (by decide)⟩
    unfold fG_fillOrder
    rw [kind_eq, if_neg c1, if_pos rfl]
/-- n weeks -/
def grN : Nat → Wl → Wl
  | 0, w => w
  | n + 1, w => gro 32 (grN n w)
theorem grN_5 {w : Wl} {i : Nat} : ∀ {n : Nat}, grN n w 5 i = w 5 i
  | 0 => rfl
  | n + 1 => by
    show gro 32 (grN n w) 5 i = w 5 i
    rw [gro_5]
    exact grN_5
def grS (w : Wl) (n : Nat) : Int := psum (w 1) 32 - psum (grN n w 1) 32
theorem WI.weeks {T B e : Int} {w : Wl} (h : WI T B e w) : ∀ {n : Nat}, WI (T + n) B (e + grS w n) (grN n w)
  | 0 => by
    unfold grS
    show WI (T + 0) B (e + (psum (w 1) 32 - psum (w 1) 32)) w
    rw [Int.sub_self, Int.add_zero, Int.add_zero]
    exact h
  | n + 1 => by
    have ih := h.weeks (n := n)
    have h2 := ih.grow (Nat.le_refl 32)
    rw [grow_psum ih] at h2
    have e1 : e + grS w n + (psum (grN n w 1) 32 - psum (gro 32 (grN n w) 1) 32) = e + grS w (n + 1) := by
      unfold grS
      show _ = e + (psum (w 1) 32 - psum (gro 32 (grN n w) 1) 32)
      omega
    rw [e1] at h2
    exact h2.mono (by omega) (Int.le_refl _)
theorem s_pass_ok (h : WI T B 0 (wal M 0)) (hT : T ≤ 900000) (hB : B ≤ 1500000000) {n : Nat} (hn : 1 ≤ n ∧ n ≤ 52) : ∃ w', fG_letWeeksPass M (n : Int) = some (setW M 0 w', grS (wal M 0) n) ∧ WI (T + 60) (B + 400000) 0 w' ∧ 0 ≤ grS (wal M 0) n := by
  have hS : ∀ m : Nat, 0 ≤ psum (grN m (wal M 0) 1) 32 ∧ psum (grN m (wal M 0) 1) 32 ≤ 6400 := fun m => few_psum (h.weeks (n := m)).few (Nat.le_refl 32)
  have hmon : ∀ m : Nat, grS (wal M 0) m ≤ grS (wal M 0) (m + 1) := by
    intro m
    have hw := h.weeks (n := m)
    have hp : 0 ≤ psum (gS (grN m (wal M 0))) 32 := psum_nonneg (fun i hi => (gS_le hw hi).1)
    rw [grow_psum hw] at hp
    unfold grS
    show _ ≤ psum (wal M 0 1) 32 - psum (gro 32 (grN m (wal M 0)) 1) 32
    omega
  have hpos : ∀ m : Nat, 0 ≤ grS (wal M 0) m ∧ grS (wal M 0) m ≤ 6400 := by
    intro m
    have h0 := hS 0
    have h1 := hS m
    have e0 : grN 0 (wal M 0) = wal M 0 := rfl
    rw [e0] at h0
    refine ⟨?_, by unfold grS; omega⟩
    induction m with
    | zero => unfold grS; rw [e0]; omega
    | succ m ih => exact Int.le_trans (ih (hS m)) (hmon m)
  have hl : loopN (fG_letWeeksPass_l17 (n : Int)) 200 (0, 0, M) = some (grS (wal M 0) n, setW M 0 (grN n (wal M 0))) := by
    refine loop_c (fun i => (grS (wal M 0) i, (i : Int), setW M 0 (grN i (wal M 0)))) n ?_ (by omega) (fun i hi => ?_) ?_
    · refine Prod.ext ?_ (Prod.ext rfl ?_)
      · show 0 = grS (wal M 0) 0
        unfold grS
        exact (Int.sub_self _).symm
      · show M = setW M 0 (wal M 0)
        rw [setW_self]
    · unfold fG_letWeeksPass_l17
      dsimp only
      have hw := h.weeks (n := i)
      rw [if_pos (by omega), s_growOlder (M := setW M 0 (grN i (wal M 0))) (k := 0) (by decide) (by rw [wal_set_same hw.n]; exact hw) (by omega), Option.bind_some, wal_set_same hw.n, setW_set]
      dsimp only
      have e1 : grS (wal M 0) i + psum (gS (grN i (wal M 0))) 32 = grS (wal M 0) (i + 1) := by
        rw [grow_psum hw]
        unfold grS
        show _ = psum (wal M 0 1) 32 - psum (gro 32 (grN i (wal M 0)) 1) 32
        omega
      have := hpos (i + 1)
      rw [e1, gd_ok (by omega), gd_ok (by omega)]
      exact inl3 rfl (cast1 i) rfl
    · unfold fG_letWeeksPass_l17
      dsimp only
      rw [if_neg (by omega)]
  have hw := h.weeks (n := n)
  have hp := hpos n
  have h0 := h.k 0 (by decide)
  have h11 := h.k 11 (by decide)
  have g0 : grN n (wal M 0) 5 0 = wal M 0 5 0 := grN_5
  have g11 : grN n (wal M 0) 5 11 = wal M 0 5 11 := grN_5
  rw [Int.zero_add] at hw
  have ha : WI (T + n) (B + 10000) (grS (wal M 0) n) (cntW (grN n (wal M 0)) 0 (n : Int)) := hw.ctr (c := 0) (d := (n : Int)) (by decide) (by omega) (by omega) (by omega) (by omega) (by rw [if_neg (by decide), if_neg (by decide)]; omega)
  have e11 : cntW (grN n (wal M 0)) 0 (n : Int) 5 11 = grN n (wal M 0) 5 11 := by unfold cntW upw; rw [if_neg (by omega)]
  have hb : WI (T + n) (B + 20000) 0 (cntW (cntW (grN n (wal M 0)) 0 (n : Int)) 11 (grS (wal M 0) n)) := ha.ctr (c := 11) (by decide) (by omega) (by omega) (by omega) (by omega) (by rw [if_neg (by decide), if_pos (by decide)]; omega)
  have k1 := s_count (M := setW M 0 (grN n (wal M 0))) (k := 0) (c := 0) (by decide) (by decide) (d := (n : Int)) (by rw [wal_set_same hw.n]; omega)
  rw [show ((0 : Nat) : Int) = 0 from rfl, wal_set_same hw.n, setW_set] at k1
  have k2 := s_count (M := setW M 0 (cntW (grN n (wal M 0)) 0 (n : Int))) (k := 0) (c := 11) (by decide) (by decide) (d := grS (wal M 0) n) (by rw [wal_set_same ha.n]; omega)
  rw [show ((11 : Nat) : Int) = 11 from rfl, wal_set_same ha.n, setW_set] at k2
  refine ⟨_, ?_, hb.mono (by omega) (by omega), hp.1⟩
  unfold fG_letWeeksPass
  rw [within_eq, if_pos (show (1 : Int) ≤ (n : Int) ∧ (n : Int) ≤ 52 by omega), if_neg (by decide), hl, Option.bind_some]
  dsimp only
  rw [k1, Option.bind_some, k2, Option.bind_some]
theorem s_pass (h : WI T B 0 (wal M 0)) (hT : T ≤ 900000) (hB : B ≤ 1500000000) (x : Int) : ∃ q, fG_letWeeksPass M x = some q ∧ InOp T B M q := by
  by_cases c1 : 1 ≤ x ∧ x ≤ 52
  · obtain ⟨n, rfl⟩ : ∃ b : Nat, x = b := ⟨x.toNat, by omega⟩
    obtain ⟨w', e, hw, h0⟩ := s_pass_ok h hT hB (n := n) (by omega)
    exact ⟨_, e, InOp.yes h0 hw⟩
  · refine ⟨_, ?_, InOp.no (c := -12) (by decide)⟩
    unfold fG_letWeeksPass
    rw [within_eq, if_neg c1, if_pos rfl]
end OPS
