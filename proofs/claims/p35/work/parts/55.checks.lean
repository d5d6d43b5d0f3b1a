/-! the law's own checks: where to store, an order, a week, each undone -/
section CHECKS
variable {M : MemG} {T B : Int}
theorem n10 : ¬ ((1 : Int) = 0) := by decide
theorem kind_in {x : Int} (h : 0 ≤ x ∧ x ≤ 3) : fG_isKind x = 1 := by rw [kind_eq, if_pos h]
theorem s_dig (h : WI T B 0 (wal M 0)) : fL_digest M = some (d3 (wal M 0) 32) := s_digest h.few
/-- a change that can be undone is checked and undone -/
theorem fit_undo {q1 : MemG} (g : GI T B q1) (hT : T ≤ 1000000) (hB : B ≤ 400000000) (lf : LF M q1) (u : Und q1 (wal M 0)) : ∃ M1 M2 n, fL_isFit q1 = some (M1, 1) ∧ fG_undo M1 = some (M2, n) ∧ 0 ≤ n ∧ fL_digest M2 = some (d3 (wal M 0) 32) ∧ GI T B M2 ∧ LF M M2 ∧ wal M2 0 = wal M 0 := by
  obtain ⟨M1, e1, f1⟩ := s_isFit (g.1 0 (by decide)) hT hB
  have g1 := f1.gi g
  have u1 := f1.und g.2.1 u
  obtain ⟨e2, g2, o2, w2⟩ := g_undo_yes g1 (by have := u1.1; omega)
  have w3 : wal (ud M1) 0 = wal M 0 := w2.trans u1.2
  refine ⟨M1, ud M1, _, e1, e2, by have := u1.1; omega, ?_, g2, lf.tr (f1.lf.tr o2.lf), w3⟩
  rw [s_dig (g2.1 0 (by decide)), w3]
def Ck (T B : Int) (M : MemG) (q : Option (MemG × Int)) : Prop := ∃ M', q = some (M', 1) ∧ GI (T + 60) (B + 400000) M' ∧ LF M M' ∧ wal M' 0 = wal M 0
theorem s_isBest (h : GI T B M) (hT : T ≤ 900000) (hB : B ≤ 300000000) {kd m : Int} (hk : 0 ≤ kd ∧ kd ≤ 3) (hm : 1 ≤ m ∧ m ≤ 200) : Ck T B M (fL_isBest M kd m) := by
  have h0 := h.1 0 (by decide)
  obtain ⟨x, ex, hx⟩ := s_bestBay h0 hk hm
  unfold fL_isBest
  rw [s_dig h0, Option.bind_some, ex, Option.bind_some]
  rcases hx with hx | ⟨b, hb, hx, hr, hn⟩
  · rw [if_pos hx]
    exact ⟨M, rfl, h.mono (by omega) (by omega), LF.rf M, rfl⟩
  · have hbay := h0.b b hb
    rw [if_neg (by omega), hx, s_bayOf1 hb, Option.bind_some]
    obtain ⟨q, q0, e1, ho, e2, r1, r2, -⟩ := g_store h (by omega) (b : Int) kd m
    have hw : wal (setW M 1 (wal M 0)) 0 = wal M 0 := wal_set_other (by decide)
    have hs := s_store_ok (bef h) (by omega) hb hk hm (by rw [hw]; exact hr)
    rw [hw] at hs
    have e3 := hs.1.symm.trans e2
    have e4 : q0 = (setW (setW M 1 (wal M 0)) 0 (stoW (wal M 0) b kd m), ((stoN (wal M 0) b kd m : Nat) : Int)) := (Option.some.inj e3).symm
    have e5 : q.2 = 0 := by rw [r1, e4]; show ((stoN (wal M 0) b kd m : Nat) : Int) = 0; rw [stoN_0 hn]; rfl
    have e6 : wal q.1 0 = stoW (wal M 0) b kd m := by rw [r2, e4]; exact wal_set_same hs.2.n
    have u : Und q.1 (wal M 0) := by
      rcases ho.2.2 with u | u
      · exact u.2
      · have := u.1; omega
    obtain ⟨M1, M2, n, f1, f2, f3, f4, f5, f6, f7⟩ := fit_undo ho.2.1 (by omega) (by omega) ho.1.lf u
    have j84 : fL_isBest_j84 M1 (d3 (wal M 0) 32) 1 = some (M2, 1) := by
      unfold fL_isBest_j84
      rw [if_neg n10, f2, Option.bind_some, if_neg (by omega), f4, Option.bind_some, if_pos (lcI_self _)]
    have j47 : fL_isBest_j47 M kd m (d3 (wal M 0) 32) (b : Int) (wal M 0 1 b) = some (M2, 1) := by
      unfold fL_isBest_j47
      have b1 := s_bayOf1 (M := q.1) hb
      rw [e6, stoW_1] at b1
      rw [e1, Option.bind_some, if_pos e5, b1, Option.bind_some, gd_ok (by omega), if_pos rfl, f1, Option.bind_some, if_neg n10, j84]
    refine ⟨M2, ?_, f5, f6, f7⟩
    by_cases c : wal M 0 1 b = 0
    · rw [if_pos c, j47]
    · rw [if_neg c, s_bayOf0 hb, if_neg c, Option.bind_some, if_pos (by omega), j47]
theorem gro_one (w : Wl) : grN 1 w = gro 32 w := rfl
theorem s_told (h : WI T B 0 (wal M 0)) (hT : T ≤ 900000) (x : Int64) : loopN (fL_isPassed_l10 M x) 200 ((0 : Int), (0 : Int)) = some (grS (wal M 0) 1) := by
  have hg := grow_psum h
  have e : ∀ b, b < 32 → gS (wal M 0) b = spo (wal M 0) b (wal M 0 2 b + 1) := by
    intro b hb
    unfold gS
    by_cases c : wal M 0 1 b = 0
    · rw [if_pos c]
      have := spo_le h.b hb (wal M 0 2 b + 1)
      omega
    · rw [if_neg c]
  have hN : grS (wal M 0) 1 = psum (gS (wal M 0)) 32 := by rw [hg]; rfl
  rw [hN]
  have hle := fun b (hb : b < 32) => gS_le h hb
  have hps : ∀ n, n ≤ 32 → 0 ≤ psum (gS (wal M 0)) n ∧ psum (gS (wal M 0)) n ≤ 6400 := by
    intro n hn
    have h1 := psum_nonneg (f := gS (wal M 0)) (n := n) (fun i hi => (hle i (by omega)).1)
    have h2 := psum_le (f := gS (wal M 0)) (B := 200) (n := n) (fun i hi => (hle i (by omega)).2)
    omega
  refine loop_c (fun i : Nat => (psum (gS (wal M 0)) i, (i : Int))) 32 rfl (by decide) ?_ ?_
  · intro i hi
    have h1 := hps i (by omega)
    have h2 := hle i hi
    have hs : psum (gS (wal M 0)) i + gS (wal M 0) i = psum (gS (wal M 0)) (i + 1) := rfl
    unfold fL_isPassed_l10
    dsimp only
    rw [if_pos (by omega), s_bayOf3 h.b (by omega) hi, Option.bind_some, ← e i hi, gd_ok (by omega), gd_ok (by omega), hs, cast1]
  · unfold fL_isPassed_l10
    rfl
theorem s_isPassed (h : GI T B M) (hT : T ≤ 800000) (hB : B ≤ 300000000) : Ck T B M (fL_isPassed M) := by
  have h0 := h.1 0 (by decide)
  have hw : wal (setW M 1 (wal M 0)) 0 = wal M 0 := wal_set_other (by decide)
  obtain ⟨q, q0, e1, ho, e2, r1, r2, -⟩ := g_pass h (by omega) (by omega) 1
  obtain ⟨w', hs, -, hp⟩ := s_pass_ok (M := setW M 1 (wal M 0)) (bef h) (by omega) (by omega) (n := 1) (by decide)
  rw [hw] at hs hp
  have e3 := hs.symm.trans e2
  have e4 : q0 = (setW (setW M 1 (wal M 0)) 0 w', grS (wal M 0) 1) := (Option.some.inj e3).symm
  have e5 : q.2 = grS (wal M 0) 1 := by rw [r1, e4]
  have u : Und q.1 (wal M 0) := by
    rcases ho.2.2 with u | u
    · exact u.2
    · have := u.1; omega
  obtain ⟨M1, M2, n, f1, f2, f3, f4, f5, f6, f7⟩ := fit_undo ho.2.1 (by omega) (by omega) ho.1.lf u
  refine ⟨M2, ?_, f5, f6, f7⟩
  unfold fL_isPassed
  rw [s_dig h0, Option.bind_some, s_told h0 (by omega), Option.bind_some, e1, Option.bind_some, if_pos e5, f1, Option.bind_some, if_neg n10]
  unfold fL_isPassed_j54
  rw [if_neg n10, f2, Option.bind_some, if_neg (by omega), f4, Option.bind_some, if_pos (lcI_self _)]
theorem acc_kind {w : Wl} {k : Nat} (hk : k < 4) : acc w (4 + k) = kSum w (k : Int) := by
  unfold acc
  rw [if_neg (by omega), if_neg (by omega), if_pos (by omega), show ((4 + k : Nat) : Int) - 4 = (k : Int) by omega]
theorem s_isSold (h : GI T B M) (hT : T ≤ 800000) (hB : B ≤ 300000000) {k : Nat} (hk : k < 4) {n : Int} (hn : 1 ≤ n ∧ n ≤ 999) : Ck T B M (fL_isSold M (k : Int) n) := by
  have h0 := h.1 0 (by decide)
  have hw : wal (setW M 1 (wal M 0)) 0 = wal M 0 := wal_set_other (by decide)
  obtain ⟨q, q0, e1, ho, e2, r1, r2, r3⟩ := g_order h (by omega) (k : Int) n
  have ak : ∀ M' : MemG, fewS (wal M' 0) → fG_account M' (4 + (k : Int)) = some (kSum (wal M' 0) (k : Int)) := by
    intro M' hf
    have := s_account (M := M') hf (i := 4 + k) (by omega)
    rw [acc_kind hk, show ((4 + k : Nat) : Int) = 4 + (k : Int) by omega] at this
    exact this
  have a1 : ∀ M' : MemG, fewS (wal M' 0) → fG_account M' 1 = some (wal M' 0 5 1) := fun M' hf => s_account (M := M') hf (i := 1) (by decide)
  have hks : ∀ w : Wl, fewS w → 0 ≤ kSum w (k : Int) ∧ kSum w (k : Int) ≤ 6400 := by
    intro w hf
    have h1 : ∀ i, i < 32 → 0 ≤ (if w 0 i = (k : Int) then w 1 i else 0) ∧ (if w 0 i = (k : Int) then w 1 i else 0) ≤ 200 := by
      intro i hi
      have := hf i hi
      split <;> omega
    have h2 := psum_nonneg (f := fun b => if w 0 b = (k : Int) then w 1 b else 0) (n := 32) (fun i hi => (h1 i hi).1)
    have h3 := psum_le (f := fun b => if w 0 b = (k : Int) then w 1 b else 0) (B := 200) (n := 32) (fun i hi => (h1 i hi).2)
    exact ⟨h2, by unfold kSum; omega⟩
  have hk0 := hks (wal M 0) h0.few
  have hc := s_coins (x := (k : Int)) hn
  have hq1 := h0.k 1 (by decide)
  unfold fL_isSold
  rw [s_dig h0, Option.bind_some, gd_ok (by omega), ak M h0.few, Option.bind_some, a1 M h0.few, Option.bind_some, e1, Option.bind_some]
  by_cases c : kSum (wal M 0) (k : Int) < n
  · have hs := s_order_no (M := setW M 1 (wal M 0)) (bef h) (x := (k : Int)) (n := n) (by omega) hn (by rw [hw]; exact c)
    rw [hw] at hs
    have e4 := (Option.some.inj (hs.symm.trans e2)).symm
    have e5 : q.2 = -14 := by rw [r1, e4]
    have e6 : q.1 = up (up (setW M 1 (wal M 0)) 0 7 3) 0 8 (kSum (wal M 0) (k : Int)) := by rw [r3 (by omega), e4]
    have e7 : q.1 0 7 = 3 := by rw [e6]; simp [up]
    have e8 : q.1 0 8 = kSum (wal M 0) (k : Int) := by rw [e6]; simp [up]
    have w7 : wal q.1 0 = wal M 0 := by rw [r2, e4]; show wal (up (up (setW M 1 (wal M 0)) 0 7 3) 0 8 _) 0 = _; rw [wal_refuse (by decide), hw]
    have g7 := ho.2.1
    refine ⟨q.1, ?_, g7, ho.1.lf, w7⟩
    have s1 : fG_reason q.1 0 = 3 := by unfold fG_reason; rw [if_neg (by rw [e7]; decide), if_pos rfl, e7]
    have s2 : fG_reason q.1 1 = kSum (wal M 0) (k : Int) := by unfold fG_reason; rw [if_neg (by rw [e7]; decide), if_neg (by decide), e8]
    rw [if_pos e5, if_pos c, if_pos s1, if_pos s2, s_dig (g7.1 0 (by decide)), w7, Option.bind_some, if_pos (lcI_self _)]
  · obtain ⟨w', hs, hw', hsum, hcoin⟩ := s_order_ok (M := setW M 1 (wal M 0)) (bef h) (by omega) (x := (k : Int)) (n := n) (by omega) hn (by rw [hw]; omega)
    rw [hw] at hsum hcoin
    have e4 := (Option.some.inj (hs.symm.trans e2)).symm
    have e5 : q.2 = cF (k : Int) n := by rw [r1, e4]
    have w7 : wal q.1 0 = w' := by rw [r2, e4]; exact wal_set_same hw'.n
    have u : Und q.1 (wal M 0) := by
      rcases ho.2.2 with u | u
      · exact u.2
      · have := u.1; omega
    obtain ⟨M1, M2, nn, f1, f2, f3, f4, f5, f6, f7⟩ := fit_undo ho.2.1 (by omega) (by omega) ho.1.lf u
    refine ⟨M2, ?_, f5, f6, f7⟩
    have fq : fewS (wal q.1 0) := (ho.2.1.1 0 (by decide)).few
    have p1 : fG_price (k : Int) n = some (cF (k : Int) n) := by
      unfold fG_price
      rw [kind_in (by omega), if_neg n10, within_in hn, if_neg n10, hc.1, Option.bind_some]
    have b1 := a1 q.1 fq
    have b2 := ak q.1 fq
    rw [w7, hcoin] at b1
    rw [w7, hsum] at b2
    rw [e5, if_neg (by omega), if_neg c, p1, Option.bind_some, if_pos rfl, b1, Option.bind_some, gd_ok (by omega), if_pos rfl, gd_ok (by omega), b2, Option.bind_some, gd_ok (by omega), if_pos rfl, f1, Option.bind_some, if_neg n10]
    unfold fL_isSold_j132
    rw [if_neg n10, f2, Option.bind_some, if_neg (by omega), f4, Option.bind_some, if_pos (lcI_self _)]
theorem g_save2 (h : GI T B M) : fG_save M = some (sv M, psum (wal M 0 1) 32) := by
  obtain ⟨r, e, -, g, w0, -, -, -⟩ := g_save h
  rw [e]
  have hf := (h.1 0 (by decide)).few
  unfold fG_save at e
  rw [s_copyFrom (by decide) (by decide) (by decide), Option.bind_some, Option.bind_some] at e
  have e2 : ((fW_allSacks (sv M) 0).bind fun q4 => some (sv M, q4)) = some (sv M, r) := e
  rw [s_allSacks (by decide) (by rw [w0]; exact hf), Option.bind_some, w0] at e2
  exact e2.symm
theorem g_restore2 (h : GI T B M) (h0 : M 0 3 ≠ 0) : fG_restore M = some (rs M, psum (wal M 2 1) 32) := by
  obtain ⟨r, e, -, g, w0, -, -⟩ := g_restore_yes h h0
  rw [e]
  have hf := (h.1 2 (by decide)).few
  unfold fG_restore at e
  rw [if_neg h0, s_copyFrom (by decide) (by decide) (by decide), Option.bind_some] at e
  unfold fP_forget at e
  rw [Option.bind_some, Option.bind_some] at e
  have e2 : ((fW_allSacks (rs M) 0).bind fun q4 => some (rs M, q4)) = some (rs M, r) := e
  rw [s_allSacks (by decide) (by rw [w0]; exact hf), Option.bind_some, w0] at e2
  exact e2.symm
end CHECKS
