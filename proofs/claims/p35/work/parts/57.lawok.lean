/-! the law, whole: of a fresh granary it says yes -/
def w00 : Wl := fun j i => if j = 5 ∧ i = 1 then 50 else 0
def iniM : MemG := fun a i => if 16 ≤ a ∧ a < 82 ∧ (a - 16) % 6 = 5 ∧ i = 1 then 50 else 0
theorem ini_w {k : Nat} (hk : k < 11) : wal iniM k = w00 := by
  funext j i
  unfold wal iniM w00
  by_cases c : j < 6 ∧ i < lenJ j
  · rw [if_pos c]
    by_cases c2 : j = 5 ∧ i = 1
    · rw [if_pos c2, if_pos ⟨by omega, by omega, by omega, c2.2⟩]
    · rw [if_neg c2, if_neg (by omega)]
  · rw [if_neg c, if_neg]
    rintro ⟨rfl, rfl⟩
    exact c ⟨by decide, by decide⟩
theorem w00_0 {j i : Nat} (h : j ≠ 5) : w00 j i = 0 := if_neg (fun q => h q.1)
theorem psum_00 : ∀ n, psum (w00 1) n = 0
  | 0 => rfl
  | n + 1 => by rw [psum_s, psum_00 n, w00_0 (by decide)]; rfl
theorem w00_5 (i : Nat) : 0 ≤ w00 5 i ∧ w00 5 i ≤ 50 := by unfold w00; split <;> omega
theorem w00_ok : WI 0 50 0 w00 := by
  refine ⟨?_, ?_, ?_, ?_, fun i _ => w00_5 i, ?_, ?_⟩
  · intro j i h
    refine if_neg ?_
    rintro ⟨rfl, rfl⟩
    exact h ⟨by decide, by decide⟩
  · intro b _
    have e0 := w00_0 (j := 0) (i := b) (by decide)
    have e1 := w00_0 (j := 1) (i := b) (by decide)
    have e2 := w00_0 (j := 2) (i := b) (by decide)
    refine ⟨by omega, by omega, by omega, by omega, by omega, by omega, fun _ => e2⟩
  · intro r _ _
    rw [w00_0 (by decide), psum_00, psum_00]
    rfl
  · intro r _ _
    refine ⟨Or.inl (w00_0 (by decide)), fun _ => ?_⟩
    rw [w00_0 (by decide)]
    omega
  · show w00 5 8 - w00 5 9 - w00 5 10 - w00 5 11 = psum (w00 1) 32 + 0
    rw [psum_00]
    rfl
  · show ((numC w00 : Nat) : Int) ≤ w00 5 14
    have e : numC w00 = 0 := by
      unfold numC
      refine cnt_none (fun i _ => ?_)
      rw [w00_0 (by decide)]
      rfl
    rw [e]
    have := w00_5 14
    omega
theorem ini_ok : GI 0 50 iniM := ⟨fun k hk => by rw [ini_w hk]; exact w00_ok, by decide, by decide, Or.inl (by decide)⟩
section LAWOK
variable {M : MemG} {T B : Int}
theorem g_run0 (ht : M 2 1 = 0) : ∃ q, fG_run M = some q ∧ (∀ a, a ≠ 2 → q.1 a = M a) ∧ q.1 2 1 = 0 := by
  obtain ⟨M1, e1, f1, p1⟩ := s_readNone ht
  have e5 : up M1 2 1 0 2 5 = 0 := by rw [up_ne (by decide)]; exact p1
  refine ⟨(up M1 2 1 0, (-1000) - 0), ?_, fun a q => by show up M1 2 1 0 a = M a; rw [up_other q, f1 a q], show up M1 2 1 0 2 1 = 0 from up_at⟩
  unfold fG_run
  rw [e1, Option.bind_some]
  unfold fT_becomeEmpty
  rw [Option.bind_some, Option.bind_some, if_pos rfl]
  unfold fT_faultPosition
  rw [e5, gd_ok (by omega)]
theorem s_cell (G : gG) {i : Nat} (hi : i < 1000) : ∃ x, fL_cell G M (i : Int) = some x := by
  unfold fL_cell
  by_cases c : ((gL G : Nat) : Int) = 0
  · rw [if_pos c, gd_ok (by omega)]; exact ⟨_, rfl⟩
  · have h1 := (and_rng (i : Int) (b := 65535) (by decide)).1
    have h2 := Int.emod_nonneg (andI (i : Int) 65535) c
    have h3 := Int.emod_lt_of_pos (andI (i : Int) 65535) (show 0 < ((gL G : Nat) : Int) by omega)
    rw [if_neg c, gq_ok ⟨h1, by omega⟩, gx_ok ⟨h2, h3⟩]
    exact ⟨_, rfl⟩
/-- the acts out of the script -/
theorem s_acts (G : gG) (h : GI T B M) (hT : T ≤ 700000) (hB : B ≤ 1100000000) (ht : M 2 1 = 0) {n : Nat} (hn : n ≤ 44) : ∃ M', loopN (fL_law_l53 G (n : Int)) 200 ((0 : Int), M) = some (.inl M') ∧ GI (T + 660 * n) (B + 4400000 * n) M' ∧ M' 2 1 = 0 := by
  have hl : ∃ r : MemG ⊕ Int, loopN (fL_law_l53 G (n : Int)) 200 ((0 : Int), M) = some r ∧ ∃ M', r = .inl M' ∧ GI (T + 660 * n) (B + 4400000 * n) M' ∧ M' 2 1 = 0 := by
    refine loop_inv _ (fun z : Int × MemG => ∃ i : Nat, z.1 = i ∧ i ≤ n ∧ GI (T + 660 * i) (B + 4400000 * i) z.2 ∧ z.2 2 1 = 0) (fun z => 60 - z.1.toNat) _ ?_ 200 _ ⟨0, rfl, Nat.zero_le _, h.mono (by omega) (by omega), ht⟩ (by show 60 - 0 < 200; decide)
    rintro ⟨z1, M1⟩ ⟨i, hz, hi, g, t⟩
    replace hz : z1 = (i : Int) := hz
    replace g : GI (T + 660 * i) (B + 4400000 * i) M1 := g
    replace t : M1 2 1 = 0 := t
    subst hz
    unfold fL_law_l53
    dsimp only
    by_cases c : i < n
    · left
      obtain ⟨x, ex⟩ := s_cell (M := M1) G (i := i) (by omega)
      obtain ⟨q, eq, ga, ta, na⟩ := g_act g (by omega) (by omega) t x
      rw [if_pos (by omega), s_dig (g.1 0 (by decide)), Option.bind_some, ex, Option.bind_some, eq, Option.bind_some]
      have j88 : ∃ s' : Int × MemG, fL_law_j88 q.1 G (n : Int) (i : Int) = some (.inl s') ∧ (∃ i : Nat, s'.1 = i ∧ i ≤ n ∧ GI (T + 660 * i) (B + 4400000 * i) s'.2 ∧ s'.2 2 1 = 0) ∧ 60 - s'.1.toNat < 60 - (i : Int).toNat := by
        refine ⟨((i : Int) + 1, q.1), ?_, ⟨i + 1, by show (i : Int) + 1 = _; omega, by omega, ga.mono (by omega) (by omega), ta⟩, by show 60 - ((i : Int) + 1).toNat < _; omega⟩
        unfold fL_law_j88
        rw [gd_ok (by omega)]
      by_cases c2 : q.2 < 0
      · rw [if_pos c2, s_dig (ga.1 0 (by decide)), na c2, Option.bind_some, if_pos (lcI_self _)]
        exact j88
      · rw [if_neg c2]
        exact j88
    · right
      have : i = n := by omega
      subst this
      rw [if_neg (by omega)]
      exact ⟨_, rfl, _, rfl, g, t⟩
  obtain ⟨r, er, M', e2, g, t⟩ := hl
  exact ⟨M', by rw [er, e2], g, t⟩
/-- what the law keeps after its snapshot -/
def Kp (T B : Int) (w : Wl) (M : MemG) : Prop := GI T B M ∧ M 2 1 = 0 ∧ M 0 3 = 1 ∧ wal M 2 = w
theorem Kp.go {T' B' : Int} {w : Wl} {M' : MemG} (h : Kp T B w M) (g : GI T' B' M') (l : LF M M') : Kp T' B' w M' := ⟨g, l.2.2.trans h.2.1, l.2.1.trans h.2.2.1, l.1.trans h.2.2.2⟩
theorem s_l119 (G : gG) {w : Wl} (x4 : Int64) (x6 : Int) (h : Kp T B w M) (h0 : wal M 0 = w) (hT : T ≤ 700000) (hB : B ≤ 280000000) : ∃ M', loopN (fL_law_l119 G x4 x6) 200 ((1 : Int), (0 : Int), M) = some ((1 : Int), M') ∧ Kp (T + 720) (B + 4800000) w M' ∧ wal M' 0 = w := by
  have hl : ∃ r : Int × MemG, loopN (fL_law_l119 G x4 x6) 200 ((1 : Int), (0 : Int), M) = some r ∧ ∃ M', r = ((1 : Int), M') ∧ Kp (T + 720) (B + 4800000) w M' ∧ wal M' 0 = w := by
    refine loop_inv _ (fun z : Int × Int × MemG => z.1 = 1 ∧ ∃ k : Nat, z.2.1 = k ∧ k ≤ 4 ∧ Kp (T + 180 * k) (B + 1200000 * k) w z.2.2 ∧ wal z.2.2 0 = w) (fun z => 60 - z.2.1.toNat) _ ?_ 200 _ ⟨rfl, 0, rfl, by decide, ⟨h.1.mono (by omega) (by omega), h.2⟩, h0⟩ (by show 60 - 0 < 200; decide)
    rintro ⟨z1, z2, M1⟩ ⟨hz1, k, hz, hk, g, t⟩
    replace hz : z2 = (k : Int) := hz
    replace hz1 : z1 = 1 := hz1
    replace g : Kp (T + 180 * k) (B + 1200000 * k) w M1 := g
    replace t : wal M1 0 = w := t
    subst hz
    subst hz1
    unfold fL_law_l119
    dsimp only
    rw [if_neg n10]
    by_cases c : k < 4
    · left
      obtain ⟨M2, e2, g2, l2, w2⟩ := s_isBest g.1 (by omega) (by omega) (kd := (k : Int)) (m := 1 + 60 * (k : Int)) (by omega) (by omega)
      obtain ⟨M3, e3, g3, l3, w3⟩ := s_isSold g2 (by omega) (by omega) c (n := 20 * (k : Int) + 1) (by omega)
      obtain ⟨M4, e4, g4, l4, w4⟩ := s_isPassed g3 (by omega) (by omega)
      rw [if_pos (by omega), gd_ok (by omega), e2, Option.bind_some, if_neg n10, gd_ok (by omega), e3, Option.bind_some, if_neg n10, e4, Option.bind_some, if_neg n10]
      unfold fL_law_j173
      rw [gd_ok (by omega)]
      exact ⟨_, rfl, ⟨rfl, k + 1, by show (k : Int) + 1 = _; omega, by omega, g.go (g4.mono (by omega) (by omega)) ((l2.tr l3).tr l4), by show wal M4 0 = w; rw [w4, w3, w2, t]⟩, by show 60 - ((k : Int) + 1).toNat < 60 - (k : Int).toNat; omega⟩
    · right
      have : k = 4 := by omega
      subst this
      rw [if_neg (by omega)]
      exact ⟨_, rfl, _, rfl, ⟨g.1.mono (by omega) (by omega), g.2⟩, t⟩
  obtain ⟨r, er, M', e2, g, t⟩ := hl
  exact ⟨M', by rw [er, e2], g, t⟩
theorem s_l183 (G : gG) {w : Wl} (x6 : Int) (h : Kp T B w M) (h0 : wal M 0 = w) (hT : T ≤ 700000) (hB : B ≤ 300000000) : ∃ M', loopN (fL_law_l183 G (d3 w 32) x6) 200 ((1 : Int), (0 : Int), M) = some ((1 : Int), M') ∧ Kp (T + 12540) (B + 83600000) w M' := by
  have hl : ∃ r : Int × MemG, loopN (fL_law_l183 G (d3 w 32) x6) 200 ((1 : Int), (0 : Int), M) = some r ∧ ∃ M', r = ((1 : Int), M') ∧ Kp (T + 12540) (B + 83600000) w M' := by
    refine loop_inv _ (fun z : Int × Int × MemG => z.1 = 1 ∧ ∃ k : Nat, z.2.1 = k ∧ k ≤ 19 ∧ Kp (T + 660 * k) (B + 4400000 * k) w z.2.2 ∧ wal z.2.2 0 = w) (fun z => 60 - z.2.1.toNat) _ ?_ 200 _ ⟨rfl, 0, rfl, by decide, ⟨h.1.mono (by omega) (by omega), h.2⟩, h0⟩ (by show 60 - 0 < 200; decide)
    rintro ⟨z1, z2, M1⟩ ⟨hz1, k, hz, hk, g, t⟩
    replace hz : z2 = (k : Int) := hz
    replace hz1 : z1 = 1 := hz1
    replace g : Kp (T + 660 * k) (B + 4400000 * k) w M1 := g
    replace t : wal M1 0 = w := t
    subst hz
    subst hz1
    unfold fL_law_l183
    dsimp only
    rw [if_neg n10]
    by_cases c : k < 19
    · left
      obtain ⟨M2, q, e2, e3, g3, l3, hq⟩ := g_run g.1 (by omega) (by omega) g.2.1 (i := 7 + k) (by omega) (by omega)
      rw [if_pos (by omega), gx_ok (by omega), show ((k : Int)).toNat = k by omega, e2, Option.bind_some, e3, Option.bind_some]
      have j250 : ∀ M5 : MemG, GI (T + 660 * k + 660) (B + 4400000 * k + 4400000) M5 → LF M1 M5 → wal M5 0 = w → ∃ s' : Int × Int × MemG, fL_law_j250 M5 G (d3 w 32) x6 (k : Int) = some (.inl s') ∧ (s'.1 = 1 ∧ ∃ k : Nat, s'.2.1 = k ∧ k ≤ 19 ∧ Kp (T + 660 * k) (B + 4400000 * k) w s'.2.2 ∧ wal s'.2.2 0 = w) ∧ 60 - s'.2.1.toNat < 60 - (k : Int).toNat := by
        intro M5 g5 l5 w5
        refine ⟨(1, (k : Int) + 1, M5), ?_, ⟨rfl, k + 1, by show (k : Int) + 1 = _; omega, by omega, g.go (g5.mono (by omega) (by omega)) l5, w5⟩, by show 60 - ((k : Int) + 1).toNat < _; omega⟩
        unfold fL_law_j250 fL_law_j265
        rw [s_dig (g5.1 0 (by decide)), w5, Option.bind_some, if_pos (lcI_self _), gd_ok (by omega)]
      rcases hq with ⟨q0, u⟩ | ⟨q1, q2, q3⟩
      · rw [t] at u
        obtain ⟨M3, M4, n, f1, f2, f3, f4, f5, f6, f7⟩ := fit_undo (M := M1) g3 (by omega) (by omega) l3 (by rw [t]; exact u)
        rw [if_neg (by omega), f1, Option.bind_some, if_neg n10, f2, Option.bind_some, if_neg (by omega)]
        exact j250 M4 f5 f6 (f7.trans t)
      · have s1 : fG_reason q.1 0 = 9 := by unfold fG_reason; rw [if_neg (by rw [q3]; decide), if_pos rfl, q3]
        rw [if_pos (by omega), if_pos q1, if_pos s1]
        exact j250 q.1 g3 l3 (q2.trans t)
    · right
      have : k = 19 := by omega
      subst this
      rw [if_neg (by omega)]
      exact ⟨_, rfl, _, rfl, g.1.mono (by omega) (by omega), g.2⟩
  obtain ⟨r, er, M', e2, g⟩ := hl
  exact ⟨M', by rw [er, e2], g⟩
theorem s_l275 (G : gG) {w : Wl} (x4 : Int64) (x6 : Int) (h : Kp T B w M) (hT : T ≤ 700000) (hB : B ≤ 380000000) : ∃ M', loopN (fL_law_l275 G x4 x6) 200 ((1 : Int), (0 : Int), M) = some ((1 : Int), M') ∧ Kp (T + 1920) (B + 12800000) w M' := by
  have hl : ∃ r : Int × MemG, loopN (fL_law_l275 G x4 x6) 200 ((1 : Int), (0 : Int), M) = some r ∧ ∃ M', r = ((1 : Int), M') ∧ Kp (T + 1920) (B + 12800000) w M' := by
    refine loop_inv _ (fun z : Int × Int × MemG => z.1 = 1 ∧ ∃ k : Nat, z.2.1 = k ∧ k ≤ 8 ∧ Kp (T + 240 * k) (B + 1600000 * k) w z.2.2) (fun z => 60 - z.2.1.toNat) _ ?_ 200 _ ⟨rfl, 0, rfl, by decide, h.1.mono (by omega) (by omega), h.2⟩ (by show 60 - 0 < 200; decide)
    rintro ⟨z1, z2, M1⟩ ⟨hz1, k, hz, hk, g⟩
    replace hz : z2 = (k : Int) := hz
    replace hz1 : z1 = 1 := hz1
    replace g : Kp (T + 240 * k) (B + 1600000 * k) w M1 := g
    subst hz
    subst hz1
    unfold fL_law_l275
    dsimp only
    rw [if_neg n10]
    by_cases c : k < 8
    · left
      obtain ⟨q2, -, e2, o2, -⟩ := g_store g.1 (by omega) (4 * (k : Int) % 32) ((k : Int) % 4) (100 + 12 * (k : Int))
      obtain ⟨q3, -, e3, o3, -⟩ := g_move o2.2.1 (by omega) (4 * (k : Int) % 32) (4 * (k : Int) % 32 + 1) 60
      obtain ⟨q4, -, e4, o4, -⟩ := g_pass o3.2.1 (by omega) (by omega) (1 + 2 * (k : Int))
      obtain ⟨q5, -, e5, o5, -⟩ := g_fix o4.2.1 (by omega) (4 * (k : Int) % 32 + 1)
      obtain ⟨M6, e6, f6⟩ := s_isFit (o5.2.1.1 0 (by decide)) (by omega) (by omega)
      rw [if_pos (by omega), gd_ok (by omega), gq_ok (by omega), gq_ok (by omega), gd_ok (by omega), e2, Option.bind_some, gd_ok (by omega), gq_ok (by omega), gd_ok (by omega), gq_ok (by omega), gd_ok (by omega), e3, Option.bind_some, gd_ok (by omega), e4, Option.bind_some, gd_ok (by omega), gq_ok (by omega), gd_ok (by omega), e5, Option.bind_some, e6, Option.bind_some, gd_ok (by omega)]
      exact ⟨_, rfl, ⟨rfl, k + 1, by show (k : Int) + 1 = _; omega, by omega, g.go ((f6.gi o5.2.1).mono (by omega) (by omega)) ((((o2.1.lf.tr o3.1.lf).tr o4.1.lf).tr o5.1.lf).tr f6.lf)⟩, by show 60 - ((k : Int) + 1).toNat < 60 - (k : Int).toNat; omega⟩
    · right
      have : k = 8 := by omega
      subst this
      rw [if_neg (by omega)]
      exact ⟨_, rfl, _, rfl, g.1.mono (by omega) (by omega), g.2⟩
  obtain ⟨r, er, M', e2, g⟩ := hl
  exact ⟨M', by rw [er, e2], g⟩
theorem s_j50 (G : gG) (h : GI T B M) (hT : T ≤ 10000) (hB : B ≤ 2000000) (ht : M 2 1 = 0) {n : Nat} (hn : n ≤ 44) : fL_law_j50 M G (n : Int) = some 1 := by
  obtain ⟨M1, e1, g1, t1⟩ := s_acts G h (by omega) (by omega) ht hn
  replace g1 : GI (T + 29040) (B + 193600000) M1 := g1.mono (by omega) (by omega)
  obtain ⟨M2, e2, f2⟩ := s_isFit (g1.1 0 (by decide)) (by omega) (by omega)
  have g2 := f2.gi g1
  have t2 : M2 2 1 = 0 := f2.lf.2.2.trans t1
  obtain ⟨q3, e3, f3, t3⟩ := g_run0 t2
  obtain ⟨g3, w3⟩ := g2.out (M2 := q3.1) (fun a _ q => f3 a q)
  have e4 := s_dig (M := q3.1) (g3.1 0 (by decide))
  have e5 := g_save2 g3
  obtain ⟨-, -, -, g5, w50, w52, o5, s5⟩ := g_save g3
  have k5 : Kp (T + 29040) (B + 193600000) (wal q3.1 0) (sv q3.1) := ⟨g5, by rw [o5 2 (by decide) (by decide)]; exact t3, s5, w52⟩
  obtain ⟨M6, e6, k6, w6⟩ := s_l119 G (d3 (wal q3.1 0) 32) (psum (wal q3.1 0 1) 32) k5 w50 (by omega) (by omega)
  obtain ⟨M7, e7, k7⟩ := s_l183 G (psum (wal q3.1 0 1) 32) k6 w6 (by omega) (by omega)
  obtain ⟨M8, e8, k8⟩ := s_l275 G (d3 (wal q3.1 0) 32) (psum (wal q3.1 0 1) 32) k7 (by omega) (by omega)
  have n3 : M8 0 3 ≠ 0 := by rw [k8.2.2.1]; decide
  have e9 := g_restore2 k8.1 n3
  obtain ⟨-, -, -, g9, w9, -, z9⟩ := g_restore_yes k8.1 n3
  rw [k8.2.2.2] at e9 w9
  unfold fL_law_j50
  rw [e1, Option.bind_some]
  dsimp only
  rw [e2, Option.bind_some, e3, Option.bind_some, e4, Option.bind_some, e5, Option.bind_some, e6, Option.bind_some, e7, Option.bind_some, e8, Option.bind_some, if_neg n10, e9, Option.bind_some, if_pos rfl, s_dig (g9.1 0 (by decide)), w9, Option.bind_some, if_pos (lcI_self _), g_undo_no z9, Option.bind_some, if_pos rfl]
theorem s_law (G : gG) : fL_law G iniM = some 1 := by
  obtain ⟨q1, -, e1, o1, -⟩ := g_store ini_ok (by omega) 0 0 90
  obtain ⟨q2, -, e2, o2, -⟩ := g_store o1.2.1 (by omega) 1 1 150
  obtain ⟨q3, -, e3, o3, -⟩ := g_store o2.2.1 (by omega) 5 2 40
  have t : q3.1 2 1 = 0 := (((o1.1.tr o2.1).tr o3.1).lf.2.2).trans (by decide)
  unfold fL_law
  rw [e1, Option.bind_some, e2, Option.bind_some, e3, Option.bind_some]
  by_cases c : ((gL G : Nat) : Int) < 44
  · rw [if_pos c]
    exact s_j50 G o3.2.1 (by omega) (by omega) t (by omega)
  · rw [if_neg c]
    exact s_j50 G o3.2.1 (by omega) (by omega) t (n := 44) (by decide)
end LAWOK
