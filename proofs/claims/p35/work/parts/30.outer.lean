/-! changes that can be undone; the past, the snapshot -/
/-- all walls, the past and the snapshot's mark are sound -/
def GI (T B : Int) (M : MemG) : Prop := (∀ k, k < 11 → WI T B 0 (wal M k)) ∧ (0 ≤ M 1 1 ∧ M 1 1 < 8) ∧ (0 ≤ M 1 2 ∧ M 1 2 ≤ 8) ∧ (M 0 3 = 0 ∨ M 0 3 = 1)
theorem GI.mono {T B T' B' : Int} {M : MemG} (h : GI T B M) (hT : T ≤ T') (hB : B ≤ B') : GI T' B' M := ⟨fun k hk => (h.1 k hk).mono hT hB, h.2⟩
/-- what no change touches -/
def OuF (M M' : MemG) : Prop := wal M' 2 = wal M 2 ∧ (∀ a, 1 < a → a < 16 → M' a = M a) ∧ (∀ a, 82 ≤ a → M' a = M a) ∧ ∀ i, i ≠ 7 → i ≠ 8 → M' 0 i = M 0 i
theorem OuF.rf (M : MemG) : OuF M M := ⟨rfl, fun _ _ _ => rfl, fun _ _ => rfl, fun _ _ _ => rfl⟩
theorem OuF.tr {A B C : MemG} (h1 : OuF A B) (h2 : OuF B C) : OuF A C := ⟨h2.1.trans h1.1, fun a q1 q2 => (h2.2.1 a q1 q2).trans (h1.2.1 a q1 q2), fun a q => (h2.2.2.1 a q).trans (h1.2.2.1 a q), fun i q1 q2 => (h2.2.2.2 i q1 q2).trans (h1.2.2.2 i q1 q2)⟩
/-- what undo gives back -/
def Und (M : MemG) (w : Wl) : Prop := 1 ≤ M 1 2 ∧ wal M (3 + ((M 1 1 + 7) % 8).toNat) = w
def kp (M : MemG) : MemG := up (up (setW M (3 + (M 1 1).toNat) (wal M 1)) 1 1 ((M 1 1 + 1) % 8)) 1 2 (min (M 1 2 + 1) 8)
theorem s_keep {M : MemG} (h1 : 0 ≤ M 1 1 ∧ M 1 1 < 8) (h2 : 0 ≤ M 1 2 ∧ M 1 2 ≤ 8) : fP_keep M 1 = some (kp M) := by
  have e : ∀ i, setW M (3 + (M 1 1).toNat) (wal M 1) 1 i = M 1 i := fun i => by rw [setW_out (by omega)]
  unfold fP_keep
  rw [if_neg (by omega), if_pos h1.2, s_copyFrom (by omega) (by decide) (by omega), Option.bind_some]
  unfold fP_keep_j44
  rw [e, gd_ok (by omega), gq_ok (by omega), Option.bind_some]
  have e2 : up (setW M (3 + (M 1 1).toNat) (wal M 1)) 1 1 ((M 1 1 + 1) % 8) 1 2 = M 1 2 := by unfold up; rw [if_neg (by decide), e]
  rw [e2, gd_ok (by omega), Option.bind_some]
  rfl
theorem kp_wal {M : MemG} {k : Nat} (hk : k < 11) : wal (kp M) k = if k = 3 + (M 1 1).toNat then wal M 1 else wal M k := by
  unfold kp
  rw [wal_up (by decide) hk, wal_up (by decide) hk]
  by_cases c : k = 3 + (M 1 1).toNat
  · rw [if_pos c, c, wal_set_same (wal_nrm M 1)]
  · rw [if_neg c, wal_set_other c]
theorem kp_out {M : MemG} {a : Nat} (h : a ≠ 1) (h2 : a < 16 ∨ 82 ≤ a) (h1 : 0 ≤ M 1 1 ∧ M 1 1 < 8) : kp M a = M a := by
  unfold kp
  rw [up_other h, up_other h, setW_out (by omega)]
theorem kp_n (M : MemG) : kp M 1 1 = (M 1 1 + 1) % 8 ∧ kp M 1 2 = min (M 1 2 + 1) 8 := by
  constructor <;> simp [kp, up]
/-- a change from outside: what it does, against the change as such -/
def OutOp (T B : Int) (M : MemG) (q : MemG × Int) : Prop := OuF M q.1 ∧ GI (T + 60) (B + 400000) q.1 ∧ ((0 ≤ q.2 ∧ Und q.1 (wal M 0)) ∨ (q.2 < 0 ∧ wal q.1 0 = wal M 0))
theorem s_outer {T B : Int} {M : MemG} (f : MemG → Option (MemG × Int)) (h : GI T B M) (hf : ∃ q, f (setW M 1 (wal M 0)) = some q ∧ InOp T B (setW M 1 (wal M 0)) q) : ∃ q q0, ((fW_copyFrom M 1 0).bind fun m1 => (f m1).bind fun q3 => (fG_remember q3.1 q3.2).bind fun q5 => some ((q5.1, q5.2))) = some q ∧ OutOp T B M q ∧ f (setW M 1 (wal M 0)) = some q0 ∧ q.2 = q0.2 ∧ wal q.1 0 = wal q0.1 0 ∧ (q.2 < 0 → q.1 = q0.1) := by
  obtain ⟨q0, e, hi, hr⟩ := hf
  have a0 : wal (setW M 1 (wal M 0)) 0 = wal M 0 := wal_set_other (by decide)
  have a1 : wal (setW M 1 (wal M 0)) 1 = wal M 0 := wal_set_same (wal_nrm M 0)
  have b1 : wal q0.1 1 = wal M 0 := (hi.1 1 (by decide) (by decide)).trans a1
  have bo : ∀ k, 1 < k → k < 11 → wal q0.1 k = wal M k := fun k q1 q2 => (hi.1 k (by omega) q2).trans (wal_set_other (by omega))
  have c1 : ∀ a, 0 < a → a < 16 → q0.1 a = M a := fun a q1 q2 => (hi.2.1 a q1 q2).trans (setW_out (by omega))
  have c2 : ∀ a, 82 ≤ a → q0.1 a = M a := fun a q1 => (hi.2.2.1 a q1).trans (setW_out (by omega))
  have c3 : ∀ i, i ≠ 7 → i ≠ 8 → q0.1 0 i = M 0 i := fun i q1 q2 => (hi.2.2.2 i q1 q2).trans (by rw [setW_out (by decide)])
  have hG0 : ∀ k, 0 < k → k < 11 → WI (T + 60) (B + 400000) 0 (wal q0.1 k) := by
    intro k q1 q2
    by_cases c : k = 1
    · rw [c, b1]; exact (h.1 0 (by decide)).mono (by omega) (by omega)
    · rw [bo k (by omega) q2]; exact (h.1 k q2).mono (by omega) (by omega)
  have n1 := h.2.1
  have n2 := h.2.2.1
  have z1 : q0.1 1 1 = M 1 1 := by rw [c1 1 (by decide) (by decide)]
  have z2 : q0.1 1 2 = M 1 2 := by rw [c1 1 (by decide) (by decide)]
  rw [s_copyFrom (by decide) (by decide) (by decide), Option.bind_some, e, Option.bind_some]
  unfold fG_remember
  rcases hr with ⟨p, hw⟩ | ⟨p, hw⟩
  · rw [if_neg (by omega), s_keep (by rw [z1]; exact n1) (by rw [z2]; exact n2), Option.bind_some, Option.bind_some]
    have kw := fun k (hk : k < 11) => kp_wal (M := q0.1) hk
    rw [z1] at kw
    have kn := kp_n q0.1
    rw [z1, z2] at kn
    have w0 : wal (kp q0.1) 0 = wal q0.1 0 := by rw [kw 0 (by decide), if_neg (by omega)]
    refine ⟨_, q0, rfl, ⟨⟨?_, ?_, ?_, ?_⟩, ⟨?_, ?_, ?_, ?_⟩, Or.inl ⟨p, ?_, ?_⟩⟩, rfl, rfl, w0, fun c => absurd c (by show ¬ (q0.2 < 0); omega)⟩
    · show wal (kp q0.1) 2 = _
      rw [kw 2 (by decide), if_neg (by omega), bo 2 (by decide) (by decide)]
    · intro a q1 q2
      show kp q0.1 a = _
      rw [kp_out (by omega) (by omega) (by rw [z1]; exact n1), c1 a (by omega) q2]
    · intro a q1
      show kp q0.1 a = _
      rw [kp_out (by omega) (by omega) (by rw [z1]; exact n1), c2 a q1]
    · intro i q1 q2
      show kp q0.1 0 i = _
      rw [kp_out (by omega) (by omega) (by rw [z1]; exact n1), c3 i q1 q2]
    · intro k hk
      show WI _ _ _ (wal (kp q0.1) k)
      rw [kw k hk]
      by_cases c : k = 3 + (M 1 1).toNat
      · rw [if_pos c]; exact hG0 1 (by decide) (by decide)
      · rw [if_neg c]
        by_cases c0 : k = 0
        · rw [c0]; exact hw
        · exact hG0 k (by omega) hk
    · show 0 ≤ kp q0.1 1 1 ∧ kp q0.1 1 1 < 8
      rw [kn.1]; omega
    · show 0 ≤ kp q0.1 1 2 ∧ kp q0.1 1 2 ≤ 8
      rw [kn.2]; omega
    · show kp q0.1 0 3 = 0 ∨ kp q0.1 0 3 = 1
      rw [kp_out (by omega) (by omega) (by rw [z1]; exact n1), c3 3 (by decide) (by decide)]
      exact h.2.2.2
    · show 1 ≤ kp q0.1 1 2
      rw [kn.2]; omega
    · show wal (kp q0.1) (3 + ((kp q0.1 1 1 + 7) % 8).toNat) = _
      rw [kn.1, kw _ (by omega), if_pos (by omega), b1]
  · rw [if_pos p, Option.bind_some]
    have hw' : wal q0.1 0 = wal M 0 := hw.trans a0
    refine ⟨_, q0, rfl, ⟨⟨bo 2 (by decide) (by decide), fun a q1 q2 => c1 a (by omega) q2, c2, c3⟩, ⟨?_, ?_, ?_, ?_⟩, Or.inr ⟨p, hw'⟩⟩, rfl, rfl, rfl, fun _ => rfl⟩
    · intro k hk
      by_cases c0 : k = 0
      · show WI _ _ _ (wal q0.1 k)
        rw [c0, hw']; exact (h.1 0 (by decide)).mono (by omega) (by omega)
      · exact hG0 k (by omega) hk
    · show 0 ≤ q0.1 1 1 ∧ q0.1 1 1 < 8
      rw [z1]; exact n1
    · show 0 ≤ q0.1 1 2 ∧ q0.1 1 2 ≤ 8
      rw [z2]; exact n2
    · show q0.1 0 3 = 0 ∨ q0.1 0 3 = 1
      rw [c3 3 (by decide) (by decide)]; exact h.2.2.2
section OUT
variable {M : MemG} {T B : Int}
theorem bef (h : GI T B M) : WI T B 0 (wal (setW M 1 (wal M 0)) 0) := by rw [wal_set_other (by decide)]; exact h.1 0 (by decide)
theorem g_store (h : GI T B M) (hB : B ≤ 1500000000) (x y z : Int) : ∃ q q0, fG_store M x y z = some q ∧ OutOp T B M q ∧ fG_storeSacks (setW M 1 (wal M 0)) x y z = some q0 ∧ q.2 = q0.2 ∧ wal q.1 0 = wal q0.1 0 ∧ (q.2 < 0 → q.1 = q0.1) := s_outer (fun m1 => fG_storeSacks m1 x y z) h (s_store (bef h) hB x y z)
theorem g_take (h : GI T B M) (hB : B ≤ 1500000000) (x y : Int) : ∃ q q0, fG_take M x y = some q ∧ OutOp T B M q ∧ fG_takeSacks (setW M 1 (wal M 0)) x y = some q0 ∧ q.2 = q0.2 ∧ wal q.1 0 = wal q0.1 0 ∧ (q.2 < 0 → q.1 = q0.1) := s_outer (fun m1 => fG_takeSacks m1 x y) h (s_take (bef h) hB x y)
theorem g_move (h : GI T B M) (hB : B ≤ 1500000000) (x y z : Int) : ∃ q q0, fG_move M x y z = some q ∧ OutOp T B M q ∧ fG_moveSacks (setW M 1 (wal M 0)) x y z = some q0 ∧ q.2 = q0.2 ∧ wal q.1 0 = wal q0.1 0 ∧ (q.2 < 0 → q.1 = q0.1) := s_outer (fun m1 => fG_moveSacks m1 x y z) h (s_move (bef h) hB x y z)
theorem g_order (h : GI T B M) (hB : B ≤ 1500000000) (x y : Int) : ∃ q q0, fG_order M x y = some q ∧ OutOp T B M q ∧ fG_fillOrder (setW M 1 (wal M 0)) x y = some q0 ∧ q.2 = q0.2 ∧ wal q.1 0 = wal q0.1 0 ∧ (q.2 < 0 → q.1 = q0.1) := s_outer (fun m1 => fG_fillOrder m1 x y) h (s_order (bef h) hB x y)
theorem g_fix (h : GI T B M) (hB : B ≤ 1500000000) (x : Int) : ∃ q q0, fG_fix M x = some q ∧ OutOp T B M q ∧ fG_mend (setW M 1 (wal M 0)) x = some q0 ∧ q.2 = q0.2 ∧ wal q.1 0 = wal q0.1 0 ∧ (q.2 < 0 → q.1 = q0.1) := s_outer (fun m1 => fG_mend m1 x) h (s_mend (bef h) hB x)
theorem g_pass (h : GI T B M) (hT : T ≤ 900000) (hB : B ≤ 1500000000) (x : Int) : ∃ q q0, fG_pass M x = some q ∧ OutOp T B M q ∧ fG_letWeeksPass (setW M 1 (wal M 0)) x = some q0 ∧ q.2 = q0.2 ∧ wal q.1 0 = wal q0.1 0 ∧ (q.2 < 0 → q.1 = q0.1) := s_outer (fun m1 => fG_letWeeksPass m1 x) h (s_pass (bef h) hT hB x)
/-! undo, save, restore -/
theorem g_undo_no (h : M 1 2 = 0) : fG_undo M = some (M, -15) := by
  unfold fG_undo fP_size
  rw [if_pos h]
def ud (M : MemG) : MemG := setW (up (up M 1 1 ((M 1 1 + 7) % 8)) 1 2 (M 1 2 - 1)) 0 (wal M (3 + ((M 1 1 + 7) % 8).toNat))
theorem g_undo_yes (h : GI T B M) (h0 : M 1 2 ≠ 0) : fG_undo M = some (ud M, M 1 2 - 1) ∧ GI T B (ud M) ∧ OuF M (ud M) ∧ wal (ud M) 0 = wal M (3 + ((M 1 1 + 7) % 8).toNat) := by
  have n1 := h.2.1
  have n2 := h.2.2.1
  have w : ∀ k, k < 11 → wal (up (up M 1 1 ((M 1 1 + 7) % 8)) 1 2 (M 1 2 - 1)) k = wal M k := fun k hk => by rw [wal_up (by decide) hk, wal_up (by decide) hk]
  have w0 : wal (ud M) 0 = wal M (3 + ((M 1 1 + 7) % 8).toNat) := wal_set_same (wal_nrm M _)
  have wo : ∀ k, 0 < k → k < 11 → wal (ud M) k = wal M k := fun k q1 q2 => by unfold ud; rw [wal_set_other (by omega), w k q2]
  have o : ∀ a, a ≠ 1 → (a < 16 ∨ 82 ≤ a) → ud M a = M a := fun a q1 q2 => by unfold ud; rw [setW_out (by omega), up_other q1, up_other q1]
  have p1 : ud M 1 1 = (M 1 1 + 7) % 8 := by unfold ud; rw [setW_out (by decide)]; simp [up]
  have p2 : ud M 1 2 = M 1 2 - 1 := by unfold ud; rw [setW_out (by decide)]; simp [up]
  refine ⟨?_, ⟨?_, ?_, ?_, ?_⟩, ⟨wo 2 (by decide) (by decide), fun a q1 q2 => o a (by omega) (by omega), fun a q => o a (by omega) (by omega), fun i _ _ => by rw [o 0 (by decide) (by decide)]⟩, w0⟩
  · unfold fG_undo fP_size
    rw [if_neg h0]
    unfold fP_giveBack
    have e1 : M 1 1 + 8 - 1 = M 1 1 + 7 := by omega
    have e2 : up M 1 1 ((M 1 1 + 7) % 8) 1 2 = M 1 2 := by simp [up]
    rw [e1, gd_ok (by omega), gq_ok (by omega), Option.bind_some, e2, gd_ok (by omega), Option.bind_some]
    have e3 : max (M 1 2 - 1) 0 = M 1 2 - 1 := by omega
    rw [e3]
    have e4 : up (up M 1 1 ((M 1 1 + 7) % 8)) 1 2 (M 1 2 - 1) 1 1 = (M 1 1 + 7) % 8 := by simp [up]
    rw [e4, if_neg (by omega), if_pos (by omega), s_copyFrom (by decide) (by omega) (by omega), w _ (by omega), Option.bind_some, Option.bind_some]
    show some (ud M, ud M 1 2) = _
    rw [p2]
  · intro k hk
    by_cases c : k = 0
    · rw [c, w0]; exact h.1 _ (by omega)
    · rw [wo k (by omega) hk]; exact h.1 k hk
  · rw [p1]; omega
  · rw [p2]; omega
  · rw [o 0 (by decide) (by decide)]; exact h.2.2.2
def sv (M : MemG) : MemG := up (setW M 2 (wal M 0)) 0 3 1
theorem g_save (h : GI T B M) : ∃ r, fG_save M = some (sv M, r) ∧ 0 ≤ r ∧ GI T B (sv M) ∧ wal (sv M) 0 = wal M 0 ∧ wal (sv M) 2 = wal M 0 ∧ (∀ a, a ≠ 0 → (a < 16 ∨ 82 ≤ a) → sv M a = M a) ∧ sv M 0 3 = 1 := by
  have w : ∀ k, k < 11 → wal (sv M) k = wal (setW M 2 (wal M 0)) k := fun k hk => by unfold sv; rw [wal_up (by decide) hk]
  have w2 : wal (sv M) 2 = wal M 0 := by rw [w 2 (by decide), wal_set_same (wal_nrm M 0)]
  have wo : ∀ k, k ≠ 2 → k < 11 → wal (sv M) k = wal M k := fun k q1 q2 => by rw [w k q2, wal_set_other q1]
  have o : ∀ a, a ≠ 0 → (a < 16 ∨ 82 ≤ a) → sv M a = M a := fun a q1 q2 => by unfold sv; rw [up_other q1, setW_out (by omega)]
  have h3 : sv M 0 3 = 1 := by simp [sv, up]
  have w0 := wo 0 (by decide) (by decide)
  have hf := (h.1 0 (by decide)).few
  refine ⟨psum (wal M 0 1) 32, ?_, psum_nonneg (fun i hi => (hf i hi).1), ⟨?_, ?_, ?_, Or.inr h3⟩, w0, w2, o, h3⟩
  · unfold fG_save
    rw [s_copyFrom (by decide) (by decide) (by decide), Option.bind_some, Option.bind_some]
    show ((fW_allSacks (sv M) 0).bind fun q4 => some (sv M, q4)) = _
    rw [s_allSacks (by decide) (by rw [w0]; exact hf), Option.bind_some, w0]
  · intro k hk
    by_cases c : k = 2
    · rw [c, w2]; exact h.1 0 (by decide)
    · rw [wo k c hk]; exact h.1 k hk
  · rw [o 1 (by decide) (by decide)]; exact h.2.1
  · rw [o 1 (by decide) (by decide)]; exact h.2.2.1
theorem g_restore_no (h : M 0 3 = 0) : fG_restore M = some (M, -15) := by
  unfold fG_restore
  rw [if_pos h]
def rs (M : MemG) : MemG := up (setW M 0 (wal M 2)) 1 2 0
theorem g_restore_yes (h : GI T B M) (h0 : M 0 3 ≠ 0) : ∃ r, fG_restore M = some (rs M, r) ∧ 0 ≤ r ∧ GI T B (rs M) ∧ wal (rs M) 0 = wal M 2 ∧ OuF M (rs M) ∧ rs M 1 2 = 0 := by
  have w : ∀ k, k < 11 → wal (rs M) k = wal (setW M 0 (wal M 2)) k := fun k hk => by unfold rs; rw [wal_up (by decide) hk]
  have w0 : wal (rs M) 0 = wal M 2 := by rw [w 0 (by decide), wal_set_same (wal_nrm M 2)]
  have wo : ∀ k, k ≠ 0 → k < 11 → wal (rs M) k = wal M k := fun k q1 q2 => by rw [w k q2, wal_set_other q1]
  have o : ∀ a, a ≠ 1 → (a < 16 ∨ 82 ≤ a) → rs M a = M a := fun a q1 q2 => by unfold rs; rw [up_other q1, setW_out (by omega)]
  have p1 : rs M 1 1 = M 1 1 := by
    unfold rs
    rw [show ∀ v, up (setW M 0 (wal M 2)) 1 2 v 1 1 = setW M 0 (wal M 2) 1 1 from fun v => by simp [up], setW_out (by decide)]
  have p2 : rs M 1 2 = 0 := by simp [rs, up]
  have hf := (h.1 2 (by decide)).few
  refine ⟨psum (wal M 2 1) 32, ?_, psum_nonneg (fun i hi => (hf i hi).1), ⟨?_, by rw [p1]; exact h.2.1, by rw [p2]; omega, by rw [o 0 (by decide) (by decide)]; exact h.2.2.2⟩, w0, ⟨wo 2 (by decide) (by decide), fun a q1 q2 => o a (by omega) (by omega), fun a q => o a (by omega) (by omega), fun i _ _ => by rw [o 0 (by decide) (by decide)]⟩, p2⟩
  · unfold fG_restore
    rw [if_neg h0, s_copyFrom (by decide) (by decide) (by decide), Option.bind_some]
    unfold fP_forget
    rw [Option.bind_some, Option.bind_some]
    show ((fW_allSacks (rs M) 0).bind fun q4 => some (rs M, q4)) = _
    rw [s_allSacks (by decide) (by rw [w0]; exact hf), Option.bind_some, w0]
  · intro k hk
    by_cases c : k = 0
    · rw [c, w0]; exact h.1 2 (by decide)
    · rw [wo k c hk]; exact h.1 k hk
end OUT
