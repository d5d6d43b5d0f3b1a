/-! one call from the script -/
theorem and_rng (a : Int) {b : Int} (hb : 0 ≤ b ∧ b ≤ 2147483647) : 0 ≤ andI a b ∧ andI a b ≤ b := by
  unfold andI
  have e : (i3 a &&& i3 b).toInt = ((i3 a).toBitVec &&& (i3 b).toBitVec).toInt := rfl
  have eb : (i3 b).toBitVec.toNat = b.toNat := by
    show (BitVec.ofInt 32 b).toNat = _
    rw [BitVec.toNat_ofInt]; omega
  have h1 : ((i3 a).toBitVec &&& (i3 b).toBitVec).toNat ≤ b.toNat := by
    rw [BitVec.toNat_and, eb]; exact Nat.and_le_right
  rw [e, BitVec.toInt_eq_toNat_of_lt (by omega)]
  omega
theorem shr_rng {a k : Int} (ha : 0 ≤ a ∧ a ≤ 65535) (hk : k = 1 ∨ k = 3 ∨ k = 4 ∨ k = 5 ∨ k = 7 ∨ k = 8) : 0 ≤ shrI a k ∧ shrI a k ≤ 65535 := by
  have h : ∀ s : BitVec 32, ∀ v : BitVec 32, v.toNat ≤ 65535 → 0 ≤ (v.sshiftRight' s).toInt ∧ (v.sshiftRight' s).toInt ≤ 65535 := by
    intro s v hv
    rw [BitVec.sshiftRight', BitVec.toInt_sshiftRight, BitVec.toInt_eq_toNat_of_lt (by omega), Int.shiftRight_eq_div_pow]
    have : 0 < 2 ^ s.toNat := Nat.pow_pos (by decide)
    have h2 : (v.toNat : Int) / ((2 ^ s.toNat : Nat) : Int) = ((v.toNat / 2 ^ s.toNat : Nat) : Int) := rfl
    have h3 : v.toNat / 2 ^ s.toNat ≤ v.toNat := Nat.div_le_self _ _
    rw [h2]
    generalize v.toNat / 2 ^ s.toNat = z at h3 ⊢
    omega
  unfold shrI
  refine h _ _ ?_
  show (BitVec.ofInt 32 a).toNat ≤ 65535
  rw [BitVec.toNat_ofInt]; omega
section ACT
variable {M : MemG} {T B : Int}
/-- what a call from the script does -/
def ActOp (T B : Int) (M : MemG) (q : MemG × Int) : Prop := GI (T + 660) (B + 4400000) q.1 ∧ q.1 2 1 = 0 ∧ (q.2 < 0 → wal q.1 0 = wal M 0)
theorem OutOp.act {q : MemG × Int} (h : OutOp T B M q) (ht : M 2 1 = 0) : ActOp T B M q := ⟨h.2.1.mono (by omega) (by omega), by rw [h.1.lf.2.2]; exact ht, fun q => by
  rcases h.2.2 with ⟨p, _⟩ | ⟨_, p⟩
  · omega
  · exact p⟩
theorem g_act28 (h : GI T B M) (hT : T ≤ 800000) (hB : B ≤ 1400000000) (ht : M 2 1 = 0) (x y t : Int) (hy : 0 ≤ y ∧ y ≤ 65535) : ∃ q, fL_act_j28 M x y t = some q ∧ ActOp T B M q := by
  have r1 := shr_rng hy (k := 1) (by omega)
  have r3 := shr_rng hy (k := 3) (by omega)
  have r4 := shr_rng hy (k := 4) (by omega)
  have r5 := shr_rng hy (k := 5) (by omega)
  have r7 := shr_rng hy (k := 7) (by omega)
  have r8 := shr_rng hy (k := 8) (by omega)
  have hst : ∀ a b c, ∃ q, fL_act_j138 M a b c = some q ∧ ActOp T B M q := by
    intro a b c
    obtain ⟨q, q0, e, o, _⟩ := g_store h (by omega) a b c
    unfold fL_act_j138
    rw [e, Option.bind_some]; exact ⟨_, rfl, o.act ht⟩
  have hps : ∀ a, ∃ q, fL_act_j224 M a = some q ∧ ActOp T B M q := by
    intro a
    obtain ⟨q, q0, e, o, _⟩ := g_pass h (by omega) (by omega) a
    unfold fL_act_j224
    rw [e, Option.bind_some]; exact ⟨_, rfl, o.act ht⟩
  unfold fL_act_j28
  generalize andI x 15 = v
  by_cases c0 : 0 ≤ v ∧ v ≤ 4
  · rw [if_pos c0, gq_ok (by omega), gq_ok (by omega)]
    split
    · exact hst _ _ _
    · rw [gq_ok (by omega)]; exact hst _ _ _
  · rw [if_neg c0]
    by_cases c1 : v = 5
    · rw [if_pos c1, gq_ok (by omega)]
      obtain ⟨q, q0, e, o, _⟩ := g_take h (by omega) t (shrI y 5 % 60)
      rw [e, Option.bind_some]; exact ⟨_, rfl, o.act ht⟩
    · rw [if_neg c1]
      by_cases c2 : 6 ≤ v ∧ v ≤ 8
      · rw [if_pos c2, gq_ok (by omega), gq_ok (by omega)]
        obtain ⟨q, q0, e, o, _⟩ := g_move h (by omega) t (shrI y 8 % 8) (shrI y 4 % 120)
        rw [e, Option.bind_some]; exact ⟨_, rfl, o.act ht⟩
      · rw [if_neg c2]
        by_cases c3 : v = 9
        · rw [if_pos c3, gq_ok (by omega), gq_ok (by omega)]
          obtain ⟨q, q0, e, o, _⟩ := g_order h (by omega) (shrI y 1 % 5) (shrI y 3 % 300)
          rw [e, Option.bind_some]; exact ⟨_, rfl, o.act ht⟩
        · rw [if_neg c3]
          by_cases c4 : 10 ≤ v ∧ v ≤ 11
          · rw [if_pos c4, gq_ok (by omega)]
            obtain ⟨q, q0, e, o, _⟩ := g_fix h (by omega) (shrI y 1 % 34)
            rw [e, Option.bind_some]; exact ⟨_, rfl, o.act ht⟩
          · rw [if_neg c4]
            by_cases c5 : v = 12
            · rw [if_pos c5]
              split
              · rw [gq_ok (by omega)]; exact hps _
              · rw [gq_ok (by omega), gd_ok (by omega)]; exact hps _
            · rw [if_neg c5]
              by_cases c6 : 13 ≤ v ∧ v ≤ 14
              · rw [if_pos c6, gq_ok (by omega), gx_ok (by omega)]
                obtain ⟨M1, q, e1, e2, g, lf, o⟩ := g_run h hT hB ht (i := 7 + (y % 19).toNat) (by omega) (by omega)
                rw [e1, Option.bind_some, e2, Option.bind_some]
                refine ⟨_, rfl, g, by show q.1 2 1 = 0; rw [lf.2.2]; exact ht, fun p => ?_⟩
                show wal q.1 0 = _
                rcases o with ⟨o, _⟩ | ⟨_, o, _⟩
                · replace p : max (-14) q.2 < 0 := p
                  omega
                · exact o
              · rw [if_neg c6]
                split
                · obtain ⟨r, e, r0, g, w0, _, o, _⟩ := g_save h
                  rw [e, Option.bind_some]
                  exact ⟨_, rfl, g.mono (by omega) (by omega), by show sv M 2 1 = 0; rw [o 2 (by decide) (by decide)]; exact ht, fun _ => w0⟩
                · split
                  · by_cases cs : M 0 3 = 0
                    · rw [g_restore_no cs, Option.bind_some]
                      exact ⟨_, rfl, h.mono (by omega) (by omega), ht, fun _ => rfl⟩
                    · obtain ⟨r, e, r0, g, w0, o, _⟩ := g_restore_yes h cs
                      rw [e, Option.bind_some]
                      exact ⟨_, rfl, g.mono (by omega) (by omega), by rw [show (rs M, r).1 = rs M from rfl, o.lf.2.2]; exact ht, fun p => absurd p (by show ¬ r < 0; omega)⟩
                  · by_cases cs : M 1 2 = 0
                    · rw [g_undo_no cs, Option.bind_some]
                      exact ⟨_, rfl, h.mono (by omega) (by omega), ht, fun _ => rfl⟩
                    · obtain ⟨e, g, o, _⟩ := g_undo_yes h cs
                      rw [e, Option.bind_some]
                      have := h.2.2.1
                      exact ⟨_, rfl, g.mono (by omega) (by omega), by rw [show (ud M, M 1 2 - 1).1 = ud M from rfl, o.lf.2.2]; exact ht, fun p => absurd p (by show ¬ M 1 2 - 1 < 0; omega)⟩
theorem g_act (h : GI T B M) (hT : T ≤ 800000) (hB : B ≤ 1400000000) (ht : M 2 1 = 0) (x : Int) : ∃ q, fL_act M x = some q ∧ ActOp T B M q := by
  have ry := and_rng (shrI x 4) (b := 65535) (by decide)
  have r1 := shr_rng ry (k := 1) (by omega)
  unfold fL_act
  split
  · rw [gq_ok (by omega)]; exact g_act28 h hT hB ht x _ _ ry
  · rw [gq_ok (by omega)]; exact g_act28 h hT hB ht x _ _ ry
end ACT
