/-! running the text -/
def rF (cc : Int) (m : MemG) : Option (MemG × Int) := (loopN (fG_run_l52 cc) 200 (0, m)).bind fun q15 => (match q15 with | .inl w16 => some (w16, cc) | .inr w17 => ((fW_copyFrom w17.2 0 1).bind fun m21 => (fG_refuse m21 9 w17.1).bind fun q23 => some ((q23.1, q23.2))))
section RUN
variable {M : MemG} {T B : Int}
theorem s_carry (h : WI T B 0 (wal M 0)) (hT : T ≤ 900000) (hB : B ≤ 1500000000) {x : Int} (hx : 0 ≤ x ∧ x ≤ 20) : ∃ q, fG_carryOut M x = some q ∧ InOp T B M q := by
  have ha : ∀ y : Int, 0 ≤ y → y ≤ 3 → fT_argument M x y = some (fG_at M 83 (x * 4 + y)) := fun y h1 h2 => by unfold fT_argument; rw [gd_ok (by omega)]
  have hv : fT_verb M x = some (fG_at M 83 (x * 4)) := by unfold fT_verb; rw [gd_ok (by omega)]
  unfold fG_carryOut
  rw [ha 1 (by decide) (by decide), Option.bind_some, ha 2 (by decide) (by decide), Option.bind_some, ha 3 (by decide) (by decide), Option.bind_some, hv, Option.bind_some]
  generalize fG_at M 83 (x * 4 + 1) = a1
  generalize fG_at M 83 (x * 4 + 2) = a2
  generalize fG_at M 83 (x * 4 + 3) = a3
  generalize fG_at M 83 (x * 4) = v
  by_cases c0 : v = 0
  · rw [if_pos c0]
    obtain ⟨q, e, i⟩ := s_store h hB a1 a2 a3
    rw [e, Option.bind_some]; exact ⟨_, rfl, i⟩
  · rw [if_neg c0]
    by_cases c1 : v = 1
    · rw [if_pos c1]
      obtain ⟨q, e, i⟩ := s_take h hB a1 a2
      rw [e, Option.bind_some]; exact ⟨_, rfl, i⟩
    · rw [if_neg c1]
      by_cases c2 : v = 2
      · rw [if_pos c2]
        obtain ⟨q, e, i⟩ := s_move h hB a1 a2 a3
        rw [e, Option.bind_some]; exact ⟨_, rfl, i⟩
      · rw [if_neg c2]
        by_cases c3 : v = 3
        · rw [if_pos c3]
          obtain ⟨q, e, i⟩ := s_order h hB a1 a2
          rw [e, Option.bind_some]; exact ⟨_, rfl, i⟩
        · rw [if_neg c3]
          by_cases c4 : v = 4
          · rw [if_pos c4]
            obtain ⟨q, e, i⟩ := s_mend h hB a1
            rw [e, Option.bind_some]; exact ⟨_, rfl, i⟩
          · rw [if_neg c4]
            by_cases c5 : v = 5
            · rw [if_pos c5]
              obtain ⟨q, e, i⟩ := s_pass h hT hB a1
              rw [e, Option.bind_some]; exact ⟨_, rfl, i⟩
            · rw [if_neg c5]
              exact ⟨_, rfl, InOp.no (by decide)⟩
theorem s_cmds (h : WI T B 0 (wal M 0)) (h1 : wal M 1 = wal M 0) (hT : T ≤ 800000) (hB : B ≤ 1400000000) {cc : Int} (hc : 0 ≤ cc ∧ cc ≤ 11) : ∃ q, rF cc M = some q ∧ InOp (T + 600) (B + 4000000) M q ∧ (q.2 < 0 → q.2 = -14 ∧ q.1 0 7 = 9) := by
  unfold rF
  suffices hl : ∃ r : MemG ⊕ (Int × MemG), loopN (fG_run_l52 cc) 200 ((0 : Int), M) = some r ∧ (match r with | .inl w => InF M w ∧ WI (T + 660) (B + 4400000) 0 (wal w 0) | .inr w => InF M w.2) by
    obtain ⟨r, e, hr⟩ := hl
    rw [e, Option.bind_some]
    cases r with
    | inl w =>
      dsimp only at hr ⊢
      exact ⟨_, rfl, ⟨hr.1, Or.inl ⟨hc.1, hr.2.mono (by omega) (by omega)⟩⟩, fun q => absurd q (by show ¬ cc < 0; omega)⟩
    | inr w =>
      dsimp only at hr ⊢
      rw [s_copyFrom (by decide) (by decide) (by decide), Option.bind_some, refuse_eq, Option.bind_some]
      have hw : wal w.2 1 = wal M 0 := (hr.1 1 (by decide) (by decide)).trans h1
      refine ⟨_, rfl, ⟨(hr.tr (InF.set w.2 _)).tr (InF.refuse _ _ _), Or.inr ⟨by show (-14 : Int) < 0; decide, ?_⟩⟩, fun _ => ⟨rfl, ?_⟩⟩
      · rw [wal_refuse (by decide), wal_set_same (wal_nrm _ _), hw]
      · show up (up (setW w.2 0 (wal w.2 1)) 0 7 9) 0 8 w.1 0 7 = 9
        rw [up_ne (by decide), up_at]
  refine loop_inv _ (fun z : Int × MemG => ∃ m : Nat, z.1 = m ∧ (m : Int) ≤ cc ∧ InF M z.2 ∧ WI (T + 60 * m) (B + 400000 * m) 0 (wal z.2 0)) (fun z => 20 - z.1.toNat) _ ?_ 200 _ ⟨0, rfl, hc.1, InF.rf M, h.mono (by omega) (by omega)⟩ (by show 20 - 0 < 200; decide)
  rintro ⟨z1, z2⟩ ⟨m, e, hm, hf, hw⟩
  replace e : z1 = (m : Int) := e
  subst e
  replace hf : InF M z2 := hf
  replace hw : WI (T + 60 * m) (B + 400000 * m) 0 (wal z2 0) := hw
  unfold fG_run_l52
  dsimp only
  by_cases c1 : (m : Int) < cc
  · rw [if_pos c1]
    obtain ⟨q, e, hi⟩ := s_carry (M := z2) hw (by omega) (by omega) (x := (m : Int)) (by omega)
    rw [e, Option.bind_some]
    rcases hi.2 with ⟨p, w⟩ | ⟨p, w⟩
    · left
      rw [if_neg (by omega), gd_ok (by omega)]
      refine ⟨_, rfl, ⟨m + 1, by show (m : Int) + 1 = _; omega, by omega, hf.tr hi.1, ?_⟩, ?_⟩
      · exact WI.mono (T := T + 60 * m + 60) (B := B + 400000 * m + 400000) w (by omega) (by omega)
      · show 20 - ((m : Int) + 1).toNat < 20 - ((m : Int)).toNat
        omega
    · right
      rw [if_pos p]
      exact ⟨_, rfl, hf.tr hi.1⟩
  · right
    rw [if_neg c1]
    exact ⟨_, rfl, hf, hw.mono (by omega) (by omega)⟩
/-- what law looks at, as it stays -/
def LF (M M' : MemG) : Prop := wal M' 2 = wal M 2 ∧ M' 0 3 = M 0 3 ∧ M' 2 1 = M 2 1
theorem LF.rf (M : MemG) : LF M M := ⟨rfl, rfl, rfl⟩
theorem LF.tr {A B C : MemG} (h1 : LF A B) (h2 : LF B C) : LF A C := ⟨h2.1.trans h1.1, h2.2.1.trans h1.2.1, h2.2.2.trans h1.2.2⟩
theorem OuF.lf {A B : MemG} (h : OuF A B) : LF A B := ⟨h.1, h.2.2.2 3 (by decide) (by decide), by rw [h.2.1 2 (by decide) (by decide)]⟩
theorem GI.out {M M2 : MemG} (h : GI T B M) (h2 : ∀ a, a < 82 → a ≠ 2 → M2 a = M a) : GI T B M2 ∧ (∀ k, k < 11 → wal M2 k = wal M k) := by
  have hw : ∀ k, k < 11 → wal M2 k = wal M k := by
    intro k hk
    funext j i
    unfold wal
    split
    · rw [h2 _ (by omega) (by omega)]
    · rfl
  refine ⟨⟨fun k hk => by rw [hw k hk]; exact h.1 k hk, ?_, ?_, ?_⟩, hw⟩
  · rw [h2 1 (by decide) (by decide)]; exact h.2.1
  · rw [h2 1 (by decide) (by decide)]; exact h.2.2.1
  · rw [h2 0 (by decide) (by decide)]; exact h.2.2.2
theorem g_run (h : GI T B M) (hT : T ≤ 800000) (hB : B ≤ 1400000000) (ht : M 2 1 = 0) {i : Nat} (hi : i < 26) (h7 : 7 ≤ i) : ∃ M1 q, fL_write M i = some M1 ∧ fG_run M1 = some q ∧ GI (T + 660) (B + 4400000) q.1 ∧ LF M q.1 ∧ ((0 ≤ q.2 ∧ Und q.1 (wal M 0)) ∨ (q.2 = -14 ∧ wal q.1 0 = wal M 0 ∧ q.1 0 7 = 9)) := by
  obtain ⟨M1, e1, l1, c1, f1⟩ := s_write ht hi h7
  obtain ⟨hn, hp⟩ := txt_ok i hi h7
  obtain ⟨cnt, hq⟩ := Option.isSome_iff_exists.mp hp
  obtain ⟨M2, e2, f2, n0, n1⟩ := s_readCommands (c := chS i) (n := lenS i) l1 hn c1 hq
  have f3 : ∀ a, a < 82 → a ≠ 2 → up M2 2 1 0 a = M a := fun a q1 q2 => by rw [up_other q2, f2 a q2 (by omega), f1 a q2 (by omega)]
  obtain ⟨g3, w3⟩ := h.out f3
  have c3 : up M2 2 1 0 2 3 = M2 2 3 := up_ne (by decide)
  have a0 : wal (setW (up M2 2 1 0) 1 (wal (up M2 2 1 0) 0)) 0 = wal (up M2 2 1 0) 0 := wal_set_other (by decide)
  have a1 : wal (setW (up M2 2 1 0) 1 (wal (up M2 2 1 0) 0)) 1 = wal (up M2 2 1 0) 0 := wal_set_same (wal_nrm _ 0)
  obtain ⟨q, e, hi, hneg⟩ := s_cmds (bef g3) (a1.trans a0.symm) hT hB (cc := M2 2 3) ⟨n0, n1⟩
  obtain ⟨qq, q0, eo, ho, eq0, ev, _, en⟩ := s_outer (rF (M2 2 3)) (g3.mono (T' := T + 600) (B' := B + 4000000) (by omega) (by omega)) ⟨q, e, hi⟩
  refine ⟨M1, qq, e1, ?_, ho.2.1.mono (by omega) (by omega), ?_, ?_⟩
  · unfold fG_run
    rw [e2, Option.bind_some]
    unfold fT_becomeEmpty
    rw [Option.bind_some, Option.bind_some, if_neg (show ¬ ((1 : Int) = 0) by decide)]
    unfold fT_commandCount
    rw [← eo]
    have cX : setW (up M2 2 1 0) 1 (wal (up M2 2 1 0) 0) 2 3 = M2 2 3 := by rw [setW_out (by decide)]; exact c3
    rw [s_copyFrom (by decide) (by decide) (by decide), Option.bind_some, Option.bind_some, cX]
    unfold rF
    cases loopN (fG_run_l52 (M2 2 3)) 200 (0, setW (up M2 2 1 0) 1 (wal (up M2 2 1 0) 0)) with
    | none => rfl
    | some r =>
      rw [Option.bind_some, Option.bind_some]
      cases r with
      | inl w => rfl
      | inr w =>
        dsimp only
        rw [s_copyFrom (by decide) (by decide) (by decide), Option.bind_some]
        rfl
  · have hl := ho.1.lf
    refine ⟨hl.1.trans (w3 2 (by decide)), hl.2.1.trans (by rw [f3 0 (by decide) (by decide)]), hl.2.2.trans ?_⟩
    rw [up_at, ht]
  · rcases ho.2.2 with ⟨p, u⟩ | ⟨p, u⟩
    · exact Or.inl ⟨p, by rw [← w3 0 (by decide)]; exact u⟩
    · right
      rw [e] at eq0
      cases eq0
      obtain ⟨z1, z2⟩ := hneg (by omega)
      exact ⟨ev.trans z1, u.trans (w3 0 (by decide)), by rw [en p]; exact z2⟩
end RUN
