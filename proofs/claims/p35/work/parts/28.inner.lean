/-! changes as such, over the wall 0 -/
theorem within_eq (x a b : Int) : fG_isWithin x a b = if a ≤ x ∧ x ≤ b then 1 else 0 := by
  unfold fG_isWithin
  by_cases c : x < a
  · rw [if_pos c, if_neg (by omega)]
  · rw [if_neg c]
    by_cases c2 : b < x
    · rw [if_pos c2, if_neg (by omega)]
    · rw [if_neg c2, if_pos (by omega)]
theorem bay_eq (x : Int) : fG_isBay x = if 0 ≤ x ∧ x ≤ 31 then 1 else 0 := within_eq x 0 31
theorem rung_eq (x : Int) : fG_isRung x = if 1 ≤ x ∧ x ≤ 32 then 1 else 0 := within_eq x 1 32
theorem kind_eq (x : Int) : fG_isKind x = if 0 ≤ x ∧ x ≤ 3 then 1 else 0 := within_eq x 0 3
/-- what a change leaves as it is: all but the wall 0 and the reason -/
def InF (M M' : MemG) : Prop := (∀ k, 0 < k → k < 11 → wal M' k = wal M k) ∧ (∀ a, 0 < a → a < 16 → M' a = M a) ∧ (∀ a, 82 ≤ a → M' a = M a) ∧ ∀ i, i ≠ 7 → i ≠ 8 → M' 0 i = M 0 i
theorem InF.rf (M : MemG) : InF M M := ⟨fun _ _ _ => rfl, fun _ _ _ => rfl, fun _ _ => rfl, fun _ _ _ => rfl⟩
theorem InF.tr {A B C : MemG} (h1 : InF A B) (h2 : InF B C) : InF A C := ⟨fun k q1 q2 => (h2.1 k q1 q2).trans (h1.1 k q1 q2), fun a q1 q2 => (h2.2.1 a q1 q2).trans (h1.2.1 a q1 q2), fun a q => (h2.2.2.1 a q).trans (h1.2.2.1 a q), fun i q1 q2 => (h2.2.2.2 i q1 q2).trans (h1.2.2.2 i q1 q2)⟩
theorem InF.set (M : MemG) (w : Wl) : InF M (setW M 0 w) := ⟨fun k q1 _ => wal_set_other (by omega), fun a _ q2 => setW_out (by omega), fun a q => setW_out (by omega), fun i _ _ => by rw [setW_out (by omega)]⟩
theorem wal_up {M : MemG} {a i k : Nat} {v : Int} (h : a < 16 ∨ 82 ≤ a) (hk : k < 11) : wal (up M a i v) k = wal M k := by
  funext j c
  unfold wal
  split
  · rename_i q
    rw [up_other (by omega)]
  · rfl
theorem InF.up0 (M : MemG) {i : Nat} (hi : i = 7 ∨ i = 8) (v : Int) : InF M (up M 0 i v) := ⟨fun k _ q => wal_up (by omega) q, fun a q _ => up_other (by omega), fun a q => up_other (by omega), fun j q1 q2 => by unfold up; rw [if_neg (by omega)]⟩
theorem refuse_eq (M : MemG) (r d : Int) : fG_refuse M r d = some (up (up M 0 7 r) 0 8 d, -14) := rfl
theorem InF.refuse (M : MemG) (r d : Int) : InF M (up (up M 0 7 r) 0 8 d) := (InF.up0 M (Or.inl rfl) r).tr (InF.up0 _ (Or.inr rfl) d)
theorem wal_refuse {M : MemG} {r d : Int} {k : Nat} (hk : k < 11) : wal (up (up M 0 7 r) 0 8 d) k = wal M k := by rw [wal_up (by omega) hk, wal_up (by omega) hk]
def InOp (T B : Int) (M : MemG) (q : MemG × Int) : Prop := InF M q.1 ∧ ((0 ≤ q.2 ∧ WI (T + 60) (B + 400000) 0 (wal q.1 0)) ∨ (q.2 < 0 ∧ wal q.1 0 = wal M 0))
theorem InOp.no {T B : Int} {M : MemG} {c : Int} (hc : c < 0) : InOp T B M (M, c) := ⟨InF.rf M, Or.inr ⟨hc, rfl⟩⟩
theorem InOp.refuse {T B : Int} {M : MemG} {r d : Int} : InOp T B M (up (up M 0 7 r) 0 8 d, -14) := ⟨InF.refuse M r d, Or.inr ⟨by show (-14 : Int) < 0; decide, wal_refuse (by decide)⟩⟩
theorem InOp.yes {T B : Int} {M : MemG} {w : Wl} {c : Int} (hc : 0 ≤ c) (h : WI (T + 60) (B + 400000) 0 w) : InOp T B M (setW M 0 w, c) := ⟨InF.set M w, Or.inl ⟨hc, by show WI _ _ _ (wal (setW M 0 w) 0); rw [wal_set_same h.n]; exact h⟩⟩
section OPS
variable {M : MemG} {T B : Int}
theorem s_hasRoom (hf : fewS (wal M 0)) {b : Nat} (hb : b < 32) {kd m : Int} (hm : 0 ≤ m ∧ m ≤ 1000) : fG_hasRoom M (b : Int) kd m = some (if wal M 0 1 b = 0 ∨ (wal M 0 0 b = kd ∧ wal M 0 1 b + m ≤ 200) then 1 else 0) := by
  have := hf b hb
  unfold fG_hasRoom
  rw [rW_isEmpty (by decide), rdw_n, rW_kindIn (by decide), rdw_n, rW_sacksIn (by decide), rdw_n]
  by_cases c1 : wal M 0 1 b = 0
  · rw [if_pos c1, if_neg (by decide), if_pos (Or.inl c1)]
  · rw [if_neg c1, if_pos rfl]
    by_cases c2 : wal M 0 0 b = kd
    · rw [if_pos c2, gd_ok (by omega)]
      by_cases c3 : 200 < wal M 0 1 b + m
      · rw [if_pos c3, if_neg (by omega)]
      · rw [if_neg c3, if_pos (by omega)]
    · rw [if_neg c2, if_neg (by omega)]
theorem s_refuseRoom (hf : fewS (wal M 0)) {b : Nat} (hb : b < 32) {kd m : Int} (hm : 0 ≤ m ∧ m ≤ 1000) : ∃ r d, fG_refuseRoom M (b : Int) kd m = some (up (up M 0 7 r) 0 8 d, -14) := by
  have := hf b hb
  unfold fG_refuseRoom
  rw [rW_kindIn (by decide), rdw_n, rW_sacksIn (by decide), rdw_n]
  by_cases c2 : wal M 0 0 b = kd
  · rw [if_pos c2, gd_ok (by omega), refuse_eq]
    exact ⟨_, _, rfl⟩
  · rw [if_neg c2, refuse_eq]
    exact ⟨_, _, rfl⟩
theorem s_refuseSacks {x : Int} : ∃ r d, fG_refuseSacks M x = some (up (up M 0 7 r) 0 8 d, -14) := by
  unfold fG_refuseSacks
  split
  · rw [refuse_eq]; exact ⟨_, _, rfl⟩
  · rw [refuse_eq]; exact ⟨_, _, rfl⟩
/-- storing, where there is room -/
def stoW (w : Wl) (b : Nat) (kd m : Int) : Wl := brgW (cntW w 8 m) b kd m (w 2 b)
def stoN (w : Wl) (b : Nat) (kd m : Int) : Nat := ncr (addS (upw (upw (cntW w 8 m) 0 b kd) 2 b (w 2 b)) b m) b
theorem s_store_ok (h : WI T B 0 (wal M 0)) (hB : B ≤ 1500000000) {b : Nat} (hb : b < 32) {kd m : Int} (hk : 0 ≤ kd ∧ kd ≤ 3) (hm : 1 ≤ m ∧ m ≤ 200) (hr : wal M 0 1 b = 0 ∨ (wal M 0 0 b = kd ∧ wal M 0 1 b + m ≤ 200)) : fG_storeSacks M (b : Int) kd m = some (setW M 0 (stoW (wal M 0) b kd m), ((stoN (wal M 0) b kd m : Nat) : Int)) ∧ WI (T + 60) (B + 400000) 0 (stoW (wal M 0) b kd m) := by
  have hbb := h.b b hb
  have h8 := h.k 8 (by decide)
  have hc : WI T (B + 200) m (cntW (wal M 0) 8 m) := h.ctr (c := 8) (d := m) (by decide) (by omega) (by omega) (by omega) (by omega) (by simp)
  have hn := hc.n
  have e1 : cntW (wal M 0) 8 m 1 b = wal M 0 1 b := by unfold cntW upw; rw [if_neg (by omega)]
  have e2 : cntW (wal M 0) 8 m 2 b = wal M 0 2 b := by unfold cntW upw; rw [if_neg (by omega)]
  have hb' := hc.brg hb (kd := kd) (m := m) (ag := wal M 0 2 b) (by rw [e1]; omega) hk (by omega)
  constructor
  · unfold fG_storeSacks
    rw [bay_eq, if_pos (show (0 : Int) ≤ (b : Int) ∧ (b : Int) ≤ 31 by omega), if_neg (by decide), kind_eq, if_pos hk, if_neg (by decide), within_eq, if_pos hm, if_neg (by decide), s_hasRoom h.few hb (by omega), if_pos hr, Option.bind_some, if_neg (by decide)]
    have hcnt := s_count (M := M) (k := 0) (c := 8) (by decide) (by decide) (d := m) (by omega)
    rw [show ((8 : Nat) : Int) = 8 from rfl] at hcnt
    rw [hcnt, Option.bind_some, rW_ageIn (by decide), rdw_n, wal_set_same hn, e2, s_bring (M := setW M 0 (cntW (wal M 0) 8 m)) (k := 0) (by decide) hb (by rw [wal_set_same hn]; exact hc) (by omega) (by omega), Option.bind_some, wal_set_same hn, setW_set]
    rfl
  · rw [Int.sub_self] at hb'
    exact hb'.mono (by omega) (by omega)
theorem s_store (h : WI T B 0 (wal M 0)) (hB : B ≤ 1500000000) (x y z : Int) : ∃ q, fG_storeSacks M x y z = some q ∧ InOp T B M q := by
  by_cases c1 : 0 ≤ x ∧ x ≤ 31
  · obtain ⟨b, rfl⟩ : ∃ b : Nat, x = b := ⟨x.toNat, by omega⟩
    have hb : b < 32 := by omega
    by_cases c2 : 0 ≤ y ∧ y ≤ 3
    · by_cases c3 : 1 ≤ z ∧ z ≤ 200
      · by_cases c4 : wal M 0 1 b = 0 ∨ (wal M 0 0 b = y ∧ wal M 0 1 b + z ≤ 200)
        · obtain ⟨e, hw⟩ := s_store_ok h hB hb c2 c3 c4
          exact ⟨_, e, InOp.yes (by omega) hw⟩
        · obtain ⟨r, d, e⟩ := s_refuseRoom (M := M) h.few hb (kd := y) (m := z) (by omega)
          refine ⟨_, ?_, InOp.refuse (r := r) (d := d)⟩
          unfold fG_storeSacks
          rw [bay_eq, if_pos c1, if_neg (by decide), kind_eq, if_pos c2, if_neg (by decide), within_eq, if_pos c3, if_neg (by decide), s_hasRoom h.few hb (by omega), if_neg c4, Option.bind_some, if_pos rfl, e, Option.bind_some]
      · refine ⟨_, ?_, InOp.no (c := -12) (by decide)⟩
        unfold fG_storeSacks
        rw [bay_eq, if_pos c1, if_neg (by decide), kind_eq, if_pos c2, if_neg (by decide), within_eq, if_neg c3, if_pos rfl]
    · refine ⟨_, ?_, InOp.no (c := -12) (by decide)⟩
      unfold fG_storeSacks
      rw [bay_eq, if_pos c1, if_neg (by decide), kind_eq, if_neg c2, if_pos rfl]
  · refine ⟨_, ?_, InOp.no (c := -11) (by decide)⟩
    unfold fG_storeSacks
    rw [bay_eq, if_neg c1, if_pos rfl]
theorem s_take (h : WI T B 0 (wal M 0)) (hB : B ≤ 1500000000) (x z : Int) : ∃ q, fG_takeSacks M x z = some q ∧ InOp T B M q := by
  by_cases c1 : 0 ≤ x ∧ x ≤ 31
  · obtain ⟨b, rfl⟩ : ∃ b : Nat, x = b := ⟨x.toNat, by omega⟩
    have hb : b < 32 := by omega
    have hbb := h.b b hb
    by_cases c3 : 1 ≤ z ∧ z ≤ 200
    · by_cases c4 : wal M 0 1 b < z
      · obtain ⟨r, d, e⟩ := s_refuseSacks (M := M) (x := (b : Int))
        refine ⟨_, ?_, InOp.refuse (r := r) (d := d)⟩
        unfold fG_takeSacks fG_hasSacks
        rw [bay_eq, if_pos c1, if_neg (by decide), within_eq, if_pos c3, if_neg (by decide), rW_sacksIn (by decide), rdw_n, if_pos c4, if_pos rfl, e, Option.bind_some]
      · have hr := h.rem hb (x := z) (by omega)
        have h9 := h.k 9 (by decide)
        have e9 : remW (wal M 0) b z 5 9 = wal M 0 5 9 := rem45 (Or.inr rfl) 9
        have hc : WI T (B + 200) 0 (cntW (remW (wal M 0) b z) 9 z) := hr.ctr (c := 9) (d := z) (by decide) (by omega) (by omega) (by omega) (by omega) (by rw [if_neg (by decide), if_pos (by decide)]; omega)
        have hcnt := s_count (M := setW M 0 (remW (wal M 0) b z)) (k := 0) (c := 9) (by decide) (by decide) (d := z) (by rw [wal_set_same hr.n]; omega)
        rw [show ((9 : Nat) : Int) = 9 from rfl, wal_set_same hr.n, setW_set] at hcnt
        have hq := (hc.b b hb).1
        refine ⟨_, ?_, InOp.yes (M := M) (w := cntW (remW (wal M 0) b z) 9 z) hq (hc.mono (by omega) (by omega))⟩
        unfold fG_takeSacks fG_hasSacks
        rw [bay_eq, if_pos c1, if_neg (by decide), within_eq, if_pos c3, if_neg (by decide), rW_sacksIn (by decide), rdw_n, if_neg c4, if_neg (by decide), s_remove (M := M) (k := 0) (by decide) hb h (by omega), Option.bind_some, hcnt, Option.bind_some, rW_sacksIn (by decide), rdw_n, wal_set_same hc.n]
    · refine ⟨_, ?_, InOp.no (c := -12) (by decide)⟩
      unfold fG_takeSacks
      rw [bay_eq, if_pos c1, if_neg (by decide), within_eq, if_neg c3, if_pos rfl]
  · refine ⟨_, ?_, InOp.no (c := -11) (by decide)⟩
    unfold fG_takeSacks
    rw [bay_eq, if_neg c1, if_pos rfl]
theorem s_move (h : WI T B 0 (wal M 0)) (hB : B ≤ 1500000000) (x y z : Int) : ∃ q, fG_moveSacks M x y z = some q ∧ InOp T B M q := by
  unfold fG_moveSacks
  rw [bay_eq, bay_eq, within_eq]
  by_cases c1 : 0 ≤ x ∧ x ≤ 31
  · rw [if_pos c1, if_neg (by decide)]
    by_cases c2 : 0 ≤ y ∧ y ≤ 31
    · rw [if_pos c2, if_neg (by decide)]
      obtain ⟨a, rfl⟩ : ∃ b : Nat, x = b := ⟨x.toNat, by omega⟩
      obtain ⟨b, rfl⟩ : ∃ b : Nat, y = b := ⟨y.toNat, by omega⟩
      have ha : a < 32 := by omega
      have hb : b < 32 := by omega
      have haa := h.b a ha
      have hbb := h.b b hb
      by_cases c3 : 1 ≤ z ∧ z ≤ 200
      · rw [if_pos c3, if_neg (by decide)]
        by_cases c4 : (a : Int) = b
        · rw [if_pos c4, refuse_eq]
          exact ⟨_, rfl, InOp.refuse⟩
        · rw [if_neg c4]
          unfold fG_hasSacks
          rw [rW_sacksIn (by decide), rdw_n]
          by_cases c5 : wal M 0 1 a < z
          · obtain ⟨r, d, e⟩ := s_refuseSacks (M := M) (x := (a : Int))
            rw [if_pos c5, if_pos rfl, e]
            exact ⟨_, rfl, InOp.refuse⟩
          · rw [if_neg c5, if_neg (by decide), rW_kindIn (by decide), rdw_n, s_hasRoom h.few hb (by omega), Option.bind_some]
            by_cases c6 : wal M 0 1 b = 0 ∨ (wal M 0 0 b = wal M 0 0 a ∧ wal M 0 1 b + z ≤ 200)
            · have hr := h.rem ha (x := z) (by omega)
              have h12 := h.k 12 (by decide)
              have e12 : remW (wal M 0) a z 5 12 = wal M 0 5 12 := rem45 (Or.inr rfl) 12
              have hc : WI T (B + 200) z (cntW (remW (wal M 0) a z) 12 z) := hr.ctr (c := 12) (d := z) (by decide) (by omega) (by omega) (by omega) (by omega) (by rw [if_neg (by decide), if_neg (by decide)]; omega)
              have hcnt := s_count (M := setW M 0 (remW (wal M 0) a z)) (k := 0) (c := 12) (by decide) (by decide) (d := z) (by rw [wal_set_same hr.n]; omega)
              rw [show ((12 : Nat) : Int) = 12 from rfl, wal_set_same hr.n, setW_set] at hcnt
              have e1 : cntW (remW (wal M 0) a z) 12 z 1 b = wal M 0 1 b := by
                unfold cntW upw; rw [if_neg (by omega), rem1, if_neg (by omega)]
              have hag : inR (max (wal M 0 2 a) (wal M 0 2 b)) ∨ True := Or.inr trivial
              have hb' := hc.brg hb (kd := wal M 0 0 a) (m := z) (ag := max (wal M 0 2 a) (wal M 0 2 b)) (by rw [e1]; omega) (by omega) (by omega)
              rw [Int.sub_self] at hb'
              rw [if_pos c6, if_neg (by decide), s_remove (M := M) (k := 0) (by decide) ha h (by omega), Option.bind_some, hcnt, Option.bind_some, rW_ageIn (by decide), rdw_n, rW_ageIn (by decide), rdw_n, s_bring (M := setW M 0 (cntW (remW (wal M 0) a z) 12 z)) (k := 0) (by decide) hb (by rw [wal_set_same hc.n]; exact hc) (by omega) (by omega), Option.bind_some, wal_set_same hc.n, setW_set]
              exact ⟨_, rfl, InOp.yes (by omega) (hb'.mono (by omega) (by omega))⟩
            · obtain ⟨r, d, e⟩ := s_refuseRoom (M := M) h.few hb (kd := wal M 0 0 a) (m := z) (by omega)
              rw [if_neg c6, if_pos rfl, e]
              exact ⟨_, rfl, InOp.refuse⟩
      · rw [if_neg c3, if_pos rfl]
        exact ⟨_, rfl, InOp.no (by decide)⟩
    · rw [if_neg c2, if_pos rfl]
      exact ⟨_, rfl, InOp.no (by decide)⟩
  · rw [if_neg c1, if_pos rfl]
    exact ⟨_, rfl, InOp.no (by decide)⟩
end OPS
