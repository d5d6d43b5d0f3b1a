/-! weeks: what spoils -/
theorem atS_kind {w : Wl} {T : Int} (h : bayOK T w) {b : Nat} (hb : b < 32) : fG_atS 86 (w 0 b) = tabS 86 (w 0 b).toNat := by
  have := h b hb
  unfold fG_atS
  rw [if_neg (by omega), if_pos (by omega)]
theorem tab86 : ∀ j, j < 4 → tabS 86 j = if j = 0 then 20 else if j = 1 then 15 else if j = 2 then 10 else 12 := by decide +kernel
/-- how many sacks of a bay spoil when they become so old -/
def spo (w : Wl) (b : Nat) (ag : Int) : Int := if tabS 86 (w 0 b).toNat < ag then (w 1 b + 9) / 10 else 0
theorem spo_le {w : Wl} {T : Int} (h : bayOK T w) {b : Nat} (hb : b < 32) (ag : Int) : 0 ≤ spo w b ag ∧ spo w b ag ≤ w 1 b := by
  have := h b hb
  unfold spo
  split <;> omega
theorem s_spoilingAt {M : MemG} {k b : Nat} (hk : k < 11) {T : Int} (h : bayOK T (wal M k)) (hb : b < 32) (ag : Int) : fW_spoilingAt M k (b : Int) ag = some (spo (wal M k) b ag) := by
  have hbb := h b hb
  unfold fW_spoilingAt spo
  rw [rW_kindIn hk, rdw_n, rW_sacksIn hk, rdw_n, atS_kind h hb]
  by_cases c : tabS 86 (wal M k 0 b).toNat < ag
  · rw [if_pos c, if_pos c, gd_ok (by omega), gq_ok (by omega)]
  · rw [if_neg c, if_neg c]
/-- a bay in a week -/
def gB (w : Wl) (b : Nat) : Wl := if w 1 b = 0 then w else remW (upw w 2 b (w 2 b + 1)) b (spo w b (w 2 b + 1))
def gS (w : Wl) (b : Nat) : Int := if w 1 b = 0 then 0 else spo w b (w 2 b + 1)
def gro : Nat → Wl → Wl
  | 0, w => w
  | n + 1, w => gB (gro n w) n
theorem WI.age {T B e : Int} {w : Wl} (h : WI T B e w) {b : Nat} (hb : b < 32) (h1 : w 1 b ≠ 0) (hT : w 2 b + 1 ≤ T) : WI T B e (upw w 2 b (w 2 b + 1)) := by
  have hj : ∀ j i, j ≠ 2 → upw w 2 b (w 2 b + 1) j i = w j i := by intro j i hj; unfold upw; rw [if_neg (fun q => hj q.1)]
  have h1f : upw w 2 b (w 2 b + 1) 1 = w 1 := funext fun i => hj 1 i (by decide)
  refine ⟨upw_nrm h.n (by decide) hb _, fun i hi => ?_, fun r q1 q2 => ?_, fun r q1 q2 => ?_, fun i hi => ?_, ?_, ?_⟩
  · rw [hj 1 i (by decide), hj 0 i (by decide)]
    have hi' := h.b i hi
    by_cases c : i = b
    · subst c
      unfold upw
      rw [if_pos ⟨rfl, rfl⟩]
      refine ⟨hi'.1, hi'.2.1, by omega, hT, hi'.2.2.2.2.1, hi'.2.2.2.2.2.1, fun q => absurd q h1⟩
    · unfold upw
      rw [if_neg (fun q => c q.2)]
      exact hi'
  · rw [hj 3 r (by decide), h1f]; exact h.s r q1 q2
  · rw [hj 4 r (by decide), hj 3 r (by decide)]; exact h.c r q1 q2
  · rw [hj 5 i (by decide)]; exact h.k i hi
  · have hl := h.l
    unfold balOK at hl ⊢
    rw [hj 5 8 (by decide), hj 5 9 (by decide), hj 5 10 (by decide), hj 5 11 (by decide), h1f]
    exact hl
  · have hm := h.m
    unfold numOK numC at hm ⊢
    rw [hj 5 14 (by decide)]
    have : (fun r => upw w 2 b (w 2 b + 1) 4 (r + 1) == 1) = (fun r => w 4 (r + 1) == 1) := by funext r; rw [hj 4 _ (by decide)]
    rw [this]; exact hm
theorem upw_spo {w : Wl} {b : Nat} {v ag : Int} : spo (upw w 2 b v) b ag = spo w b ag := by
  simp [spo, upw]
theorem WI.bay {T B e : Int} {w : Wl} (h : WI T B e w) {b : Nat} (hb : b < 32) (hT : w 2 b + 1 ≤ T) : WI T B (e + gS w b) (gB w b) := by
  unfold gB gS
  by_cases c : w 1 b = 0
  · rw [if_pos c, if_pos c, Int.add_zero]; exact h
  · rw [if_neg c, if_neg c]
    have h2 := spo_le h.b hb (w 2 b + 1)
    refine (h.age hb c hT).rem hb ⟨h2.1, ?_⟩
    unfold upw
    rw [if_neg (by omega)]
    exact h2.2

/-! the rows of kinds, sacks and ages of other bays stay -/
theorem gB_oth {w : Wl} {b i : Nat} (hi : i ≠ b) {j : Nat} (hj : j < 3) : gB w b j i = w j i := by
  unfold gB
  split
  · rfl
  · have : j = 0 ∨ j = 1 ∨ j = 2 := by omega
    rcases this with rfl | rfl | rfl
    · rw [rem0, if_neg (fun q => hi q.1)]; simp [upw]
    · rw [rem1, if_neg hi]; simp [upw]
    · rw [rem2, if_neg (fun q => hi q.1)]; simp [upw, hi]
theorem gB_5 {w : Wl} {b i : Nat} : gB w b 5 i = w 5 i := by
  unfold gB
  split
  · rfl
  · rw [rem45 (Or.inr rfl)]; simp [upw]
theorem gro_oth {w : Wl} : ∀ {n i j : Nat}, n ≤ i → j < 3 → gro n w j i = w j i
  | 0, _, _, _, _ => rfl
  | n + 1, i, j, h, hj => by
    show gB (gro n w) n j i = w j i
    rw [gB_oth (by omega) hj]
    exact gro_oth (by omega) hj
theorem gro_5 {w : Wl} {i : Nat} : ∀ {n : Nat}, gro n w 5 i = w 5 i
  | 0 => rfl
  | n + 1 => by
    show gB (gro n w) n 5 i = w 5 i
    rw [gB_5]
    exact gro_5
theorem gS_gro {w : Wl} {n : Nat} : gS (gro n w) n = gS w n := by
  have h1 : gro n w 1 n = w 1 n := gro_oth (Nat.le_refl _) (by decide)
  have h2 : gro n w 2 n = w 2 n := gro_oth (Nat.le_refl _) (by decide)
  have h0 : gro n w 0 n = w 0 n := gro_oth (Nat.le_refl _) (by decide)
  unfold gS spo
  rw [h1, h2, h0]
theorem WI.grow {T B e : Int} {w : Wl} (h : WI T B e w) : ∀ {n : Nat}, n ≤ 32 → WI (T + 1) B (e + psum (gS w) n) (gro n w)
  | 0, _ => by
    rw [show psum (gS w) 0 = 0 from rfl, Int.add_zero]
    exact h.mono (by omega) (Int.le_refl _)
  | n + 1, hn => by
    have ih := h.grow (n := n) (by omega)
    have h2 : gro n w 2 n = w 2 n := gro_oth (Nat.le_refl _) (by decide)
    have hb := h.b n (by omega)
    have := ih.bay (b := n) (by omega) (by rw [h2]; omega)
    rw [gS_gro] at this
    show WI (T + 1) B (e + (psum (gS w) n + gS w n)) (gB (gro n w) n)
    rw [← Int.add_assoc]
    exact this

theorem gS_le {T B e : Int} {w : Wl} (h : WI T B e w) {b : Nat} (hb : b < 32) : 0 ≤ gS w b ∧ gS w b ≤ 200 := by
  have h1 := spo_le h.b hb (w 2 b + 1)
  have h2 := h.b b hb
  unfold gS
  split <;> omega
/-- what spoils in a week is what is missing behind it -/
theorem grow_psum {T B e : Int} {w : Wl} (h : WI T B e w) : psum (gS w) 32 = psum (w 1) 32 - psum (gro 32 w 1) 32 := by
  have h1 := (h.grow (Nat.le_refl 32)).l
  have h2 := h.l
  unfold balOK at h1 h2
  rw [gro_5, gro_5, gro_5, gro_5] at h1
  omega
theorem s_growOlder {M : MemG} {k : Nat} (hk : k < 11) {T B e : Int} (h : WI T B e (wal M k)) (hT : T ≤ 1000000) : fW_growOlder M k = some (setW M k (gro 32 (wal M k)), psum (gS (wal M k)) 32) := by
  unfold fW_growOlder
  have hp : ∀ n, n ≤ 32 → 0 ≤ psum (gS (wal M k)) n ∧ psum (gS (wal M k)) n ≤ 6400 := by
    intro n hn
    have h1 : psum (gS (wal M k)) n ≤ (n : Int) * 200 := psum_le (fun i hi => (gS_le h (by omega)).2)
    have h2 : 0 ≤ psum (gS (wal M k)) n := psum_nonneg (fun i hi => (gS_le h (by omega)).1)
    omega
  refine loop_c (fun i => (psum (gS (wal M k)) i, (i : Int), setW M k (gro i (wal M k)))) 32 ?_ (by decide) (fun i hi => ?_) ?_
  · refine Prod.ext rfl (Prod.ext rfl ?_)
    show M = setW M k (wal M k)
    rw [setW_self]
  · unfold fW_growOlder_l4 fW_growOlder_j54
    dsimp only
    have hW := h.grow (n := i) (by omega)
    have hn := hW.n
    have g1 : gro i (wal M k) 1 i = wal M k 1 i := gro_oth (Nat.le_refl _) (by decide)
    have g2 : gro i (wal M k) 2 i = wal M k 2 i := gro_oth (Nat.le_refl _) (by decide)
    have hbb := h.b i hi
    have p1 := hp i (by omega)
    have p2 := hp (i + 1) (by omega)
    have pe : psum (gS (wal M k)) (i + 1) = psum (gS (wal M k)) i + gS (wal M k) i := rfl
    rw [if_pos (by omega), rW_isEmpty hk, rdw_n, wal_set_same hn, g1]
    by_cases c : wal M k 1 i = 0
    · rw [if_pos c, if_neg (by decide), gd_ok (by omega)]
      have hgs : gS (wal M k) i = 0 := by unfold gS; rw [if_pos c]
      refine inl3 (by rw [pe, hgs, Int.add_zero]) (cast1 i) ?_
      show setW M k (gro i (wal M k)) = setW M k (gB (gro i (wal M k)) i)
      unfold gB
      rw [g1, if_pos c]
    · rw [if_neg c, if_pos rfl, rW_ageIn hk, rdw_n, wal_set_same hn, gd_ok (by omega), put_w hk (by decide) hi, Option.bind_some, setW_set, wal_set_same hn]
      have hA := hW.age (b := i) hi (by rw [g1]; exact c) (by rw [g2]; omega)
      have hnA := hA.n
      have e2 : upw (gro i (wal M k)) 2 i (gro i (wal M k) 2 i + 1) 2 i = gro i (wal M k) 2 i + 1 := by unfold upw; rw [if_pos ⟨rfl, rfl⟩]
      rw [rW_ageIn hk, rdw_n, wal_set_same hnA, e2]
      have hsp := s_spoilingAt (M := setW M k (upw (gro i (wal M k)) 2 i (gro i (wal M k) 2 i + 1))) (k := k) (b := i) hk (T := T + 1) (by rw [wal_set_same hnA]; exact hA.b) hi (gro i (wal M k) 2 i + 1)
      have hle := spo_le hA.b hi (gro i (wal M k) 2 i + 1)
      have hA1 := hA.b i hi
      rw [hsp, Option.bind_some, wal_set_same hnA]
      rw [s_remove (M := setW M k (upw (gro i (wal M k)) 2 i (gro i (wal M k) 2 i + 1))) (k := k) hk hi (by rw [wal_set_same hnA]; exact hA) (by omega), Option.bind_some, wal_set_same hnA, setW_set]
      have hgs : spo (upw (gro i (wal M k)) 2 i (gro i (wal M k) 2 i + 1)) i (gro i (wal M k) 2 i + 1) = gS (wal M k) i := by
        rw [upw_spo, ← gS_gro]
        unfold gS
        rw [g1, if_neg c]
      rw [hgs, gd_ok (by omega), gd_ok (by omega)]
      refine inl3 pe.symm (cast1 i) ?_
      show _ = setW M k (gB (gro i (wal M k)) i)
      unfold gB
      rw [g1, if_neg c, ← hgs, upw_spo]
  · unfold fW_growOlder_l4
    dsimp only
    rw [if_neg (by omega)]
