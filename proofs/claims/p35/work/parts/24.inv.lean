/-! what holds of every wall: ages up to T, counters up to B, e sacks stored that no bay has yet (or taken that one still has) -/
def bayOK (T : Int) (w : Wl) : Prop := ∀ b, b < 32 → 0 ≤ w 1 b ∧ w 1 b ≤ 200 ∧ 0 ≤ w 2 b ∧ w 2 b ≤ T ∧ 0 ≤ w 0 b ∧ w 0 b ≤ 3 ∧ (w 1 b = 0 → w 2 b = 0)
def sumOK (w : Wl) : Prop := ∀ r, 0 < r → r < 33 → w 3 r = psum (w 1) r - psum (w 1) (r - sz r)
def crkOK (w : Wl) : Prop := ∀ r, 0 < r → r < 33 → (w 4 r = 0 ∨ w 4 r = 1) ∧ (w 4 r = 0 → w 3 r ≤ 100 * (sz r : Int))
def cntOK (B : Int) (w : Wl) : Prop := ∀ i, i < 16 → 0 ≤ w 5 i ∧ w 5 i ≤ B
def balOK (e : Int) (w : Wl) : Prop := w 5 8 - w 5 9 - w 5 10 - w 5 11 = psum (w 1) 32 + e
def numC (w : Wl) : Nat := cnt (fun r => w 4 (r + 1) == 1) 32
def numOK (w : Wl) : Prop := (numC w : Int) ≤ w 5 14
def WI (T B e : Int) (w : Wl) : Prop := nrm w ∧ bayOK T w ∧ sumOK w ∧ crkOK w ∧ cntOK B w ∧ balOK e w ∧ numOK w
section WIp
variable {T B e : Int} {w : Wl}
theorem WI.n (h : WI T B e w) : nrm w := h.1
theorem WI.b (h : WI T B e w) : bayOK T w := h.2.1
theorem WI.s (h : WI T B e w) : sumOK w := h.2.2.1
theorem WI.c (h : WI T B e w) : crkOK w := h.2.2.2.1
theorem WI.k (h : WI T B e w) : cntOK B w := h.2.2.2.2.1
theorem WI.l (h : WI T B e w) : balOK e w := h.2.2.2.2.2.1
theorem WI.m (h : WI T B e w) : numOK w := h.2.2.2.2.2.2
theorem WI.mono {T' B' : Int} (h : WI T B e w) (hT : T ≤ T') (hB : B ≤ B') : WI T' B' e w := by
  refine ⟨h.n, fun b hb => ?_, h.s, h.c, fun i hi => ?_, h.l, h.m⟩
  · have := h.b b hb
    exact ⟨this.1, this.2.1, this.2.2.1, by omega, this.2.2.2.2⟩
  · have := h.k i hi
    exact ⟨this.1, by omega⟩
theorem WI.few (h : WI T B e w) : fewS w := fun b hb => ⟨(h.b b hb).1, (h.b b hb).2.1⟩
theorem WI.sum (h : WI T B e w) {r : Nat} (h0 : 0 < r) (hr : r < 33) : 0 ≤ w 3 r ∧ w 3 r ≤ 6400 := by
  have h1 := h.s r h0 hr
  have h2 := few_psum h.few (n := r) (by omega)
  have h3 := few_psum h.few (n := r - sz r) (by omega)
  have h4 := psum_mono (f := w 1) 32 (fun i hi => (h.b i hi).1) (a := r - sz r) (b := r) (by omega) (by omega)
  omega
end WIp
/-- a counter's new number -/
theorem WI.ctr {T B B' e e' : Int} {w : Wl} (h : WI T B e w) {c : Nat} {d : Int} (hc : c < 16) (hB : B ≤ B') (h0 : 0 ≤ w 5 c + d) (h1 : w 5 c + d ≤ B') (h14 : c = 14 → 0 ≤ d) (he : e' = e + (if c = 8 then d else if c = 9 ∨ c = 10 ∨ c = 11 then -d else 0)) : WI T B' e' (cntW w c d) := by
  have hj : ∀ j i, j ≠ 5 → cntW w c d j i = w j i := by
    intro j i hj
    unfold cntW upw
    rw [if_neg (by omega)]
  have hs : cntW w c d 5 c = w 5 c + d := by unfold cntW upw; rw [if_pos ⟨rfl, rfl⟩]
  have ho : ∀ i, i ≠ c → cntW w c d 5 i = w 5 i := by
    intro i hi
    unfold cntW upw
    rw [if_neg (by omega)]
  have h1f : cntW w c d 1 = w 1 := funext fun i => hj 1 i (by decide)
  refine ⟨cntW_nrm h.n hc d, fun b hb => ?_, fun r q1 q2 => ?_, fun r q1 q2 => ?_, fun i hi => ?_, ?_, ?_⟩
  · rw [hj 1 b (by decide), hj 2 b (by decide), hj 0 b (by decide)]
    exact h.b b hb
  · rw [hj 3 r (by decide), h1f]
    exact h.s r q1 q2
  · rw [hj 4 r (by decide), hj 3 r (by decide)]
    exact h.c r q1 q2
  · by_cases c1 : i = c
    · rw [c1, hs]; exact ⟨h0, h1⟩
    · rw [ho i c1]
      have := h.k i hi
      exact ⟨this.1, by omega⟩
  · have hl := h.l
    unfold balOK at hl ⊢
    rw [h1f, he]
    by_cases c8 : c = 8
    · subst c8
      rw [hs, ho 9 (by decide), ho 10 (by decide), ho 11 (by decide), if_pos rfl]; omega
    · rw [if_neg c8]
      by_cases c9 : c = 9
      · subst c9
        rw [hs, ho 8 (by decide), ho 10 (by decide), ho 11 (by decide), if_pos (by decide)]; omega
      · by_cases c10 : c = 10
        · subst c10
          rw [hs, ho 8 (by decide), ho 9 (by decide), ho 11 (by decide), if_pos (by decide)]; omega
        · by_cases c11 : c = 11
          · subst c11
            rw [hs, ho 8 (by decide), ho 9 (by decide), ho 10 (by decide), if_pos (by decide)]; omega
          · rw [ho 8 (by omega), ho 9 (by omega), ho 10 (by omega), ho 11 (by omega), if_neg (by omega)]; omega
  · have hm := h.m
    unfold numOK numC at hm ⊢
    have : (fun r => cntW w c d 4 (r + 1) == 1) = (fun r => w 4 (r + 1) == 1) := by
      funext r
      rw [hj 4 _ (by decide)]
    rw [this]
    by_cases c1 : c = 14
    · subst c1
      rw [hs]
      have := h14 rfl
      omega
    · rw [ho 14 (by omega)]
      exact hm
theorem psum_addS (w : Wl) (b : Nat) (d : Int) (n : Nat) : psum (addS w b d 1) n = psum (w 1) n + (if b < n then d else 0) := by
  refine psum_upd ?_ ?_ n
  · unfold addS; rw [if_neg (by omega), if_pos ⟨rfl, rfl⟩]
  · intro i hi; unfold addS; rw [if_neg (by omega), if_neg (by omega)]
theorem addS_sum {w : Wl} (h : sumOK w) (b : Nat) (d : Int) : sumOK (addS w b d) := by
  intro r h0 hr
  have h1 := h r h0 hr
  have h2 := ovr_iff r b
  rw [psum_addS, psum_addS]
  have e : addS w b d 3 r = if ovr r b = true then w 3 r + d else w 3 r := by
    unfold addS
    by_cases c : ovr r b = true
    · rw [if_pos ⟨rfl, hr, c⟩, if_pos c]
    · rw [if_neg (fun q => c q.2.2), if_neg (by omega), if_neg c]
  rw [e]
  by_cases c : ovr r b = true
  · have := h2.mp c
    rw [if_pos c, if_pos (by omega), if_neg (by omega)]; omega
  · rw [if_neg c]
    by_cases c1 : b < r
    · have c2 : b < r - sz r := by
        rcases Nat.lt_or_ge b (r - sz r) with q | q
        · exact q
        · exact absurd (h2.mpr ⟨q, c1⟩) c
      rw [if_pos c1, if_pos c2]; omega
    · rw [if_neg c1, if_neg (by omega)]; omega
/-! storing sacks in a bay -/
def brgW (w : Wl) (b : Nat) (kd m ag : Int) : Wl := cntW (crkW (addS (upw (upw w 0 b kd) 2 b ag) b m) b) 14 (ncr (addS (upw (upw w 0 b kd) 2 b ag) b m) b : Nat)
theorem s_bring {M : MemG} {k b : Nat} (hk : k < 11) (hb : b < 32) {kd m ag : Int} {T B e : Int} (h : WI T B e (wal M k)) (hB : B ≤ 2000000000) (hm : 0 ≤ m ∧ m ≤ 1000) : fW_bring M k (b : Int) kd m ag = some (setW M k (brgW (wal M k) b kd m ag), ((ncr (addS (upw (upw (wal M k) 0 b kd) 2 b ag) b m) b : Nat) : Int)) := by
  have hn := wal_nrm M k
  have h0 := put_w (M := M) (k := k) (j := 0) (i := b) hk (by decide) hb kd
  have n0 := upw_nrm hn (j := 0) (i := b) (by decide) hb kd
  have n1 := upw_nrm n0 (j := 2) (i := b) (by decide) hb ag
  have n2 := addS_nrm n1 hb m
  have e1 : ∀ i, upw (upw (wal M k) 0 b kd) 2 b ag 1 i = wal M k 1 i := by
    intro i; unfold upw; rw [if_neg (by omega), if_neg (by omega)]
  have e3 : ∀ i, upw (upw (wal M k) 0 b kd) 2 b ag 3 i = wal M k 3 i := by
    intro i; unfold upw; rw [if_neg (by omega), if_neg (by omega)]
  have e5 : addS (upw (upw (wal M k) 0 b kd) 2 b ag) b m 5 14 = wal M k 5 14 := by
    unfold addS upw; rw [if_neg (by omega), if_neg (by omega), if_neg (by omega), if_neg (by omega)]
  have hbb := h.b b hb
  have h14 := h.k 14 (by decide)
  unfold fW_bring
  have h0' : fG_put M (16 + 6 * k) (b : Int) kd = some (setW M k (upw (wal M k) 0 b kd)) := h0
  rw [h0', Option.bind_some, put_w hk (by decide) hb, Option.bind_some, setW_set, wal_set_same n0]
  have hc := s_changeSacks (M := setW M k (upw (upw (wal M k) 0 b kd) 2 b ag)) (k := k) hk hb (d := m) (by omega) (by rw [wal_set_same n1, e1]; omega) (fun r q1 q2 => by
    rw [wal_set_same n1, e3]
    have := h.sum q1 q2
    omega)
  rw [hc, Option.bind_some, setW_set, wal_set_same n1]
  have hk2 := s_crackOver (M := setW M k (addS (upw (upw (wal M k) 0 b kd) 2 b ag) b m)) (k := k) hk hb (by rw [wal_set_same n2, e5]; omega)
  rw [hk2, Option.bind_some, setW_set, wal_set_same n2]
  rfl
theorem cnt_or {p q s : Nat → Bool} : ∀ {n : Nat}, (∀ i, i < n → s i = (p i || q i)) → (∀ i, i < n → p i = true → q i = false) → cnt s n = cnt p n + cnt q n
  | 0, _, _ => rfl
  | n + 1, h1, h2 => by
    have ih := cnt_or (n := n) (fun i hi => h1 i (by omega)) (fun i hi => h2 i (by omega))
    show cnt s n + (if s n then 1 else 0) = (cnt p n + (if p n then 1 else 0)) + (cnt q n + (if q n then 1 else 0))
    rw [ih, h1 n (by omega)]
    have h3 := h2 n (by omega)
    cases hp : p n <;> cases hq : q n
    · simp
    · simp; omega
    · simp; omega
    · rw [h3 hp] at hq; cases hq
theorem WI.brg {T B e : Int} {w : Wl} (h : WI T B e w) {b : Nat} (hb : b < 32) {kd m ag : Int} (hm : 0 < m ∧ w 1 b + m ≤ 200) (hk : 0 ≤ kd ∧ kd ≤ 3) (ha : 0 ≤ ag ∧ ag ≤ T) : WI T (B + 32) (e - m) (brgW w b kd m ag) := by
  have hle : ncr (addS (upw (upw w 0 b kd) 2 b ag) b m) b ≤ 32 := cnt_le _ _
  have hbb := h.b b hb
  have h14 := h.k 14 (by decide)
  have hn := h.n
  have n0 := upw_nrm hn (j := 0) (i := b) (by decide) hb kd
  have n1 := upw_nrm n0 (j := 2) (i := b) (by decide) hb ag
  have n2 := addS_nrm n1 hb m
  unfold brgW
  generalize hv : addS (upw (upw w 0 b kd) 2 b ag) b m = v at *
  have v1 : ∀ i, v 1 i = if i = b then w 1 i + m else w 1 i := by
    intro i; rw [← hv]; unfold addS upw
    rw [if_neg (by omega)]
    by_cases c : i = b
    · rw [if_pos ⟨rfl, c⟩, if_pos c, if_neg (by omega), if_neg (by omega), c]
    · rw [if_neg (fun q => c q.2), if_neg c, if_neg (by omega), if_neg (by omega)]
  have v2 : ∀ i, v 2 i = if i = b then ag else w 2 i := by
    intro i; rw [← hv]; unfold addS upw
    rw [if_neg (by omega), if_neg (by omega)]
    by_cases c : i = b
    · rw [if_pos ⟨rfl, c⟩, if_pos c]
    · rw [if_neg (fun q => c q.2), if_neg c, if_neg (by omega)]
  have v0 : ∀ i, v 0 i = if i = b then kd else w 0 i := by
    intro i; rw [← hv]; unfold addS upw
    rw [if_neg (by omega), if_neg (by omega), if_neg (by omega)]
    by_cases c : i = b
    · rw [if_pos ⟨rfl, c⟩, if_pos c]
    · rw [if_neg (fun q => c q.2), if_neg c]
  have v3 : ∀ r, r < 33 → v 3 r = if ovr r b = true then w 3 r + m else w 3 r := by
    intro r hr; rw [← hv]; unfold addS upw
    by_cases c : ovr r b = true
    · rw [if_pos ⟨rfl, hr, c⟩, if_pos c, if_neg (by omega), if_neg (by omega)]
    · rw [if_neg (fun q => c q.2.2), if_neg (by omega), if_neg c, if_neg (by omega), if_neg (by omega)]
  have v4 : ∀ i, v 4 i = w 4 i := by
    intro i; rw [← hv]; unfold addS upw
    rw [if_neg (by omega), if_neg (by omega), if_neg (by omega), if_neg (by omega)]
  have v5 : ∀ i, v 5 i = w 5 i := by
    intro i; rw [← hv]; unfold addS upw
    rw [if_neg (by omega), if_neg (by omega), if_neg (by omega), if_neg (by omega)]
  have hsum : sumOK v := by
    rw [← hv]
    refine addS_sum (fun r q1 q2 => ?_) b m
    have e1 : upw (upw w 0 b kd) 2 b ag 1 = w 1 := by funext i; unfold upw; rw [if_neg (by omega), if_neg (by omega)]
    have e3 : upw (upw w 0 b kd) 2 b ag 3 r = w 3 r := by unfold upw; rw [if_neg (by omega), if_neg (by omega)]
    rw [e1, e3]
    exact h.s r q1 q2
  have hps : psum (v 1) 32 = psum (w 1) 32 + m := by
    have := psum_upd (f := w 1) (g := v 1) (b := b) (d := m) (by rw [v1, if_pos rfl]) (fun i hi => by rw [v1, if_neg hi]) 32
    rw [this, if_pos hb]
  have c1 : ∀ j i, j ≠ 4 → crkW v b j i = v j i := by intro j i hj; unfold crkW; rw [if_neg (fun q => hj q.1)]
  have c4 : ∀ i, crkW v b 4 i = if newc v b i = true then 1 else w 4 i := by
    intro i; unfold crkW
    by_cases c : newc v b i = true
    · rw [if_pos ⟨rfl, c⟩, if_pos c]
    · rw [if_neg (fun q => c q.2), if_neg c, v4]
  have h1f : crkW v b 1 = v 1 := funext fun i => c1 1 i (by decide)
  show WI T (B + 32) (e - m) (cntW (crkW v b) 14 (ncr v b : Nat))
  have d5 : ∀ i, i ≠ 14 → cntW (crkW v b) 14 (ncr v b : Nat) 5 i = w 5 i := by
    intro i hi; unfold cntW upw
    rw [if_neg (by omega), c1 5 i (by decide), v5]
  have d14 : cntW (crkW v b) 14 (ncr v b : Nat) 5 14 = w 5 14 + (ncr v b : Nat) := by
    unfold cntW upw
    rw [if_pos ⟨rfl, rfl⟩, c1 5 14 (by decide), v5]
  have dj : ∀ j i, j ≠ 5 → cntW (crkW v b) 14 (ncr v b : Nat) j i = crkW v b j i := by
    intro j i hj; unfold cntW upw; rw [if_neg (by omega)]
  have d1f : cntW (crkW v b) 14 (ncr v b : Nat) 1 = v 1 := by
    funext i; rw [dj 1 i (by decide), h1f]
  refine ⟨cntW_nrm (crkW_nrm n2 b) (by decide) _, fun i hi => ?_, fun r q1 q2 => ?_, fun r q1 q2 => ?_, fun i hi => ?_, ?_, ?_⟩
  · rw [dj 1 i (by decide), dj 2 i (by decide), dj 0 i (by decide), c1 1 i (by decide), c1 2 i (by decide), c1 0 i (by decide), v1, v2, v0]
    have hi' := h.b i hi
    by_cases c : i = b
    · subst c
      rw [if_pos rfl, if_pos rfl, if_pos rfl]
      refine ⟨by omega, by omega, by omega, by omega, by omega, by omega, fun q => by omega⟩
    · rw [if_neg c, if_neg c, if_neg c]
      exact hi'
  · rw [dj 3 r (by decide), c1 3 r (by decide), d1f]
    exact hsum r q1 q2
  · rw [dj 4 r (by decide), dj 3 r (by decide), c1 3 r (by decide), c4]
    have hc := h.c r q1 q2
    by_cases c : newc v b r = true
    · rw [if_pos c]
      exact ⟨Or.inr rfl, fun q => by omega⟩
    · rw [if_neg c]
      refine ⟨hc.1, fun q => ?_⟩
      have hq := hc.2 q
      by_cases g : 100 * (sz r : Int) < v 3 r
      · exfalso
        by_cases co : ovr r b = true
        · exact c ((newc_iff v b r).mpr ⟨q2, co, by rw [v4]; omega, g⟩)
        · rw [v3 r q2, if_neg co] at g; omega
      · omega
  · by_cases c : i = 14
    · rw [c, d14]; omega
    · rw [d5 i c]
      have := h.k i hi
      omega
  · have hl := h.l
    unfold balOK at hl ⊢
    rw [d5 8 (by decide), d5 9 (by decide), d5 10 (by decide), d5 11 (by decide), d1f, hps]
    omega
  · have hmm := h.m
    unfold numOK numC at hmm ⊢
    rw [d14]
    have hcn : cnt (fun r => cntW (crkW v b) 14 (ncr v b : Nat) 4 (r + 1) == 1) 32 = cnt (fun r => w 4 (r + 1) == 1) 32 + ncr v b := by
      refine cnt_or (q := fun r => newc v b (r + 1)) (fun i hi => ?_) (fun i hi q => ?_)
      · rw [dj 4 _ (by decide), c4]
        by_cases c : newc v b (i + 1) = true
        · rw [if_pos c, c]; simp
        · rw [if_neg c]
          have : newc v b (i + 1) = false := by simpa using c
          rw [this]; simp
      · cases hq : newc v b (i + 1) with
        | false => rfl
        | true =>
          have := ((newc_iff v b (i + 1)).mp hq).2.2.1
          rw [v4] at this
          exact absurd (by simpa using q) this
    rw [hcn]
    omega
