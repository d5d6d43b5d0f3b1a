/-! the wall's writers, as functions of walls -/
theorem up_w {M : MemG} {k j i : Nat} (hk : k < 11) (hj : j < 6) (hi : i < lenJ j) (v : Int) : up M (16 + 6 * k + j) i v = setW M k (upw (wal M k) j i v) := by
  have h := put_w (M := M) hk hj hi v
  unfold fG_put at h
  rw [lenA_w hk hj, if_neg (by omega), if_pos (by omega), Option.bind_some, Int.toNat_natCast] at h
  exact Option.some.inj h
/-- the first n places of a row are another wall's -/
def cpr (w w2 : Wl) (j n : Nat) : Wl := fun a i => if a = j ∧ i < n then w2 j i else w a i
theorem cpr_nrm {w w2 : Wl} (h : nrm w) {j n : Nat} (hj : j < 6) (hn : n ≤ lenJ j) : nrm (cpr w w2 j n) := by
  intro a i hai
  unfold cpr
  rw [if_neg (fun c => hai ⟨by omega, by rw [c.1]; omega⟩)]
  exact h a i hai
theorem s_copyRow {M : MemG} {k k2 j : Nat} (hk : k < 11) (hk2 : k2 < 11) (hne : k2 ≠ k) (hj : j < 6) : fG_copyRow M (16 + 6 * k2 + j) (16 + 6 * k + j) = some (setW M k (cpr (wal M k) (wal M k2) j (lenJ j))) := by
  unfold fG_copyRow
  have hlen : lenJ j ≤ 33 := by unfold lenJ; split <;> (try split) <;> decide
  have hn := wal_nrm M k
  refine loop_c (fun i => ((i : Int), setW M k (cpr (wal M k) (wal M k2) j i))) (lenJ j) ?_ (by omega) (fun i hi => ?_) ?_
  · refine Prod.ext rfl ?_
    show M = setW M k (cpr (wal M k) (wal M k2) j 0)
    have : cpr (wal M k) (wal M k2) j 0 = wal M k := by
      funext a b
      unfold cpr
      rw [if_neg (by omega)]
    rw [this, setW_self]
  · unfold fG_copyRow_l2
    dsimp only
    rw [lenA_w hk2 hj, lenA_w hk hj, if_pos (by omega), if_pos (by omega), gx_ok (by omega), Option.bind_some, gd_ok (by omega), Int.toNat_natCast, up_w hk hj hi, wal_set_same (cpr_nrm hn hj (by omega)), setW_set]
    refine inl2 (cast1 i) ?_
    have hv : setW M k (cpr (wal M k) (wal M k2) j i) (16 + 6 * k2 + j) i = wal M k2 j i := by
      have h1 := wal_set_other (M := M) (w := cpr (wal M k) (wal M k2) j i) hne
      have h2 : wal (setW M k (cpr (wal M k) (wal M k2) j i)) k2 j i = setW M k (cpr (wal M k) (wal M k2) j i) (16 + 6 * k2 + j) i := by
        unfold wal
        rw [if_pos ⟨hj, hi⟩]
      rw [← h2, h1]
    rw [hv]
    congr 1
    funext a b
    unfold upw cpr
    by_cases c : a = j ∧ b = i
    · rw [if_pos c, if_pos ⟨c.1, by omega⟩, c.2]
    · rw [if_neg c]
      by_cases c2 : a = j ∧ b < i
      · rw [if_pos c2, if_pos ⟨c2.1, by omega⟩]
      · rw [if_neg c2, if_neg (by omega)]
  · unfold fG_copyRow_l2
    dsimp only
    rw [lenA_w hk2 hj, if_neg (by omega)]
/-- the first n rows are another wall's -/
def mixW (w w2 : Wl) (n : Nat) : Wl := fun a i => if a < n then w2 a i else w a i
theorem mixW_nrm {w w2 : Wl} (h : nrm w) (h2 : nrm w2) (n : Nat) : nrm (mixW w w2 n) := by
  intro a i hai
  unfold mixW
  by_cases c : a < n
  · rw [if_pos c]; exact h2 a i hai
  · rw [if_neg c]; exact h a i hai
theorem cpr_mix {w w2 : Wl} (h : nrm w) (h2 : nrm w2) {j : Nat} (hj : j < 6) : cpr (mixW w w2 j) w2 j (lenJ j) = mixW w w2 (j + 1) := by
  funext a i
  unfold cpr mixW
  by_cases c : a = j ∧ i < lenJ j
  · rw [if_pos c, if_pos (by omega), c.1]
  · rw [if_neg c]
    by_cases c2 : a < j
    · rw [if_pos c2, if_pos (by omega)]
    · rw [if_neg c2]
      by_cases c3 : a = j
      · rw [if_pos (by omega), h a i (fun q => c ⟨c3, by rw [c3] at q; exact q.2⟩), h2 a i (fun q => c ⟨c3, by rw [c3] at q; exact q.2⟩)]
      · rw [if_neg (by omega)]
theorem s_copyFrom {M : MemG} {k k2 : Nat} (hk : k < 11) (hk2 : k2 < 11) (hne : k2 ≠ k) : fW_copyFrom M k k2 = some (setW M k (wal M k2)) := by
  have hn := wal_nrm M k
  have hn2 := wal_nrm M k2
  have step : ∀ j, j < 6 → fG_copyRow (setW M k (mixW (wal M k) (wal M k2) j)) (16 + 6 * k2 + j) (16 + 6 * k + j) = some (setW M k (mixW (wal M k) (wal M k2) (j + 1))) := by
    intro j hj
    rw [s_copyRow hk hk2 hne hj, wal_set_same (mixW_nrm hn hn2 j), wal_set_other hne, setW_set, cpr_mix hn hn2 hj]
  have h0 : M = setW M k (mixW (wal M k) (wal M k2) 0) := by
    have : mixW (wal M k) (wal M k2) 0 = wal M k := by
      funext a i
      unfold mixW
      rw [if_neg (by omega)]
    rw [this, setW_self]
  have h6 : mixW (wal M k) (wal M k2) 6 = wal M k2 := by
    funext a i
    unfold mixW
    by_cases c : a < 6
    · rw [if_pos c]
    · rw [if_neg c, hn a i (by omega), hn2 a i (by omega)]
  unfold fW_copyFrom
  have e0 := step 0 (by decide)
  rw [← h0] at e0
  have e0' : fG_copyRow M (16 + 6 * k2) (16 + 6 * k) = some (setW M k (mixW (wal M k) (wal M k2) (0 + 1))) := e0
  rw [e0', Option.bind_some, step 1 (by decide), Option.bind_some, step 2 (by decide), Option.bind_some, step 3 (by decide), Option.bind_some, step 4 (by decide), Option.bind_some, step 5 (by decide), Option.bind_some, h6]
def cntW (w : Wl) (c : Nat) (d : Int) : Wl := upw w 5 c (w 5 c + d)
theorem s_count {M : MemG} {k c : Nat} (hk : k < 11) (hc : c < 16) {d : Int} (h : -2147483648 ≤ wal M k 5 c + d ∧ wal M k 5 c + d ≤ 2147483647) : fW_count M k (c : Int) d = some (setW M k (cntW (wal M k) c d)) := by
  unfold fW_count cntW
  rw [at_w hk (by decide), rdw_n, gd_ok h, put_w hk (by decide) (by exact hc), Option.bind_some]
theorem cntW_nrm {w : Wl} (h : nrm w) {c : Nat} (hc : c < 16) (d : Int) : nrm (cntW w c d) := upw_nrm h (by decide) hc _
/-! cracks -/
theorem cnt_skip {p : Nat → Bool} {a : Nat} : ∀ {n : Nat}, a ≤ n → (∀ i, a ≤ i → i < n → p i = false) → cnt p n = cnt p a
  | 0, h, _ => by rw [show a = 0 by omega]
  | n + 1, h, hf => by
    by_cases c : a = n + 1
    · rw [c]
    · have h1 := cnt_skip (n := n) (by omega) (fun i h1 h2 => hf i h1 (by omega))
      show cnt p n + (if p n then 1 else 0) = cnt p a
      rw [h1, hf n (by omega) (by omega)]
      rfl
theorem cnt_congr {p q : Nat → Bool} : ∀ {n : Nat}, (∀ i, i < n → p i = q i) → cnt p n = cnt q n
  | 0, _ => rfl
  | n + 1, h => by
    show cnt p n + (if p n then 1 else 0) = cnt q n + (if q n then 1 else 0)
    rw [cnt_congr (fun i hi => h i (by omega)), h n (by omega)]
def newc (w : Wl) (b r : Nat) : Bool := decide (r < 33) && ovr r b && !(w 4 r == 1) && decide (100 * (sz r : Int) < w 3 r)
theorem newc_iff (w : Wl) (b r : Nat) : newc w b r = true ↔ r < 33 ∧ ovr r b = true ∧ ¬ w 4 r = 1 ∧ 100 * (sz r : Int) < w 3 r := by unfold newc; simp [and_assoc]
def crkP (w : Wl) (b n : Nat) : Wl := fun j i => if j = 4 ∧ i < n ∧ newc w b i = true then 1 else w j i
def crkW (w : Wl) (b : Nat) : Wl := fun j i => if j = 4 ∧ newc w b i = true then 1 else w j i
theorem crkP_nrm {w : Wl} (h : nrm w) (b n : Nat) : nrm (crkP w b n) := by
  intro j i hji
  unfold crkP
  rw [if_neg (fun c => hji ⟨by omega, by have := (newc_iff w b i).mp c.2.2; rw [c.1]; exact this.1⟩)]
  exact h j i hji
theorem crkW_nrm {w : Wl} (h : nrm w) (b : Nat) : nrm (crkW w b) := by
  intro j i hji
  unfold crkW
  rw [if_neg (fun c => hji ⟨by omega, by have := (newc_iff w b i).mp c.2; rw [c.1]; exact this.1⟩)]
  exact h j i hji
def ncr (w : Wl) (b : Nat) : Nat := cnt (fun r => newc w b (r + 1)) 32
theorem s_crackOver {M : MemG} {k b : Nat} (hk : k < 11) (hb : b < 32) (h14 : 0 ≤ wal M k 5 14 ∧ wal M k 5 14 ≤ 2000000000) : fW_crackOver M k (b : Int) = some (setW M k (cntW (crkW (wal M k) b) 14 (ncr (wal M k) b : Nat)), ((ncr (wal M k) b : Nat) : Int)) := by
  have hn := wal_nrm M k
  unfold fW_crackOver
  rw [gd_ok (by omega)]
  have hfin : ∀ r, 33 ≤ r → crkP (wal M k) b r = crkW (wal M k) b := by
    intro r hr
    funext j i
    unfold crkP crkW
    by_cases c : j = 4 ∧ newc (wal M k) b i = true
    · have := (newc_iff _ _ _).mp c.2
      rw [if_pos c, if_pos ⟨c.1, by omega, c.2⟩]
    · rw [if_neg c, if_neg (fun q => c ⟨q.1, q.2.2⟩)]
  have h0 : crkP (wal M k) b (b + 1) = wal M k := by
    funext j i
    unfold crkP
    rw [if_neg (fun c => ?_)]
    have h1 := (newc_iff _ _ _).mp c.2.2
    rw [(up_first b hb).2 i c.2.1] at h1
    exact absurd h1.2.1 (by decide)
  have hc0 : cnt (fun r => newc (wal M k) b (r + 1)) (b + 1 - 1) = 0 := by
    rw [cnt_skip (a := 0) (Nat.zero_le _) (fun i _ hi => ?_)]
    · rfl
    · have h2 := (up_first b hb).2 (i + 1) (by omega)
      unfold newc
      rw [h2]
      simp
  have hcf : ∀ r, 32 < r → cnt (fun r => newc (wal M k) b (r + 1)) (r - 1) = ncr (wal M k) b := by
    intro r hr
    unfold ncr
    refine cnt_skip (by omega) (fun i h1 _ => ?_)
    unfold newc
    simp
    omega
  refine Exists.elim (up_loop (fun (a : Int × MemG) (r i : Int) => (a.1, r, i, a.2)) (fW_crackOver_l9 k) b hb (fun r a => a.2 = setW M k (crkP (wal M k) b r) ∧ a.1 = (cnt (fun r => newc (wal M k) b (r + 1)) (r - 1) : Nat)) (fun x => x = (((ncr (wal M k) b : Nat) : Int), setW M k (crkW (wal M k) b))) (fun r hr ho a i h1 h2 hI => ?_) (fun r hr hr2 a i hI => ?_) (0, M) ⟨by rw [h0, setW_self], by rw [hc0]; rfl⟩) (fun x hx => ?_)
  · obtain ⟨c0, m⟩ := a
    obtain ⟨hm, hc⟩ := hI
    dsimp only at hm hc
    subst hm; subst hc
    refine Or.inl ?_
    have hz := sz_pos r
    have hov := (ovr_iff r b).mp ho
    have hrr := size_ok r (by omega) (by omega) (by omega)
    have e4 : crkP (wal M k) b r 4 r = wal M k 4 r := by unfold crkP; rw [if_neg (by omega)]
    have e3 : crkP (wal M k) b r 3 r = wal M k 3 r := by unfold crkP; rw [if_neg (by omega)]
    have hcl := cnt_le (fun r => newc (wal M k) b (r + 1)) (r - 1)
    have hnext : (∀ i, i < 33 → r < i → i < r + sz r → ovr i b = false) → cnt (fun r => newc (wal M k) b (r + 1)) (r + sz r - 1) = cnt (fun r => newc (wal M k) b (r + 1)) r := by
      intro hg
      refine cnt_skip (by omega) (fun i q1 q2 => ?_)
      unfold newc
      by_cases c : i + 1 < 33
      · rw [hg (i + 1) c (by omega) (by omega)]; simp
      · simp [c]
    have hstep : cnt (fun r => newc (wal M k) b (r + 1)) r = cnt (fun r => newc (wal M k) b (r + 1)) (r - 1) + (if newc (wal M k) b r then 1 else 0) := by
      obtain ⟨r', rfl⟩ : ∃ r', r = r' + 1 := ⟨r - 1, by omega⟩
      rfl
    have hrow : newc (wal M k) b r = false → (∀ i, i < 33 → r < i → i < r + sz r → ovr i b = false) → crkP (wal M k) b (r + sz r) = crkP (wal M k) b r := by
      intro hf hg
      funext j i2
      unfold crkP
      by_cases c : j = 4 ∧ i2 < r ∧ newc (wal M k) b i2 = true
      · rw [if_pos c, if_pos ⟨c.1, by omega, c.2.2⟩]
      · rw [if_neg c, if_neg (fun q => ?_)]
        have h5 := (newc_iff _ _ _).mp q.2.2
        by_cases c3 : i2 < r
        · exact c ⟨q.1, c3, q.2.2⟩
        · by_cases c4 : i2 = r
          · rw [c4, hf] at q; exact absurd q.2.2 (by decide)
          · have h6 := h5.2.1
            rw [hg i2 h5.1 (by omega) q.2.1] at h6
            exact absurd h6 (by decide)
    unfold fW_crackOver_l9 fW_crackOver_j54
    dsimp only
    rw [if_pos h2, if_neg (by omega), rW_isCracked hk, rdw_n, wal_set_same (crkP_nrm hn b r), e4, s_loadOf0 r hr (by omega), rW_sumOf hk, rdw_n, wal_set_same (crkP_nrm hn b r), e3, Option.bind_some]
    by_cases c1 : wal M k 4 r = 1
    · have hf : newc (wal M k) b r = false := by
        cases hq : newc (wal M k) b r with
        | false => rfl
        | true => exact absurd c1 ((newc_iff _ _ _).mp hq).2.2.1
      rw [if_pos c1, if_neg (by decide), hrr, gd_ok (by omega), gd_ok (by omega)]
      refine ⟨(((cnt (fun r => newc (wal M k) b (r + 1)) (r - 1) : Nat) : Int), setW M k (crkP (wal M k) b r)), ?_, fun hg => ⟨by rw [hrow hf hg], by rw [hnext hg, hstep, hf]; rfl⟩⟩
      exact inl4 rfl (by simp) rfl rfl
    · rw [if_neg c1, if_pos rfl]
      by_cases c2 : 100 * (sz r : Int) < wal M k 3 r
      · have ht : newc (wal M k) b r = true := (newc_iff _ _ _).mpr ⟨hr, ho, c1, c2⟩
        rw [if_pos c2, put_w hk (by decide) (by exact hr), Option.bind_some, gd_ok (by omega), hrr, gd_ok (by omega), gd_ok (by omega)]
        refine ⟨(((cnt (fun r => newc (wal M k) b (r + 1)) (r - 1) : Nat) : Int) + 1, setW M k (upw (crkP (wal M k) b r) 4 r 1)), ?_, fun hg => ⟨?_, by rw [hnext hg, hstep, ht]; simp⟩⟩
        · rw [setW_set, wal_set_same (crkP_nrm hn b r)]
          exact inl4 rfl (by simp) rfl rfl
        · show setW M k (upw (crkP (wal M k) b r) 4 r 1) = setW M k (crkP (wal M k) b (r + sz r))
          congr 1
          funext j i2
          unfold upw crkP
          by_cases c : j = 4 ∧ i2 = r
          · rw [if_pos c, if_pos ⟨c.1, by omega, by rw [c.2]; exact ht⟩]
          · rw [if_neg c]
            by_cases c5 : j = 4 ∧ i2 < r ∧ newc (wal M k) b i2 = true
            · rw [if_pos c5, if_pos ⟨c5.1, by omega, c5.2.2⟩]
            · rw [if_neg c5, if_neg (fun q => ?_)]
              have h5 := (newc_iff _ _ _).mp q.2.2
              by_cases c3 : i2 < r
              · exact c5 ⟨q.1, c3, q.2.2⟩
              · have h6 := h5.2.1
                rw [hg i2 h5.1 (by omega) q.2.1] at h6
                exact absurd h6 (by decide)
      · have hf : newc (wal M k) b r = false := by
          cases hq : newc (wal M k) b r with
          | false => rfl
          | true => exact absurd ((newc_iff _ _ _).mp hq).2.2.2 c2
        rw [if_neg c2, hrr, gd_ok (by omega), gd_ok (by omega)]
        refine ⟨(((cnt (fun r => newc (wal M k) b (r + 1)) (r - 1) : Nat) : Int), setW M k (crkP (wal M k) b r)), ?_, fun hg => ⟨by rw [hrow hf hg], by rw [hnext hg, hstep, hf]; rfl⟩⟩
        exact inl4 rfl (by simp) rfl rfl
  · obtain ⟨c0, m⟩ := a
    obtain ⟨hm, hc⟩ := hI
    dsimp only at hm hc
    subst hm; subst hc
    refine ⟨(((ncr (wal M k) b : Nat) : Int), setW M k (crkW (wal M k) b)), ?_, rfl⟩
    unfold fW_crackOver_l9
    dsimp only
    rw [hcf r hr, hfin r (by omega)]
    by_cases c : i < 32
    · rw [if_pos c, if_pos (by omega)]
    · rw [if_neg c]
  · have e1 := hx.1
    dsimp only at e1
    have hle : ncr (wal M k) b ≤ 32 := cnt_le _ _
    have e14 : crkW (wal M k) b 5 14 = wal M k 5 14 := by unfold crkW; rw [if_neg (by omega)]
    have ec := s_count (M := setW M k (crkW (wal M k) b)) (k := k) (c := 14) hk (by decide) (d := (ncr (wal M k) b : Nat)) (by rw [wal_set_same (crkW_nrm hn b), e14]; omega)
    rw [e1, Option.bind_some, hx.2]
    dsimp only
    rw [show ((14 : Nat) : Int) = 14 from rfl] at ec
    rw [ec, Option.bind_some, wal_set_same (crkW_nrm hn b), setW_set]
