/-! accounts, bays, rungs as told; the digest -/
def nFil (w : Wl) : Nat := cnt (fun b => !(w 1 b == 0)) 32
def acc (w : Wl) (i : Nat) : Int := if i = 2 then (nFil w : Int) else if i = 3 then psum (w 1) 32 else if 4 ≤ i ∧ i ≤ 7 then kSum w ((i : Int) - 4) else if i = 13 then (numC w : Int) else w 5 i
theorem bay_in {b : Nat} (h : b < 32) : fG_isBay (b : Int) = 1 := by rw [bay_eq, if_pos (by omega)]
theorem rung_in {r : Nat} (h0 : 0 < r) (h : r < 33) : fG_isRung (r : Int) = 1 := by rw [rung_eq, if_pos (by omega)]
theorem within_in {x a b : Int} (h : a ≤ x ∧ x ≤ b) : fG_isWithin x a b = 1 := by rw [within_eq, if_pos h]
section DIG
variable {M : MemG} {T B e : Int}
theorem s_account (h : fewS (wal M 0)) {i : Nat} (hi : i < 16) : fG_account M (i : Int) = some (acc (wal M 0) i) := by
  unfold fG_account acc
  by_cases c2 : i = 2
  · rw [if_pos (by omega), if_pos c2, s_filledBays (by decide)]; rfl
  · rw [if_neg (by omega), if_neg c2]
    by_cases c3 : i = 3
    · rw [if_pos (by omega), if_pos c3, s_allSacks (by decide) h]; rfl
    · rw [if_neg (by omega), if_neg c3]
      by_cases c4 : 4 ≤ i ∧ i ≤ 7
      · rw [if_pos (by omega), if_pos c4, gd_ok (by omega), s_sacksOfKind (by decide) h]; rfl
      · rw [if_neg (by omega), if_neg c4]
        by_cases c13 : i = 13
        · rw [if_pos (by omega), if_pos c13, s_crackedRungs (by decide)]; rfl
        · rw [if_neg (by omega), if_neg c13, if_neg (by omega), if_neg (by omega), within_in (by omega), if_neg (by decide), rW_counted (by decide), rdw_n]
theorem s_bayOf0 {b : Nat} (hb : b < 32) : fG_bayOf M (b : Int) 0 = some (if wal M 0 1 b = 0 then -15 else wal M 0 0 b) := by
  unfold fG_bayOf
  rw [bay_in hb, if_neg (by decide), if_pos rfl, rW_isEmpty (by decide), rdw_n, rW_kindIn (by decide), rdw_n]
  by_cases c : wal M 0 1 b = 0
  · rw [if_pos c, if_neg (by decide), if_pos c]
  · rw [if_neg c, if_pos rfl, if_neg c]
theorem s_bayOf1 {b : Nat} (hb : b < 32) : fG_bayOf M (b : Int) 1 = some (wal M 0 1 b) := by
  unfold fG_bayOf
  rw [bay_in hb, if_neg (by decide), if_neg (by decide), if_pos rfl, rW_sacksIn (by decide), rdw_n]
theorem s_bayOf2 {b : Nat} (hb : b < 32) : fG_bayOf M (b : Int) 2 = some (wal M 0 2 b) := by
  unfold fG_bayOf
  rw [bay_in hb, if_neg (by decide), if_neg (by decide), if_neg (by decide), if_pos rfl, rW_ageIn (by decide), rdw_n]
theorem s_bayOf3 (h : bayOK T (wal M 0)) (hT : T ≤ 1000000) {b : Nat} (hb : b < 32) : fG_bayOf M (b : Int) 3 = some (spo (wal M 0) b (wal M 0 2 b + 1)) := by
  have := h b hb
  unfold fG_bayOf
  rw [bay_in hb, if_neg (by decide), if_neg (by decide), if_neg (by decide), if_neg (by decide), if_pos rfl, rW_ageIn (by decide), rdw_n, gd_ok (by omega), s_spoilingAt (by decide) h hb, Option.bind_some]
theorem s_rungOf3 {r : Nat} (h0 : 0 < r) (hr : r < 33) : fG_rungOf M (r : Int) 3 = some (if wal M 0 4 r = 1 then 1 else 0) := by
  unfold fG_rungOf
  rw [rung_in h0 hr, if_neg (by decide), if_neg (by decide), if_neg (by decide), if_neg (by decide), if_pos rfl, rW_isCracked (by decide), rdw_n]
  by_cases c : wal M 0 4 r = 1
  · rw [if_pos c, if_neg (by decide)]
  · rw [if_neg c, if_pos rfl]
def bayV (w : Wl) (k : Nat) : Int := if k % 3 = 0 then (if w 1 (k / 3) = 0 then -15 else w 0 (k / 3)) else if k % 3 = 1 then w 1 (k / 3) else w 2 (k / 3)
def d1 (w : Wl) : Nat → Int64
  | 0 => 7
  | i + 1 => (31 * d1 w i) + ((i3 (acc w i)).toInt64)
def d2 (w : Wl) : Nat → Int64
  | 0 => d1 w 16
  | i + 1 => (31 * d2 w i) + ((i3 (bayV w i)).toInt64)
def d3 (w : Wl) : Nat → Int64
  | 0 => d2 w 96
  | i + 1 => (31 * d3 w i) + ((i3 (if w 4 (i + 1) = 1 then 1 else 0)).toInt64)
theorem s_digest (h : fewS (wal M 0)) : fL_digest M = some (d3 (wal M 0) 32) := by
  unfold fL_digest
  have h1 : loopN (fL_digest_l6 M) 200 (7, 0) = some (d1 (wal M 0) 16) := by
    refine loop_c (fun i : Nat => (d1 (wal M 0) i, (i : Int))) 16 rfl (by decide) ?_ ?_
    · intro i hi
      unfold fL_digest_l6
      dsimp only
      rw [if_pos (by omega), s_account h hi, Option.bind_some, gd_ok (by omega)]
      rfl
    · unfold fL_digest_l6
      rfl
  have h2 : loopN (fL_digest_l33 M) 200 (d1 (wal M 0) 16, 0) = some (d2 (wal M 0) 96) := by
    refine loop_c (fun i : Nat => (d2 (wal M 0) i, (i : Int))) 96 rfl (by decide) ?_ ?_
    · intro i hi
      have e : fG_bayOf M ((i : Int) / 3) ((i : Int) % 3) = some (bayV (wal M 0) i) := by
        have e1 : (i : Int) / 3 = ((i / 3 : Nat) : Int) := rfl
        rw [e1]
        unfold bayV
        have c : i % 3 = 0 ∨ i % 3 = 1 ∨ i % 3 = 2 := by omega
        rcases c with c | c | c
        · rw [show (i : Int) % 3 = 0 by omega, if_pos c]; exact s_bayOf0 (by omega)
        · rw [show (i : Int) % 3 = 1 by omega, if_neg (by omega), if_pos c]; exact s_bayOf1 (by omega)
        · rw [show (i : Int) % 3 = 2 by omega, if_neg (by omega), if_neg (by omega)]; exact s_bayOf2 (by omega)
      unfold fL_digest_l33
      dsimp only
      rw [if_pos (by omega), gq_ok (by omega), gq_ok (by omega), e, Option.bind_some, gd_ok (by omega)]
      rfl
    · unfold fL_digest_l33
      rfl
  have h3 : loopN (fL_digest_l65 M) 200 (d2 (wal M 0) 96, 1) = some (d3 (wal M 0) 32) := by
    refine loop_c (fun i : Nat => (d3 (wal M 0) i, ((i + 1 : Nat) : Int))) 32 rfl (by decide) ?_ ?_
    · intro i hi
      unfold fL_digest_l65
      dsimp only
      rw [if_pos (by omega), s_rungOf3 (by omega) (by omega), Option.bind_some, gd_ok (by omega)]
      rfl
    · unfold fL_digest_l65
      rfl
  rw [h1, Option.bind_some, h2, Option.bind_some, h3, Option.bind_some]
end DIG
