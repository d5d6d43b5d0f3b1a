/-! the world that the constructor leaves, as the pool -/
def prm (k : Nat) : Nat := ([0, 22, 80, 83, 23, 1, 8, 15, 24, 31, 38, 45, 52, 59, 66, 73, 2, 3, 4, 5, 6, 7, 9, 10, 11, 12, 13, 14, 16, 17, 18, 19, 20, 21, 25, 26, 27, 28, 29, 30, 32, 33, 34, 35, 36, 37, 39, 40, 41, 42, 43, 44, 46, 47, 48, 49, 50, 51, 53, 54, 55, 56, 57, 58, 60, 61, 62, 63, 64, 65, 67, 68, 69, 70, 71, 72, 74, 75, 76, 77, 78, 79, 81, 82, 84, 85] : List Nat).getD k 0
def padr (g : Nat) (u : Nat → Nat) (k : Nat) : Nat := ([g, u 21, u 79, u 82, u 22, u 0, u 7, u 14, u 23, u 30, u 37, u 44, u 51, u 58, u 65, u 72, u 1, u 2, u 3, u 4, u 5, u 6, u 8, u 9, u 10, u 11, u 12, u 13, u 15, u 16, u 17, u 18, u 19, u 20, u 24, u 25, u 26, u 27, u 28, u 29, u 31, u 32, u 33, u 34, u 35, u 36, u 38, u 39, u 40, u 41, u 42, u 43, u 45, u 46, u 47, u 48, u 49, u 50, u 52, u 53, u 54, u 55, u 56, u 57, u 59, u 60, u 61, u 62, u 63, u 64, u 66, u 67, u 68, u 69, u 70, u 71, u 73, u 74, u 75, u 76, u 77, u 78, u 80, u 81, u 83, u 84] : List Nat).getD k 0
def adr (g : Nat) (u X : Nat → Nat) (k : Nat) : Nat := if k < 86 then padr g u k else X k
def entE (cI cQ : ClassId) (ad : Nat → Nat) (k : Nat) : va_E :=
  if 16 ≤ k then (if k < 82 ∧ (k - 16) % 6 = 5 then eC cI else eI cI (lenA k))
  else if 5 ≤ k then .inr (3, [.ref (ad (16 + 6 * (k - 5))), .ref (ad (16 + 6 * (k - 5) + 1)), .ref (ad (16 + 6 * (k - 5) + 2)), .ref (ad (16 + 6 * (k - 5) + 3)), .ref (ad (16 + 6 * (k - 5) + 4)), .ref (ad (16 + 6 * (k - 5) + 5))])
  else if k = 0 then .inr (4, [.ref (ad 5), .ref (ad 6), .ref (ad 7), .int 0, .ref (ad 1), .ref (ad 2), .ref (ad 3), .int 0, .int 0, .ref (ad 85)])
  else if k = 1 then .inr (2, [.ref (ad 4), .int 0, .int 0])
  else if k = 2 then .inr (0, [.ref (ad 82), .int 0, .ref (ad 83), .int 0, .int 0, .int 0])
  else if k = 3 then .inr (1, [.ref (ad 84), .int 0])
  else eQ cQ (fun j => some (ad (5 + (3 + j))))
theorem ini_hi {k : Nat} (c : ¬ (k < 82 ∧ (k - 16) % 6 = 5)) : iniM k = fun _ => 0 := by
  funext j
  unfold iniM
  rw [if_neg (fun q => c ⟨q.2.1, q.2.2.1⟩)]
theorem ini_lo {k : Nat} (c : ¬ 16 ≤ k) : iniM k = fun _ => 0 := by
  funext j
  unfold iniM
  rw [if_neg (fun q => c q.1)]
theorem ent_ini (G : gG) {k : Nat} : entF G (iniM k) k = entE G.2.1 G.2.2.1 (gA G) k := by
  unfold entF entE
  by_cases c : 16 ≤ k
  · rw [if_pos c, if_pos c]
    by_cases c2 : k < 82 ∧ (k - 16) % 6 = 5
    · have hlen : lenA k = 16 := by unfold lenA; rw [if_pos c2.1, if_neg (by omega), if_neg (by omega)]
      have hf : (fun j => i3 (iniM k j)) = upd (fun _ => 0) (i3 1).toNatClampNeg (i3 50) := by
        funext j
        have e1 : (i3 1).toNatClampNeg = 1 := by decide +kernel
        rw [e1]
        unfold iniM upd
        by_cases cj : j = 1
        · rw [if_pos ⟨c, c2.1, c2.2, cj⟩, if_pos cj]
        · rw [if_neg (fun q => cj q.2.2.2), if_neg cj]; exact i3_0
      rw [if_pos c2, hlen, hf]
    · rw [if_neg c2, ini_hi c2]
      have hf : (fun _ : Nat => i3 0) = fun _ => (0 : Int32) := by rw [i3_0]
      show Sum.inl (G.2.1, lenA k, Sum.inl (fun _ : Nat => i3 0)) = _
      rw [hf]
  · rw [if_neg c, if_neg c, ini_lo c]
    simp only [i3_0]
def wPool (cI cQ : ClassId) (g : Nat) (u X : Nat → Nat) : va_W := (wGran cI cQ g u).set 23 (u 22, eQ cQ (fun j => some (adr g u X (5 + (3 + j)))))
set_option maxRecDepth 100000 in
set_option maxHeartbeats 4000000 in
theorem pool_at (cI cQ : ClassId) (g : Nat) (u X : Nat → Nat) : ∀ k, k < 86 → (wPool cI cQ g u X)[prm k]? = some (adr g u X k, entE cI cQ (adr g u X) k) := by
  intro k hk
  match k, hk with
  | 0, _ => rfl
  | 1, _ => rfl
  | 2, _ => rfl
  | 3, _ => rfl
  | 4, _ => rfl
  | 5, _ => rfl
  | 6, _ => rfl
  | 7, _ => rfl
  | 8, _ => rfl
  | 9, _ => rfl
  | 10, _ => rfl
  | 11, _ => rfl
  | 12, _ => rfl
  | 13, _ => rfl
  | 14, _ => rfl
  | 15, _ => rfl
  | 16, _ => rfl
  | 17, _ => rfl
  | 18, _ => rfl
  | 19, _ => rfl
  | 20, _ => rfl
  | 21, _ => rfl
  | 22, _ => rfl
  | 23, _ => rfl
  | 24, _ => rfl
  | 25, _ => rfl
  | 26, _ => rfl
  | 27, _ => rfl
  | 28, _ => rfl
  | 29, _ => rfl
  | 30, _ => rfl
  | 31, _ => rfl
  | 32, _ => rfl
  | 33, _ => rfl
  | 34, _ => rfl
  | 35, _ => rfl
  | 36, _ => rfl
  | 37, _ => rfl
  | 38, _ => rfl
  | 39, _ => rfl
  | 40, _ => rfl
  | 41, _ => rfl
  | 42, _ => rfl
  | 43, _ => rfl
  | 44, _ => rfl
  | 45, _ => rfl
  | 46, _ => rfl
  | 47, _ => rfl
  | 48, _ => rfl
  | 49, _ => rfl
  | 50, _ => rfl
  | 51, _ => rfl
  | 52, _ => rfl
  | 53, _ => rfl
  | 54, _ => rfl
  | 55, _ => rfl
  | 56, _ => rfl
  | 57, _ => rfl
  | 58, _ => rfl
  | 59, _ => rfl
  | 60, _ => rfl
  | 61, _ => rfl
  | 62, _ => rfl
  | 63, _ => rfl
  | 64, _ => rfl
  | 65, _ => rfl
  | 66, _ => rfl
  | 67, _ => rfl
  | 68, _ => rfl
  | 69, _ => rfl
  | 70, _ => rfl
  | 71, _ => rfl
  | 72, _ => rfl
  | 73, _ => rfl
  | 74, _ => rfl
  | 75, _ => rfl
  | 76, _ => rfl
  | 77, _ => rfl
  | 78, _ => rfl
  | 79, _ => rfl
  | 80, _ => rfl
  | 81, _ => rfl
  | 82, _ => rfl
  | 83, _ => rfl
  | 84, _ => rfl
  | 85, _ => rfl
  | k + 86, hk => exact absurd hk (by omega)
theorem prm_inj : ∀ i, i < 86 → ∀ j, j < 86 → prm i = prm j → i = j := by decide +kernel
theorem pool_world {D : va_G} {cI cQ : ClassId} {g : Nat} {u X : Nat → Nat} {xs : Nat → Int} {L : Nat} {A : Nat → Prop} {H : Heap} (hP : va_P D vwCl (wGran cI cQ g u) H) (hD : va_D A (wGran cI cQ g u)) : va_P D vwCl (pW (D, cI, cQ, adr g u X, xs, L, A) iniM) H ∧ inj86 (D, cI, cQ, adr g u X, xs, L, A) := by
  have hP2 : va_P D vwCl (wPool cI cQ g u X) H := k_swapA (g := fun j => some (adr g u X (5 + (3 + j)))) hP (i := 23) rfl (fun j hj => by rcases (show j = 0 ∨ j = 1 ∨ j = 2 ∨ j = 3 ∨ j = 4 ∨ j = 5 ∨ j = 6 ∨ j = 7 by omega) with rfl | rfl | rfl | rfl | rfl | rfl | rfl | rfl <;> rfl)
  have hD2 : va_D A (wPool cI cQ g u X) := va_D.set (p := 23) (e := eQ cQ (fun j => some (adr g u X (5 + (3 + j))))) hD rfl
  refine ⟨va_P.by hP2 prm (fun k q hk => ?_), fun i j hi hj h => ?_, fun i hi => ?_⟩
  · obtain ⟨h86, rfl⟩ := pW_some hk
    rw [ent_ini]
    exact pool_at cI cQ g u X k h86
  · exact prm_inj i hi j hj (hD2.1 _ _ _ _ (pool_at cI cQ g u X i hi) (pool_at cI cQ g u X j hj) h)
  · exact hD2.2 _ _ (pool_at cI cQ g u X i hi)
theorem rng_ini : rngM iniM := by
  intro i j
  unfold iniM
  split <;> decide
