/-! the constructors: laid by wip/p35/ctor.py -/
section KNEW
variable {p : Program} {l : Launch} {e : Env} {R : Room} {s : State} {m : MethodId} {args : Array Value} {below : List Frame} {meth : Method} {c : Code} {H : Heap} {locs : List Loc} {cells slots : Nat} {Q : State → Prop} {cc : ByteArray} {pc : Nat} {ls : Array Slot} {rest : List Value} {D : va_G} {cl : List vw_C} {ws : va_W} {A : Nat → Prop} {H0 : Heap}
theorem k_newi {cI : ClassId} {tys : List (ClassId × FieldType)} {n : Int32} {N : Nat} (hx : p.tables.exec = Jvm.exec) (hb : c.code = cc) (harr : (Cond.arrayClass .int).before args s = true) (hK : va_K D cl ((cI, .int) :: tys) s) (hP : va_P D cl ws H) (hD : va_D A ws) (hS : va_S A H0 H locs) (hA : ∀ q, H0.size ≤ q → A q) (hn : ¬ n < 0) (hN : n.toNatClampNeg = N) (hbytes : N * componentBytes .int ≤ 536870912) (hcells : cells + 1 ≤ R.cells) (hslots : slots + N ≤ R.slots) (hdg : decode cc pc = .ok (.newarray .int, 2))
    (kk : ∀ (q : Nat) (H1 : Heap), va_P D cl (ws ++ [(q, .inl (cI, N, .inl (fun _ => 0)))]) H1 → va_D A (ws ++ [(q, .inl (cI, N, .inl (fun _ => 0)))]) → va_S A H0 H1 locs → W p l e R s m args below meth c H1 locs (cells + 1) (slots + N) Q (F0 m (pc + 2) ls (.ref q :: rest))) : W p l e R s m args below meth c H locs cells slots Q (F0 m pc ls (.int n :: rest)) := by
  refine va_newa (atype := .int) hx hb harr rfl hK hP hD hS hA (a0 := (N, .inl (fun _ => 0))) (fun cA => rfl) hn hN hbytes hcells hslots hdg (fun q cA H1 hK1 hP1 hD1 hS1 => ?_)
  have e1 : va_RA s cI .int := (hK.2 0 (cI, .int) rfl).2
  have e2 : va_RA s cA .int := (hK1.2 ((cI, FieldType.int) :: tys).length (cA, .int) (by rw [List.getElem?_append_right (Nat.le_refl _), Nat.sub_self]; rfl)).2
  have e3 : cI = cA := Option.some.inj (Eq.trans (Eq.symm e1) e2)
  subst e3
  exact kk q H1 hP1 hD1 hS1
theorem k_astq {tys : List (ClassId × FieldType)} {a : Nat} (hx : p.tables.exec = Jvm.exec) (hb : c.code = cc) (hK : va_K D cl tys s) (hP : va_P D cl ws H) (hD : va_D A ws) (hS : va_S A H0 H locs) (q0 t0 qk ci : Nat) {cA : ClassId} {r : vw_C} {v j : Nat} {vs : List Value} {f : Nat → Option Nat} (ha : ws[q0]? = some (a, .inl (cA, 8, .inr (.inr (.inr (.inr f)))))) (ht : tys[t0]? = some (cA, .object r.1)) (hv : ws[qk]? = some (v, .inr (ci, vs))) (hc : cl[ci]? = some r) (hj : j < 8) (hdg : decode cc pc = .ok (.aastore, 1))
    (kk : ∀ (H1 : Heap) (locs1 : List Loc), va_P D cl (ws.set q0 (a, .inl (cA, 8, .inr (.inr (.inr (.inr (va_up f j (some v)))))))) H1 → va_D A (ws.set q0 (a, .inl (cA, 8, .inr (.inr (.inr (.inr (va_up f j (some v)))))))) → va_S A H0 H1 locs1 → W p l e R s m args below meth c H1 locs1 cells slots Q (F0 m (pc + 1) ls rest)) : W p l e R s m args below meth c H locs cells slots Q (F0 m pc ls (.ref v :: .int (i3 (j : Int)) :: .ref a :: rest)) := by
  have hr : inR (j : Int) := ⟨by omega, by omega⟩
  have e : (i3 (j : Int)).toNatClampNeg = j := by rw [i3_clamp hr]; exact Int.toNat_natCast j
  refine va_astq hx hb hK hP hD hS q0 t0 qk ci ha ht hv hc (i3_in hr (by omega) (by omega)) hdg (fun H1 locs1 hP1 hD1 hS1 => ?_)
  rw [e] at hP1 hD1
  exact kk H1 locs1 hP1 hD1 hS1
end KNEW
theorem k_swapA {D : va_G} {cl : List vw_C} {ws : va_W} {H : Heap} (hP : va_P D cl ws H) {i a n : Nat} {cA : ClassId} {f g : Nat → Option Nat} (he : ws[i]? = some (a, .inl (cA, n, .inr (.inr (.inr (.inr f)))))) (hfg : ∀ j, j < n → f j = g j) : va_P D cl (ws.set i (a, .inl (cA, n, .inr (.inr (.inr (.inr g)))))) H := by
  intro k q hk
  by_cases c : i = k
  · subst c
    have hl := (List.getElem?_eq_some_iff.mp he).1
    rw [List.getElem?_set_self hl] at hk
    cases hk
    have h1 : H[a]? = some (vp_cell cA (n, .inr (.inr (.inr (.inr f))))) := hP i _ he
    show H[a]? = some (vp_cell cA (n, .inr (.inr (.inr (.inr g)))))
    rw [h1, vp_cell_q, vp_cell_q]
    unfold arrV
    congr 3
    funext j
    show va_rf (f j.val) = va_rf (g j.val)
    rw [hfg j.val j.isLt]
  · rw [List.getElem?_set_ne c] at hk
    exact hP k q hk
abbrev eI (cI : ClassId) (n : Nat) : va_E := .inl (cI, n, .inl (fun _ => 0))
abbrev eC (cI : ClassId) : va_E := .inl (cI, 16, .inl (upd (fun _ => 0) (i3 1).toNatClampNeg (i3 50)))
abbrev eQ (cQ : ClassId) (f : Nat → Option Nat) : va_E := .inl (cQ, 8, .inr (.inr (.inr (.inr f))))
abbrev wWall (cI : ClassId) (a : Nat) (u : Nat → Nat) : va_W := [(a, .inr (3, [.ref (u 0), .ref (u 1), .ref (u 2), .ref (u 3), .ref (u 4), .ref (u 5)])), (u 0, eI cI 32), (u 1, eI cI 32), (u 2, eI cI 32), (u 3, eI cI 33), (u 4, eI cI 33), (u 5, eC cI)]
abbrev wText (cI : ClassId) (a : Nat) (u : Nat → Nat) : va_W := [(a, .inr (0, [.ref (u 0), .int 0, .ref (u 1), .int 0, .int 0, .int 0])), (u 0, eI cI 60), (u 1, eI cI 40)]
abbrev wLine (cI : ClassId) (a : Nat) (u : Nat → Nat) : va_W := [(a, .inr (1, [.ref (u 0), .int 0])), (u 0, eI cI 39)]
abbrev wPast (cI cQ : ClassId) (a : Nat) (u : Nat → Nat) : va_W := [(a, .inr (2, [.ref (u 0), .int 0, .int 0])), (u 0, eQ cQ (fun j => some (u (1 + 7 * j)))), (u 1, .inr (3, [.ref (u 2), .ref (u 3), .ref (u 4), .ref (u 5), .ref (u 6), .ref (u 7)])), (u 2, eI cI 32), (u 3, eI cI 32), (u 4, eI cI 32), (u 5, eI cI 33), (u 6, eI cI 33), (u 7, eC cI), (u 8, .inr (3, [.ref (u 9), .ref (u 10), .ref (u 11), .ref (u 12), .ref (u 13), .ref (u 14)])), (u 9, eI cI 32), (u 10, eI cI 32), (u 11, eI cI 32), (u 12, eI cI 33), (u 13, eI cI 33), (u 14, eC cI), (u 15, .inr (3, [.ref (u 16), .ref (u 17), .ref (u 18), .ref (u 19), .ref (u 20), .ref (u 21)])), (u 16, eI cI 32), (u 17, eI cI 32), (u 18, eI cI 32), (u 19, eI cI 33), (u 20, eI cI 33), (u 21, eC cI), (u 22, .inr (3, [.ref (u 23), .ref (u 24), .ref (u 25), .ref (u 26), .ref (u 27), .ref (u 28)])), (u 23, eI cI 32), (u 24, eI cI 32), (u 25, eI cI 32), (u 26, eI cI 33), (u 27, eI cI 33), (u 28, eC cI), (u 29, .inr (3, [.ref (u 30), .ref (u 31), .ref (u 32), .ref (u 33), .ref (u 34), .ref (u 35)])), (u 30, eI cI 32), (u 31, eI cI 32), (u 32, eI cI 32), (u 33, eI cI 33), (u 34, eI cI 33), (u 35, eC cI), (u 36, .inr (3, [.ref (u 37), .ref (u 38), .ref (u 39), .ref (u 40), .ref (u 41), .ref (u 42)])), (u 37, eI cI 32), (u 38, eI cI 32), (u 39, eI cI 32), (u 40, eI cI 33), (u 41, eI cI 33), (u 42, eC cI), (u 43, .inr (3, [.ref (u 44), .ref (u 45), .ref (u 46), .ref (u 47), .ref (u 48), .ref (u 49)])), (u 44, eI cI 32), (u 45, eI cI 32), (u 46, eI cI 32), (u 47, eI cI 33), (u 48, eI cI 33), (u 49, eC cI), (u 50, .inr (3, [.ref (u 51), .ref (u 52), .ref (u 53), .ref (u 54), .ref (u 55), .ref (u 56)])), (u 51, eI cI 32), (u 52, eI cI 32), (u 53, eI cI 32), (u 54, eI cI 33), (u 55, eI cI 33), (u 56, eC cI)]
abbrev wGran (cI cQ : ClassId) (a : Nat) (u : Nat → Nat) : va_W := [(a, .inr (4, [.ref (u 0), .ref (u 7), .ref (u 14), .int 0, .ref (u 21), .ref (u 79), .ref (u 82), .int 0, .int 0, .ref (u 84)])), (u 0, .inr (3, [.ref (u 1), .ref (u 2), .ref (u 3), .ref (u 4), .ref (u 5), .ref (u 6)])), (u 1, eI cI 32), (u 2, eI cI 32), (u 3, eI cI 32), (u 4, eI cI 33), (u 5, eI cI 33), (u 6, eC cI), (u 7, .inr (3, [.ref (u 8), .ref (u 9), .ref (u 10), .ref (u 11), .ref (u 12), .ref (u 13)])), (u 8, eI cI 32), (u 9, eI cI 32), (u 10, eI cI 32), (u 11, eI cI 33), (u 12, eI cI 33), (u 13, eC cI), (u 14, .inr (3, [.ref (u 15), .ref (u 16), .ref (u 17), .ref (u 18), .ref (u 19), .ref (u 20)])), (u 15, eI cI 32), (u 16, eI cI 32), (u 17, eI cI 32), (u 18, eI cI 33), (u 19, eI cI 33), (u 20, eC cI), (u 21, .inr (2, [.ref (u 22), .int 0, .int 0])), (u 22, eQ cQ (fun j => some (u (23 + 7 * j)))), (u 23, .inr (3, [.ref (u 24), .ref (u 25), .ref (u 26), .ref (u 27), .ref (u 28), .ref (u 29)])), (u 24, eI cI 32), (u 25, eI cI 32), (u 26, eI cI 32), (u 27, eI cI 33), (u 28, eI cI 33), (u 29, eC cI), (u 30, .inr (3, [.ref (u 31), .ref (u 32), .ref (u 33), .ref (u 34), .ref (u 35), .ref (u 36)])), (u 31, eI cI 32), (u 32, eI cI 32), (u 33, eI cI 32), (u 34, eI cI 33), (u 35, eI cI 33), (u 36, eC cI), (u 37, .inr (3, [.ref (u 38), .ref (u 39), .ref (u 40), .ref (u 41), .ref (u 42), .ref (u 43)])), (u 38, eI cI 32), (u 39, eI cI 32), (u 40, eI cI 32), (u 41, eI cI 33), (u 42, eI cI 33), (u 43, eC cI), (u 44, .inr (3, [.ref (u 45), .ref (u 46), .ref (u 47), .ref (u 48), .ref (u 49), .ref (u 50)])), (u 45, eI cI 32), (u 46, eI cI 32), (u 47, eI cI 32), (u 48, eI cI 33), (u 49, eI cI 33), (u 50, eC cI), (u 51, .inr (3, [.ref (u 52), .ref (u 53), .ref (u 54), .ref (u 55), .ref (u 56), .ref (u 57)])), (u 52, eI cI 32), (u 53, eI cI 32), (u 54, eI cI 32), (u 55, eI cI 33), (u 56, eI cI 33), (u 57, eC cI), (u 58, .inr (3, [.ref (u 59), .ref (u 60), .ref (u 61), .ref (u 62), .ref (u 63), .ref (u 64)])), (u 59, eI cI 32), (u 60, eI cI 32), (u 61, eI cI 32), (u 62, eI cI 33), (u 63, eI cI 33), (u 64, eC cI), (u 65, .inr (3, [.ref (u 66), .ref (u 67), .ref (u 68), .ref (u 69), .ref (u 70), .ref (u 71)])), (u 66, eI cI 32), (u 67, eI cI 32), (u 68, eI cI 32), (u 69, eI cI 33), (u 70, eI cI 33), (u 71, eC cI), (u 72, .inr (3, [.ref (u 73), .ref (u 74), .ref (u 75), .ref (u 76), .ref (u 77), .ref (u 78)])), (u 73, eI cI 32), (u 74, eI cI 32), (u 75, eI cI 32), (u 76, eI cI 33), (u 77, eI cI 33), (u 78, eC cI), (u 79, .inr (0, [.ref (u 80), .int 0, .ref (u 81), .int 0, .int 0, .int 0])), (u 80, eI cI 60), (u 81, eI cI 40), (u 82, .inr (1, [.ref (u 83), .int 0])), (u 83, eI cI 39), (u 84, eI cI 33)]
theorem dfX0 : ∀ j, j < 6 → defaultValue (tyX0 j) = vp_V [.null, .int 0, .null, .int 0, .int 0, .int 0] j := by
  intro j hj
  rcases (show j = 0 ∨ j = 1 ∨ j = 2 ∨ j = 3 ∨ j = 4 ∨ j = 5 by omega) with rfl | rfl | rfl | rfl | rfl | rfl <;> rfl
theorem dfX1 : ∀ j, j < 2 → defaultValue (tyX1 j) = vp_V [.null, .int 0] j := by
  intro j hj
  rcases (show j = 0 ∨ j = 1 by omega) with rfl | rfl <;> rfl
theorem dfX2 : ∀ j, j < 3 → defaultValue (tyX2 j) = vp_V [.null, .int 0, .int 0] j := by
  intro j hj
  rcases (show j = 0 ∨ j = 1 ∨ j = 2 by omega) with rfl | rfl | rfl <;> rfl
theorem dfX3 : ∀ j, j < 6 → defaultValue (tyX3 j) = vp_V [.null, .null, .null, .null, .null, .null] j := by
  intro j hj
  rcases (show j = 0 ∨ j = 1 ∨ j = 2 ∨ j = 3 ∨ j = 4 ∨ j = 5 by omega) with rfl | rfl | rfl | rfl | rfl | rfl <;> rfl
theorem dfX4 : ∀ j, j < 10 → defaultValue (tyX4 j) = vp_V [.null, .null, .null, .int 0, .null, .null, .null, .int 0, .int 0, .null] j := by
  intro j hj
  rcases (show j = 0 ∨ j = 1 ∨ j = 2 ∨ j = 3 ∨ j = 4 ∨ j = 5 ∨ j = 6 ∨ j = 7 ∨ j = 8 ∨ j = 9 by omega) with rfl | rfl | rfl | rfl | rfl | rfl | rfl | rfl | rfl | rfl <;> rfl
set_option maxHeartbeats 8000000 in
set_option maxRecDepth 100000 in
theorem cnewX3 (l : Launch) (D : va_G) (cI : ClassId) (h0 sz : Nat) : Met l yX3_init (wb yX3_init cX3_init 1 none) ({ frames := 1, cells := 6, slots := 178, locals := 12 } : Room) (va_Pc [.ref h0] (fun U => U.heap.size = sz ∧ va_P D vwCl [(h0, .inr (3, [.null, .null, .null, .null, .null, .null]))] U.heap ∧ va_K D vwCl [(cI, .int)] U ∧ va_D (fun _ => True) [(h0, .inr (3, [.null, .null, .null, .null, .null, .null]))])) (va_Qv (fun _ : Nat → Nat => True) (fun (u : Nat → Nat) t => va_P D vwCl (wWall cI h0 u) t.heap ∧ va_K D vwCl [(cI, .int)] t ∧ va_D (va_A [(h0, .inr (3, [.null, .null, .null, .null, .null, .null]))] sz) (wWall cI h0 u)) (va_A [(h0, .inr (3, [.null, .null, .null, .null, .null, .null]))] sz)) 6 178 (va_A [(h0, .inr (3, [.null, .null, .null, .null, .null, .null]))] sz) := by
  refine Met.ofW (cc := cX3_init) (maxL := 1) (ret := none) (by decide) rfl ?_
  intro p e s m args below meth c s₁ B hml hv
  obtain ⟨rfl, hsz, hP, hK, hD0⟩ := hv
  have hx := B.exec
  have hb := B.bytes
  have hr := B.returns
  have hts := atoms_spec (ws := wb yX3_init cX3_init 1 none) B.pre
  have hown : s.vm.findClass RX3 = some m.cls := findClass_of_methodNamed B.named
  have hlocks := B.notSynchronized
  have hin : meth.name = "<init>" := (name_of_methodNamed B.named B.method).1
  have hinX3 : ∀ w ∈ u_ws RX3 TX3 6, w ∈ wb yX3_init cX3_init 1 none := fun _ h => List.mem_cons_of_mem _ (inlX3 _ h)
  subst hsz
  have hD := hD0.self (sz := s.heap.size)
  generalize hAe : va_A [(h0, .inr (3, [.null, .null, .null, .null, .null, .null]))] s.heap.size = A at hD ⊢
  have hA : ∀ q : Nat, s.heap.size ≤ q → A q := fun q h => by rw [← hAe]; exact Or.inr h
  have hS : va_S A s.heap s.heap [] := va_S.rf
  have hP : va_P D vwCl [(h0, .inr (3, [.null, .null, .null, .null, .null, .null]))] s.heap := hP
  have hl := lv_entry ([.ref h0]) (n := 1) (Nat.le_of_ble_eq_true rfl)
  rw [lg_entry_eq]
  generalize (lg_sl ([.ref h0]) ++ List.replicate (1 - (lg_sl ([.ref h0])).length) Slot.unset).toArray = ls at hl ⊢
  have hl : lv_has ls 1 [(0, .ref h0)] := hl
  refine lv_aload_n hx hb dX3_init_0 rfl (lv_at hl 0 rfl) ?_
  refine W.objInit hx hb hown (hts _ (List.mem_cons_of_mem _ (inB_2 _ (List.mem_of_getElem? (i := 12) rfl)))) (hts _ (List.mem_cons_of_mem _ (inB_1 _ (List.mem_of_getElem? (i := 8) rfl)))) (hts _ (List.mem_cons_of_mem _ (inB_1 _ (List.mem_of_getElem? (i := 9) rfl)))) rfl (by rw [hml]; exact hl.1) rfl dX3_init_1 (Nat.le_of_ble_eq_true rfl) (Nat.le_of_ble_eq_true rfl) ?_
  refine W.eq (g2 := F0 m 4 ls []) rfl ?_
  refine lv_aload_n hx hb dX3_init_4 rfl (lv_at hl 0 rfl) ?_
  refine k_bipush hx hb dX3_init_5 (by decide +kernel) ?_
  refine k_newi (N := 32) hx hb (hts _ (List.mem_cons_of_mem _ (inB_2 _ (List.mem_of_getElem? (i := 7) rfl)))) hK hP hD hS hA (by decide +kernel) (by decide +kernel) (Nat.le_of_ble_eq_true rfl) (Nat.le_of_ble_eq_true rfl) (Nat.le_of_ble_eq_true rfl) dX3_init_7 (fun q1 H hP hD hS => ?_)
  have hP : va_P D vwCl [(h0, .inr (3, [.null, .null, .null, .null, .null, .null])), (q1, eI cI 32)] H := hP
  have hD : va_D A [(h0, .inr (3, [.null, .null, .null, .null, .null, .null])), (q1, eI cI 32)] := hD
  refine va_putF (D := D) (ci := 3) (v := .ref q1) (ty := .array .int) (C := RX3) (T := TX3) (N := 6) hx hb hts hinX3 tyX3 tyX3_ok nmX3 hown hK hP hD hS 0 rfl rfl 0 (by decide) (hts _ (List.mem_cons_of_mem _ (inB_2 _ (List.mem_of_getElem? (i := 13) rfl)))) (fun _ h9 => h9) rfl hin rfl (by decide +kernel) rfl rfl (Nat.le_of_ble_eq_true rfl) dX3_init_9 (fun H locs hP hD hS => ?_)
  have hP : va_P D vwCl [(h0, .inr (3, [.ref q1, .null, .null, .null, .null, .null])), (q1, eI cI 32)] H := hP
  have hD : va_D A [(h0, .inr (3, [.ref q1, .null, .null, .null, .null, .null])), (q1, eI cI 32)] := hD
  refine lv_aload_n hx hb dX3_init_12 rfl (lv_at hl 0 rfl) ?_
  refine k_bipush hx hb dX3_init_13 (by decide +kernel) ?_
  refine k_newi (N := 32) hx hb (hts _ (List.mem_cons_of_mem _ (inB_2 _ (List.mem_of_getElem? (i := 7) rfl)))) hK hP hD hS hA (by decide +kernel) (by decide +kernel) (Nat.le_of_ble_eq_true rfl) (Nat.le_of_ble_eq_true rfl) (Nat.le_of_ble_eq_true rfl) dX3_init_15 (fun q2 H hP hD hS => ?_)
  have hP : va_P D vwCl [(h0, .inr (3, [.ref q1, .null, .null, .null, .null, .null])), (q1, eI cI 32), (q2, eI cI 32)] H := hP
  have hD : va_D A [(h0, .inr (3, [.ref q1, .null, .null, .null, .null, .null])), (q1, eI cI 32), (q2, eI cI 32)] := hD
  refine va_putF (D := D) (ci := 3) (v := .ref q2) (ty := .array .int) (C := RX3) (T := TX3) (N := 6) hx hb hts hinX3 tyX3 tyX3_ok nmX3 hown hK hP hD hS 0 rfl rfl 1 (by decide) (hts _ (List.mem_cons_of_mem _ (inB_2 _ (List.mem_of_getElem? (i := 14) rfl)))) (fun _ h9 => h9) rfl hin rfl (by decide +kernel) rfl rfl (Nat.le_of_ble_eq_true rfl) dX3_init_17 (fun H locs hP hD hS => ?_)
  have hP : va_P D vwCl [(h0, .inr (3, [.ref q1, .ref q2, .null, .null, .null, .null])), (q1, eI cI 32), (q2, eI cI 32)] H := hP
  have hD : va_D A [(h0, .inr (3, [.ref q1, .ref q2, .null, .null, .null, .null])), (q1, eI cI 32), (q2, eI cI 32)] := hD
  refine lv_aload_n hx hb dX3_init_20 rfl (lv_at hl 0 rfl) ?_
  refine k_bipush hx hb dX3_init_21 (by decide +kernel) ?_
  refine k_newi (N := 32) hx hb (hts _ (List.mem_cons_of_mem _ (inB_2 _ (List.mem_of_getElem? (i := 7) rfl)))) hK hP hD hS hA (by decide +kernel) (by decide +kernel) (Nat.le_of_ble_eq_true rfl) (Nat.le_of_ble_eq_true rfl) (Nat.le_of_ble_eq_true rfl) dX3_init_23 (fun q3 H hP hD hS => ?_)
  have hP : va_P D vwCl [(h0, .inr (3, [.ref q1, .ref q2, .null, .null, .null, .null])), (q1, eI cI 32), (q2, eI cI 32), (q3, eI cI 32)] H := hP
  have hD : va_D A [(h0, .inr (3, [.ref q1, .ref q2, .null, .null, .null, .null])), (q1, eI cI 32), (q2, eI cI 32), (q3, eI cI 32)] := hD
  refine va_putF (D := D) (ci := 3) (v := .ref q3) (ty := .array .int) (C := RX3) (T := TX3) (N := 6) hx hb hts hinX3 tyX3 tyX3_ok nmX3 hown hK hP hD hS 0 rfl rfl 2 (by decide) (hts _ (List.mem_cons_of_mem _ (inB_2 _ (List.mem_of_getElem? (i := 15) rfl)))) (fun _ h9 => h9) rfl hin rfl (by decide +kernel) rfl rfl (Nat.le_of_ble_eq_true rfl) dX3_init_25 (fun H locs hP hD hS => ?_)
  have hP : va_P D vwCl [(h0, .inr (3, [.ref q1, .ref q2, .ref q3, .null, .null, .null])), (q1, eI cI 32), (q2, eI cI 32), (q3, eI cI 32)] H := hP
  have hD : va_D A [(h0, .inr (3, [.ref q1, .ref q2, .ref q3, .null, .null, .null])), (q1, eI cI 32), (q2, eI cI 32), (q3, eI cI 32)] := hD
  refine lv_aload_n hx hb dX3_init_28 rfl (lv_at hl 0 rfl) ?_
  refine k_bipush hx hb dX3_init_29 (by decide +kernel) ?_
  refine k_newi (N := 33) hx hb (hts _ (List.mem_cons_of_mem _ (inB_2 _ (List.mem_of_getElem? (i := 7) rfl)))) hK hP hD hS hA (by decide +kernel) (by decide +kernel) (Nat.le_of_ble_eq_true rfl) (Nat.le_of_ble_eq_true rfl) (Nat.le_of_ble_eq_true rfl) dX3_init_31 (fun q4 H hP hD hS => ?_)
  have hP : va_P D vwCl [(h0, .inr (3, [.ref q1, .ref q2, .ref q3, .null, .null, .null])), (q1, eI cI 32), (q2, eI cI 32), (q3, eI cI 32), (q4, eI cI 33)] H := hP
  have hD : va_D A [(h0, .inr (3, [.ref q1, .ref q2, .ref q3, .null, .null, .null])), (q1, eI cI 32), (q2, eI cI 32), (q3, eI cI 32), (q4, eI cI 33)] := hD
  refine va_putF (D := D) (ci := 3) (v := .ref q4) (ty := .array .int) (C := RX3) (T := TX3) (N := 6) hx hb hts hinX3 tyX3 tyX3_ok nmX3 hown hK hP hD hS 0 rfl rfl 3 (by decide) (hts _ (List.mem_cons_of_mem _ (inB_2 _ (List.mem_of_getElem? (i := 16) rfl)))) (fun _ h9 => h9) rfl hin rfl (by decide +kernel) rfl rfl (Nat.le_of_ble_eq_true rfl) dX3_init_33 (fun H locs hP hD hS => ?_)
  have hP : va_P D vwCl [(h0, .inr (3, [.ref q1, .ref q2, .ref q3, .ref q4, .null, .null])), (q1, eI cI 32), (q2, eI cI 32), (q3, eI cI 32), (q4, eI cI 33)] H := hP
  have hD : va_D A [(h0, .inr (3, [.ref q1, .ref q2, .ref q3, .ref q4, .null, .null])), (q1, eI cI 32), (q2, eI cI 32), (q3, eI cI 32), (q4, eI cI 33)] := hD
  refine lv_aload_n hx hb dX3_init_36 rfl (lv_at hl 0 rfl) ?_
  refine k_bipush hx hb dX3_init_37 (by decide +kernel) ?_
  refine k_newi (N := 33) hx hb (hts _ (List.mem_cons_of_mem _ (inB_2 _ (List.mem_of_getElem? (i := 7) rfl)))) hK hP hD hS hA (by decide +kernel) (by decide +kernel) (Nat.le_of_ble_eq_true rfl) (Nat.le_of_ble_eq_true rfl) (Nat.le_of_ble_eq_true rfl) dX3_init_39 (fun q5 H hP hD hS => ?_)
  have hP : va_P D vwCl [(h0, .inr (3, [.ref q1, .ref q2, .ref q3, .ref q4, .null, .null])), (q1, eI cI 32), (q2, eI cI 32), (q3, eI cI 32), (q4, eI cI 33), (q5, eI cI 33)] H := hP
  have hD : va_D A [(h0, .inr (3, [.ref q1, .ref q2, .ref q3, .ref q4, .null, .null])), (q1, eI cI 32), (q2, eI cI 32), (q3, eI cI 32), (q4, eI cI 33), (q5, eI cI 33)] := hD
  refine va_putF (D := D) (ci := 3) (v := .ref q5) (ty := .array .int) (C := RX3) (T := TX3) (N := 6) hx hb hts hinX3 tyX3 tyX3_ok nmX3 hown hK hP hD hS 0 rfl rfl 4 (by decide) (hts _ (List.mem_cons_of_mem _ (inB_2 _ (List.mem_of_getElem? (i := 17) rfl)))) (fun _ h9 => h9) rfl hin rfl (by decide +kernel) rfl rfl (Nat.le_of_ble_eq_true rfl) dX3_init_41 (fun H locs hP hD hS => ?_)
  have hP : va_P D vwCl [(h0, .inr (3, [.ref q1, .ref q2, .ref q3, .ref q4, .ref q5, .null])), (q1, eI cI 32), (q2, eI cI 32), (q3, eI cI 32), (q4, eI cI 33), (q5, eI cI 33)] H := hP
  have hD : va_D A [(h0, .inr (3, [.ref q1, .ref q2, .ref q3, .ref q4, .ref q5, .null])), (q1, eI cI 32), (q2, eI cI 32), (q3, eI cI 32), (q4, eI cI 33), (q5, eI cI 33)] := hD
  refine lv_aload_n hx hb dX3_init_44 rfl (lv_at hl 0 rfl) ?_
  refine k_bipush hx hb dX3_init_45 (by decide +kernel) ?_
  refine k_newi (N := 16) hx hb (hts _ (List.mem_cons_of_mem _ (inB_2 _ (List.mem_of_getElem? (i := 7) rfl)))) hK hP hD hS hA (by decide +kernel) (by decide +kernel) (Nat.le_of_ble_eq_true rfl) (Nat.le_of_ble_eq_true rfl) (Nat.le_of_ble_eq_true rfl) dX3_init_47 (fun q6 H hP hD hS => ?_)
  have hP : va_P D vwCl [(h0, .inr (3, [.ref q1, .ref q2, .ref q3, .ref q4, .ref q5, .null])), (q1, eI cI 32), (q2, eI cI 32), (q3, eI cI 32), (q4, eI cI 33), (q5, eI cI 33), (q6, eI cI 16)] H := hP
  have hD : va_D A [(h0, .inr (3, [.ref q1, .ref q2, .ref q3, .ref q4, .ref q5, .null])), (q1, eI cI 32), (q2, eI cI 32), (q3, eI cI 32), (q4, eI cI 33), (q5, eI cI 33), (q6, eI cI 16)] := hD
  refine va_putF (D := D) (ci := 3) (v := .ref q6) (ty := .array .int) (C := RX3) (T := TX3) (N := 6) hx hb hts hinX3 tyX3 tyX3_ok nmX3 hown hK hP hD hS 0 rfl rfl 5 (by decide) (hts _ (List.mem_cons_of_mem _ (inB_2 _ (List.mem_of_getElem? (i := 18) rfl)))) (fun _ h9 => h9) rfl hin rfl (by decide +kernel) rfl rfl (Nat.le_of_ble_eq_true rfl) dX3_init_49 (fun H locs hP hD hS => ?_)
  have hP : va_P D vwCl [(h0, .inr (3, [.ref q1, .ref q2, .ref q3, .ref q4, .ref q5, .ref q6])), (q1, eI cI 32), (q2, eI cI 32), (q3, eI cI 32), (q4, eI cI 33), (q5, eI cI 33), (q6, eI cI 16)] H := hP
  have hD : va_D A [(h0, .inr (3, [.ref q1, .ref q2, .ref q3, .ref q4, .ref q5, .ref q6])), (q1, eI cI 32), (q2, eI cI 32), (q3, eI cI 32), (q4, eI cI 33), (q5, eI cI 33), (q6, eI cI 16)] := hD
  refine k_const hx hb dX3_init_52 ?_
  refine lv_aload_n hx hb dX3_init_53 rfl (lv_at hl 0 rfl) ?_
  refine va_get (D := D) (ci := 3) (v := .ref q6) (C := RX3) (T := TX3) (N := 6) hx hb hts hinX3 hown hK hP 0 rfl rfl 5 (by decide) (hts _ (List.mem_cons_of_mem _ (inB_2 _ (List.mem_of_getElem? (i := 18) rfl)))) (fun _ h9 => h9) rfl dX3_init_54 ?_
  refine va_alen hx hb hK hP 6 0 rfl rfl (i3_nat 16) dX3_init_57 ?_
  refine k_icmp_ge (tgt := 69) hx hb (by decide) (by decide) dX3_init_58 (by decide) (fun h9 => absurd (show ((1 : Int) < 16) by decide) h9) (fun _ => ?_)
  refine lv_aload_n hx hb dX3_init_61 rfl (lv_at hl 0 rfl) ?_
  refine va_get (D := D) (ci := 3) (v := .ref q6) (C := RX3) (T := TX3) (N := 6) hx hb hts hinX3 hown hK hP 0 rfl rfl 5 (by decide) (hts _ (List.mem_cons_of_mem _ (inB_2 _ (List.mem_of_getElem? (i := 18) rfl)))) (fun _ h9 => h9) rfl dX3_init_62 ?_
  refine k_const hx hb dX3_init_65 ?_
  refine k_bipush hx hb dX3_init_66 (by decide +kernel) ?_
  refine va_iast hx hb hK hP hD hS 6 0 rfl rfl (i3_in (by decide) (by decide) (by decide)) dX3_init_68 (fun H locs hP hD hS => ?_)
  have hP : va_P D vwCl [(h0, .inr (3, [.ref q1, .ref q2, .ref q3, .ref q4, .ref q5, .ref q6])), (q1, eI cI 32), (q2, eI cI 32), (q3, eI cI 32), (q4, eI cI 33), (q5, eI cI 33), (q6, eC cI)] H := hP
  have hD : va_D A [(h0, .inr (3, [.ref q1, .ref q2, .ref q3, .ref q4, .ref q5, .ref q6])), (q1, eI cI 32), (q2, eI cI 32), (q3, eI cI 32), (q4, eI cI 33), (q5, eI cI 33), (q6, eC cI)] := hD
  refine W.widen (k := 6) (n := 178) (Nat.le_of_ble_eq_true rfl) (Nat.le_of_ble_eq_true rfl) ?_
  obtain ⟨u, hu⟩ : ∃ u : Nat → Nat, u = fun j => ([q1, q2, q3, q4, q5, q6] : List Nat).getD j 0 := ⟨_, rfl⟩
  have hP9 : va_P D vwCl (wWall cI h0 u) H := by subst hu; exact hP
  have hD9 : va_D A (wWall cI h0 u) := by subst hu; exact hD
  exact W.vret hx hb hr (fun t ht hW => ⟨⟨u, rfl, trivial, (by rw [ht]; exact hP9), va_K.moved hW.alike hK, hD9⟩, hS.F ht⟩) hS.2.2 dX3_init_69
set_option maxHeartbeats 8000000 in
set_option maxRecDepth 100000 in
theorem cnewX0 (l : Launch) (D : va_G) (cI : ClassId) (h0 sz : Nat) : Met l yX0_init (wb yX0_init cX0_init 1 none) ({ frames := 1, cells := 2, slots := 100, locals := 12 } : Room) (va_Pc [.ref h0] (fun U => U.heap.size = sz ∧ va_P D vwCl [(h0, .inr (0, [.null, .int 0, .null, .int 0, .int 0, .int 0]))] U.heap ∧ va_K D vwCl [(cI, .int)] U ∧ va_D (fun _ => True) [(h0, .inr (0, [.null, .int 0, .null, .int 0, .int 0, .int 0]))])) (va_Qv (fun _ : Nat → Nat => True) (fun (u : Nat → Nat) t => va_P D vwCl (wText cI h0 u) t.heap ∧ va_K D vwCl [(cI, .int)] t ∧ va_D (va_A [(h0, .inr (0, [.null, .int 0, .null, .int 0, .int 0, .int 0]))] sz) (wText cI h0 u)) (va_A [(h0, .inr (0, [.null, .int 0, .null, .int 0, .int 0, .int 0]))] sz)) 2 100 (va_A [(h0, .inr (0, [.null, .int 0, .null, .int 0, .int 0, .int 0]))] sz) := by
  refine Met.ofW (cc := cX0_init) (maxL := 1) (ret := none) (by decide) rfl ?_
  intro p e s m args below meth c s₁ B hml hv
  obtain ⟨rfl, hsz, hP, hK, hD0⟩ := hv
  have hx := B.exec
  have hb := B.bytes
  have hr := B.returns
  have hts := atoms_spec (ws := wb yX0_init cX0_init 1 none) B.pre
  have hown : s.vm.findClass RX0 = some m.cls := findClass_of_methodNamed B.named
  have hlocks := B.notSynchronized
  have hin : meth.name = "<init>" := (name_of_methodNamed B.named B.method).1
  have hinX0 : ∀ w ∈ u_ws RX0 TX0 6, w ∈ wb yX0_init cX0_init 1 none := fun _ h => List.mem_cons_of_mem _ (inlX0 _ h)
  subst hsz
  have hD := hD0.self (sz := s.heap.size)
  generalize hAe : va_A [(h0, .inr (0, [.null, .int 0, .null, .int 0, .int 0, .int 0]))] s.heap.size = A at hD ⊢
  have hA : ∀ q : Nat, s.heap.size ≤ q → A q := fun q h => by rw [← hAe]; exact Or.inr h
  have hS : va_S A s.heap s.heap [] := va_S.rf
  have hP : va_P D vwCl [(h0, .inr (0, [.null, .int 0, .null, .int 0, .int 0, .int 0]))] s.heap := hP
  have hl := lv_entry ([.ref h0]) (n := 1) (Nat.le_of_ble_eq_true rfl)
  rw [lg_entry_eq]
  generalize (lg_sl ([.ref h0]) ++ List.replicate (1 - (lg_sl ([.ref h0])).length) Slot.unset).toArray = ls at hl ⊢
  have hl : lv_has ls 1 [(0, .ref h0)] := hl
  refine lv_aload_n hx hb dX0_init_0 rfl (lv_at hl 0 rfl) ?_
  refine W.objInit hx hb hown (hts _ (List.mem_cons_of_mem _ (inB_3 _ (List.mem_of_getElem? (i := 6) rfl)))) (hts _ (List.mem_cons_of_mem _ (inB_1 _ (List.mem_of_getElem? (i := 8) rfl)))) (hts _ (List.mem_cons_of_mem _ (inB_1 _ (List.mem_of_getElem? (i := 9) rfl)))) rfl (by rw [hml]; exact hl.1) rfl dX0_init_1 (Nat.le_of_ble_eq_true rfl) (Nat.le_of_ble_eq_true rfl) ?_
  refine W.eq (g2 := F0 m 4 ls []) rfl ?_
  refine lv_aload_n hx hb dX0_init_4 rfl (lv_at hl 0 rfl) ?_
  refine k_bipush hx hb dX0_init_5 (by decide +kernel) ?_
  refine k_newi (N := 60) hx hb (hts _ (List.mem_cons_of_mem _ (inB_2 _ (List.mem_of_getElem? (i := 7) rfl)))) hK hP hD hS hA (by decide +kernel) (by decide +kernel) (Nat.le_of_ble_eq_true rfl) (Nat.le_of_ble_eq_true rfl) (Nat.le_of_ble_eq_true rfl) dX0_init_7 (fun q1 H hP hD hS => ?_)
  have hP : va_P D vwCl [(h0, .inr (0, [.null, .int 0, .null, .int 0, .int 0, .int 0])), (q1, eI cI 60)] H := hP
  have hD : va_D A [(h0, .inr (0, [.null, .int 0, .null, .int 0, .int 0, .int 0])), (q1, eI cI 60)] := hD
  refine va_putF (D := D) (ci := 0) (v := .ref q1) (ty := .array .int) (C := RX0) (T := TX0) (N := 6) hx hb hts hinX0 tyX0 tyX0_ok nmX0 hown hK hP hD hS 0 rfl rfl 0 (by decide) (hts _ (List.mem_cons_of_mem _ (inB_3 _ (List.mem_of_getElem? (i := 7) rfl)))) (fun _ h9 => h9) rfl hin rfl (by decide +kernel) rfl rfl (Nat.le_of_ble_eq_true rfl) dX0_init_9 (fun H locs hP hD hS => ?_)
  have hP : va_P D vwCl [(h0, .inr (0, [.ref q1, .int 0, .null, .int 0, .int 0, .int 0])), (q1, eI cI 60)] H := hP
  have hD : va_D A [(h0, .inr (0, [.ref q1, .int 0, .null, .int 0, .int 0, .int 0])), (q1, eI cI 60)] := hD
  refine lv_aload_n hx hb dX0_init_12 rfl (lv_at hl 0 rfl) ?_
  refine k_const hx hb dX0_init_13 ?_
  refine va_put (D := D) (ci := 0) (v := .int (i3 (0))) (ty := .int) (C := RX0) (T := TX0) (N := 6) hx hb hts hinX0 tyX0 tyX0_ok nmX0 hown hK hP hD hS 0 rfl rfl 1 (by decide) (hts _ (List.mem_cons_of_mem _ (inB_3 _ (List.mem_of_getElem? (i := 8) rfl)))) (fun _ h9 => h9) rfl (by decide +kernel) (by decide +kernel) (by decide +kernel) (Nat.le_of_ble_eq_true rfl) dX0_init_14 (fun H locs hP hD hS => ?_)
  have hP : va_P D vwCl [(h0, .inr (0, [.ref q1, .int 0, .null, .int 0, .int 0, .int 0])), (q1, eI cI 60)] H := hP
  have hD : va_D A [(h0, .inr (0, [.ref q1, .int 0, .null, .int 0, .int 0, .int 0])), (q1, eI cI 60)] := hD
  refine lv_aload_n hx hb dX0_init_17 rfl (lv_at hl 0 rfl) ?_
  refine k_bipush hx hb dX0_init_18 (by decide +kernel) ?_
  refine k_newi (N := 40) hx hb (hts _ (List.mem_cons_of_mem _ (inB_2 _ (List.mem_of_getElem? (i := 7) rfl)))) hK hP hD hS hA (by decide +kernel) (by decide +kernel) (Nat.le_of_ble_eq_true rfl) (Nat.le_of_ble_eq_true rfl) (Nat.le_of_ble_eq_true rfl) dX0_init_20 (fun q2 H hP hD hS => ?_)
  have hP : va_P D vwCl [(h0, .inr (0, [.ref q1, .int 0, .null, .int 0, .int 0, .int 0])), (q1, eI cI 60), (q2, eI cI 40)] H := hP
  have hD : va_D A [(h0, .inr (0, [.ref q1, .int 0, .null, .int 0, .int 0, .int 0])), (q1, eI cI 60), (q2, eI cI 40)] := hD
  refine va_putF (D := D) (ci := 0) (v := .ref q2) (ty := .array .int) (C := RX0) (T := TX0) (N := 6) hx hb hts hinX0 tyX0 tyX0_ok nmX0 hown hK hP hD hS 0 rfl rfl 2 (by decide) (hts _ (List.mem_cons_of_mem _ (inB_3 _ (List.mem_of_getElem? (i := 9) rfl)))) (fun _ h9 => h9) rfl hin rfl (by decide +kernel) rfl rfl (Nat.le_of_ble_eq_true rfl) dX0_init_22 (fun H locs hP hD hS => ?_)
  have hP : va_P D vwCl [(h0, .inr (0, [.ref q1, .int 0, .ref q2, .int 0, .int 0, .int 0])), (q1, eI cI 60), (q2, eI cI 40)] H := hP
  have hD : va_D A [(h0, .inr (0, [.ref q1, .int 0, .ref q2, .int 0, .int 0, .int 0])), (q1, eI cI 60), (q2, eI cI 40)] := hD
  refine lv_aload_n hx hb dX0_init_25 rfl (lv_at hl 0 rfl) ?_
  refine k_const hx hb dX0_init_26 ?_
  refine va_put (D := D) (ci := 0) (v := .int (i3 (0))) (ty := .int) (C := RX0) (T := TX0) (N := 6) hx hb hts hinX0 tyX0 tyX0_ok nmX0 hown hK hP hD hS 0 rfl rfl 3 (by decide) (hts _ (List.mem_cons_of_mem _ (inB_3 _ (List.mem_of_getElem? (i := 10) rfl)))) (fun _ h9 => h9) rfl (by decide +kernel) (by decide +kernel) (by decide +kernel) (Nat.le_of_ble_eq_true rfl) dX0_init_27 (fun H locs hP hD hS => ?_)
  have hP : va_P D vwCl [(h0, .inr (0, [.ref q1, .int 0, .ref q2, .int 0, .int 0, .int 0])), (q1, eI cI 60), (q2, eI cI 40)] H := hP
  have hD : va_D A [(h0, .inr (0, [.ref q1, .int 0, .ref q2, .int 0, .int 0, .int 0])), (q1, eI cI 60), (q2, eI cI 40)] := hD
  refine lv_aload_n hx hb dX0_init_30 rfl (lv_at hl 0 rfl) ?_
  refine k_const hx hb dX0_init_31 ?_
  refine va_put (D := D) (ci := 0) (v := .int (i3 (0))) (ty := .int) (C := RX0) (T := TX0) (N := 6) hx hb hts hinX0 tyX0 tyX0_ok nmX0 hown hK hP hD hS 0 rfl rfl 4 (by decide) (hts _ (List.mem_cons_of_mem _ (inB_3 _ (List.mem_of_getElem? (i := 11) rfl)))) (fun _ h9 => h9) rfl (by decide +kernel) (by decide +kernel) (by decide +kernel) (Nat.le_of_ble_eq_true rfl) dX0_init_32 (fun H locs hP hD hS => ?_)
  have hP : va_P D vwCl [(h0, .inr (0, [.ref q1, .int 0, .ref q2, .int 0, .int 0, .int 0])), (q1, eI cI 60), (q2, eI cI 40)] H := hP
  have hD : va_D A [(h0, .inr (0, [.ref q1, .int 0, .ref q2, .int 0, .int 0, .int 0])), (q1, eI cI 60), (q2, eI cI 40)] := hD
  refine lv_aload_n hx hb dX0_init_35 rfl (lv_at hl 0 rfl) ?_
  refine k_const hx hb dX0_init_36 ?_
  refine va_put (D := D) (ci := 0) (v := .int (i3 (0))) (ty := .int) (C := RX0) (T := TX0) (N := 6) hx hb hts hinX0 tyX0 tyX0_ok nmX0 hown hK hP hD hS 0 rfl rfl 5 (by decide) (hts _ (List.mem_cons_of_mem _ (inB_3 _ (List.mem_of_getElem? (i := 12) rfl)))) (fun _ h9 => h9) rfl (by decide +kernel) (by decide +kernel) (by decide +kernel) (Nat.le_of_ble_eq_true rfl) dX0_init_37 (fun H locs hP hD hS => ?_)
  have hP : va_P D vwCl [(h0, .inr (0, [.ref q1, .int 0, .ref q2, .int 0, .int 0, .int 0])), (q1, eI cI 60), (q2, eI cI 40)] H := hP
  have hD : va_D A [(h0, .inr (0, [.ref q1, .int 0, .ref q2, .int 0, .int 0, .int 0])), (q1, eI cI 60), (q2, eI cI 40)] := hD
  refine W.widen (k := 2) (n := 100) (Nat.le_of_ble_eq_true rfl) (Nat.le_of_ble_eq_true rfl) ?_
  obtain ⟨u, hu⟩ : ∃ u : Nat → Nat, u = fun j => ([q1, q2] : List Nat).getD j 0 := ⟨_, rfl⟩
  have hP9 : va_P D vwCl (wText cI h0 u) H := by subst hu; exact hP
  have hD9 : va_D A (wText cI h0 u) := by subst hu; exact hD
  exact W.vret hx hb hr (fun t ht hW => ⟨⟨u, rfl, trivial, (by rw [ht]; exact hP9), va_K.moved hW.alike hK, hD9⟩, hS.F ht⟩) hS.2.2 dX0_init_40
set_option maxHeartbeats 8000000 in
set_option maxRecDepth 100000 in
theorem cnewX1 (l : Launch) (D : va_G) (cI : ClassId) (h0 sz : Nat) : Met l yX1_init (wb yX1_init cX1_init 1 none) ({ frames := 1, cells := 1, slots := 39, locals := 12 } : Room) (va_Pc [.ref h0] (fun U => U.heap.size = sz ∧ va_P D vwCl [(h0, .inr (1, [.null, .int 0]))] U.heap ∧ va_K D vwCl [(cI, .int)] U ∧ va_D (fun _ => True) [(h0, .inr (1, [.null, .int 0]))])) (va_Qv (fun _ : Nat → Nat => True) (fun (u : Nat → Nat) t => va_P D vwCl (wLine cI h0 u) t.heap ∧ va_K D vwCl [(cI, .int)] t ∧ va_D (va_A [(h0, .inr (1, [.null, .int 0]))] sz) (wLine cI h0 u)) (va_A [(h0, .inr (1, [.null, .int 0]))] sz)) 1 39 (va_A [(h0, .inr (1, [.null, .int 0]))] sz) := by
  refine Met.ofW (cc := cX1_init) (maxL := 1) (ret := none) (by decide) rfl ?_
  intro p e s m args below meth c s₁ B hml hv
  obtain ⟨rfl, hsz, hP, hK, hD0⟩ := hv
  have hx := B.exec
  have hb := B.bytes
  have hr := B.returns
  have hts := atoms_spec (ws := wb yX1_init cX1_init 1 none) B.pre
  have hown : s.vm.findClass RX1 = some m.cls := findClass_of_methodNamed B.named
  have hlocks := B.notSynchronized
  have hin : meth.name = "<init>" := (name_of_methodNamed B.named B.method).1
  have hinX1 : ∀ w ∈ u_ws RX1 TX1 2, w ∈ wb yX1_init cX1_init 1 none := fun _ h => List.mem_cons_of_mem _ (inlX1 _ h)
  subst hsz
  have hD := hD0.self (sz := s.heap.size)
  generalize hAe : va_A [(h0, .inr (1, [.null, .int 0]))] s.heap.size = A at hD ⊢
  have hA : ∀ q : Nat, s.heap.size ≤ q → A q := fun q h => by rw [← hAe]; exact Or.inr h
  have hS : va_S A s.heap s.heap [] := va_S.rf
  have hP : va_P D vwCl [(h0, .inr (1, [.null, .int 0]))] s.heap := hP
  have hl := lv_entry ([.ref h0]) (n := 1) (Nat.le_of_ble_eq_true rfl)
  rw [lg_entry_eq]
  generalize (lg_sl ([.ref h0]) ++ List.replicate (1 - (lg_sl ([.ref h0])).length) Slot.unset).toArray = ls at hl ⊢
  have hl : lv_has ls 1 [(0, .ref h0)] := hl
  refine lv_aload_n hx hb dX1_init_0 rfl (lv_at hl 0 rfl) ?_
  refine W.objInit hx hb hown (hts _ (List.mem_cons_of_mem _ (inB_3 _ (List.mem_of_getElem? (i := 15) rfl)))) (hts _ (List.mem_cons_of_mem _ (inB_1 _ (List.mem_of_getElem? (i := 8) rfl)))) (hts _ (List.mem_cons_of_mem _ (inB_1 _ (List.mem_of_getElem? (i := 9) rfl)))) rfl (by rw [hml]; exact hl.1) rfl dX1_init_1 (Nat.le_of_ble_eq_true rfl) (Nat.le_of_ble_eq_true rfl) ?_
  refine W.eq (g2 := F0 m 4 ls []) rfl ?_
  refine lv_aload_n hx hb dX1_init_4 rfl (lv_at hl 0 rfl) ?_
  refine k_bipush hx hb dX1_init_5 (by decide +kernel) ?_
  refine k_newi (N := 39) hx hb (hts _ (List.mem_cons_of_mem _ (inB_2 _ (List.mem_of_getElem? (i := 7) rfl)))) hK hP hD hS hA (by decide +kernel) (by decide +kernel) (Nat.le_of_ble_eq_true rfl) (Nat.le_of_ble_eq_true rfl) (Nat.le_of_ble_eq_true rfl) dX1_init_7 (fun q1 H hP hD hS => ?_)
  have hP : va_P D vwCl [(h0, .inr (1, [.null, .int 0])), (q1, eI cI 39)] H := hP
  have hD : va_D A [(h0, .inr (1, [.null, .int 0])), (q1, eI cI 39)] := hD
  refine va_putF (D := D) (ci := 1) (v := .ref q1) (ty := .array .int) (C := RX1) (T := TX1) (N := 2) hx hb hts hinX1 tyX1 tyX1_ok nmX1 hown hK hP hD hS 0 rfl rfl 0 (by decide) (hts _ (List.mem_cons_of_mem _ (inB_3 _ (List.mem_of_getElem? (i := 16) rfl)))) (fun _ h9 => h9) rfl hin rfl (by decide +kernel) rfl rfl (Nat.le_of_ble_eq_true rfl) dX1_init_9 (fun H locs hP hD hS => ?_)
  have hP : va_P D vwCl [(h0, .inr (1, [.ref q1, .int 0])), (q1, eI cI 39)] H := hP
  have hD : va_D A [(h0, .inr (1, [.ref q1, .int 0])), (q1, eI cI 39)] := hD
  refine lv_aload_n hx hb dX1_init_12 rfl (lv_at hl 0 rfl) ?_
  refine k_const hx hb dX1_init_13 ?_
  refine va_put (D := D) (ci := 1) (v := .int (i3 (0))) (ty := .int) (C := RX1) (T := TX1) (N := 2) hx hb hts hinX1 tyX1 tyX1_ok nmX1 hown hK hP hD hS 0 rfl rfl 1 (by decide) (hts _ (List.mem_cons_of_mem _ (inB_3 _ (List.mem_of_getElem? (i := 17) rfl)))) (fun _ h9 => h9) rfl (by decide +kernel) (by decide +kernel) (by decide +kernel) (Nat.le_of_ble_eq_true rfl) dX1_init_14 (fun H locs hP hD hS => ?_)
  have hP : va_P D vwCl [(h0, .inr (1, [.ref q1, .int 0])), (q1, eI cI 39)] H := hP
  have hD : va_D A [(h0, .inr (1, [.ref q1, .int 0])), (q1, eI cI 39)] := hD
  refine W.widen (k := 1) (n := 39) (Nat.le_of_ble_eq_true rfl) (Nat.le_of_ble_eq_true rfl) ?_
  obtain ⟨u, hu⟩ : ∃ u : Nat → Nat, u = fun j => ([q1] : List Nat).getD j 0 := ⟨_, rfl⟩
  have hP9 : va_P D vwCl (wLine cI h0 u) H := by subst hu; exact hP
  have hD9 : va_D A (wLine cI h0 u) := by subst hu; exact hD
  exact W.vret hx hb hr (fun t ht hW => ⟨⟨u, rfl, trivial, (by rw [ht]; exact hP9), va_K.moved hW.alike hK, hD9⟩, hS.F ht⟩) hS.2.2 dX1_init_17
