set_option maxHeartbeats 4000000 in
set_option maxRecDepth 100000 in
theorem mW_copyFrom (l : Launch) (G : gG) (M0 : MemG) (k : Nat) (hk : k < 11) (k2 : Nat) (hk2 : k2 < 11) (r : MemG) (hf : fW_copyFrom M0 k k2 = some r) : Met l yX3_copyFrom (wb yX3_copyFrom cX3_copyFrom 2 none) ({ frames := 1, cells := 0, slots := 0, locals := 22 } : Room) (PcG G M0 [.ref (gA G (5 + k)), .ref (gA G (5 + k2))]) (QcV G r) 0 0 (PA G) := by
  refine Met.ofW (cc := cX3_copyFrom) (maxL := 2) (ret := none) (by decide) rfl ?_
  intro p e s m args below meth c s₁ B hml hv0
  obtain ⟨hav, hW⟩ := hv0
  have hx := B.exec
  have hb := B.bytes
  have hr := B.returns
  have hts := atoms_spec (ws := (wb yX3_copyFrom cX3_copyFrom 2 none)) B.pre
  have hown : s.vm.findClass RX3 = some m.cls := findClass_of_methodNamed B.named
  have hlocks := B.notSynchronized
  have hinX3 : ∀ w ∈ u_ws RX3 TX3 6, w ∈ (wb yX3_copyFrom cX3_copyFrom 2 none) := fun _ h => List.mem_cons_of_mem _ (inlX3 _ h)
  have hW : Wd G M0 s s.heap := hW
  have hS : va_S (PA G) s.heap s.heap [] := va_S.rf
  have hl := lv_entry [.ref (gA G (5 + k)), .ref (gA G (5 + k2))] (n := 2) (Nat.le_of_ble_eq_true rfl)
  have hent := lg_entry_eq m [.ref (gA G (5 + k)), .ref (gA G (5 + k2))] 2
  rw [← hav] at hent
  rw [hent]
  clear hent
  generalize (lg_sl [.ref (gA G (5 + k)), .ref (gA G (5 + k2))] ++ List.replicate (2 - (lg_sl [.ref (gA G (5 + k)), .ref (gA G (5 + k2))]).length) Slot.unset).toArray = ls at hl ⊢
  have hl : lv_has ls 2 [(0, .ref (gA G (5 + k))), (1, .ref (gA G (5 + k2)))] := hl
  unfold fW_copyFrom at hf
  show W p l e ({ frames := 1, cells := 0, slots := 0, locals := 22 } : Room) s m args below meth c s.heap [] 0 0 (MQ below (QcV G r) args s 0 0 (PA G)) (F0 m 0 ls [])
  refine lv_aload_n hx hb dX3_copyFrom_0 rfl (lv_at hl 1 rfl) ?_
  refine va_get (D := G.1) (ci := 3) (v := .ref (gA G (16 + 6 * k2))) (C := RX3) (T := TX3) (N := 6) hx hb hts hinX3 hown hW.K hW.P (5 + k2) (he_wall hk2 G M0) rfl 0 (by decide) (hts _ (List.mem_cons_of_mem _ (inB_2 _ (List.mem_of_getElem? (i := 13) rfl)))) (fun _ h9 => h9) rfl dX3_copyFrom_1 ?_
  refine lv_aload_n hx hb dX3_copyFrom_4 rfl (lv_at hl 0 rfl) ?_
  refine va_get (D := G.1) (ci := 3) (v := .ref (gA G (16 + 6 * k))) (C := RX3) (T := TX3) (N := 6) hx hb hts hinX3 hown hW.K hW.P (5 + k) (he_wall hk G M0) rfl 0 (by decide) (hts _ (List.mem_cons_of_mem _ (inB_2 _ (List.mem_of_getElem? (i := 13) rfl)))) (fun _ h9 => h9) rfl dX3_copyFrom_5 ?_
  obtain ⟨m1, hm1, hf⟩ := bind_el hf
  refine k_cNv (As := [.ref (gA G (16 + 6 * k2)), .ref (gA G (16 + 6 * k))]) (rest := []) ⟨hx, hb, hml, hown, hts⟩ (mG_copyRow l G M0 (16 + 6 * k2) (by omega) (16 + 6 * k) (by omega) m1 hm1) ⟨va_cnB 2 hts (gbC (inB_4 _ (List.mem_of_getElem? (i := 3) rfl))) rfl rfl rfl (hW.N _ (List.mem_of_getElem? (i := 0) rfl)) (hts _ (List.mem_cons_of_mem _ (inB_1 _ (List.mem_of_getElem? (i := 2) rfl)))) (by decide +kernel) ⟨Nat.le_of_ble_eq_true rfl, Nat.le_of_ble_eq_true rfl⟩, (hts _ (List.mem_cons_of_mem _ (inB_4 _ (List.mem_of_getElem? (i := 2) rfl)))), trivial⟩ hW hS rfl hl.1 rfl (lv_room (Nat.le_of_ble_eq_true rfl)) dX3_copyFrom_8 ⟨Nat.zero_le _, Nat.zero_le _⟩ (fun H locs hW hS => ?_)
  refine lv_aload_n hx hb dX3_copyFrom_11 rfl (lv_at hl 1 rfl) ?_
  refine va_get (D := G.1) (ci := 3) (v := .ref (gA G (16 + 6 * k2 + 1))) (C := RX3) (T := TX3) (N := 6) hx hb hts hinX3 hown hW.K hW.P (5 + k2) (he_wall hk2 G m1) rfl 1 (by decide) (hts _ (List.mem_cons_of_mem _ (inB_2 _ (List.mem_of_getElem? (i := 14) rfl)))) (fun _ h9 => h9) rfl dX3_copyFrom_12 ?_
  refine lv_aload_n hx hb dX3_copyFrom_15 rfl (lv_at hl 0 rfl) ?_
  refine va_get (D := G.1) (ci := 3) (v := .ref (gA G (16 + 6 * k + 1))) (C := RX3) (T := TX3) (N := 6) hx hb hts hinX3 hown hW.K hW.P (5 + k) (he_wall hk G m1) rfl 1 (by decide) (hts _ (List.mem_cons_of_mem _ (inB_2 _ (List.mem_of_getElem? (i := 14) rfl)))) (fun _ h9 => h9) rfl dX3_copyFrom_16 ?_
  obtain ⟨m3, hm3, hf⟩ := bind_el hf
  refine k_cNv (As := [.ref (gA G (16 + 6 * k2 + 1)), .ref (gA G (16 + 6 * k + 1))]) (rest := []) ⟨hx, hb, hml, hown, hts⟩ (mG_copyRow l G m1 (16 + 6 * k2 + 1) (by omega) (16 + 6 * k + 1) (by omega) m3 hm3) ⟨va_cnB 2 hts (gbC (inB_4 _ (List.mem_of_getElem? (i := 3) rfl))) rfl rfl rfl (hW.N _ (List.mem_of_getElem? (i := 0) rfl)) (hts _ (List.mem_cons_of_mem _ (inB_1 _ (List.mem_of_getElem? (i := 2) rfl)))) (by decide +kernel) ⟨Nat.le_of_ble_eq_true rfl, Nat.le_of_ble_eq_true rfl⟩, (hts _ (List.mem_cons_of_mem _ (inB_4 _ (List.mem_of_getElem? (i := 2) rfl)))), trivial⟩ hW hS rfl hl.1 rfl (lv_room (Nat.le_of_ble_eq_true rfl)) dX3_copyFrom_19 ⟨Nat.zero_le _, Nat.zero_le _⟩ (fun H locs hW hS => ?_)
  refine lv_aload_n hx hb dX3_copyFrom_22 rfl (lv_at hl 1 rfl) ?_
  refine va_get (D := G.1) (ci := 3) (v := .ref (gA G (16 + 6 * k2 + 2))) (C := RX3) (T := TX3) (N := 6) hx hb hts hinX3 hown hW.K hW.P (5 + k2) (he_wall hk2 G m3) rfl 2 (by decide) (hts _ (List.mem_cons_of_mem _ (inB_2 _ (List.mem_of_getElem? (i := 15) rfl)))) (fun _ h9 => h9) rfl dX3_copyFrom_23 ?_
  refine lv_aload_n hx hb dX3_copyFrom_26 rfl (lv_at hl 0 rfl) ?_
  refine va_get (D := G.1) (ci := 3) (v := .ref (gA G (16 + 6 * k + 2))) (C := RX3) (T := TX3) (N := 6) hx hb hts hinX3 hown hW.K hW.P (5 + k) (he_wall hk G m3) rfl 2 (by decide) (hts _ (List.mem_cons_of_mem _ (inB_2 _ (List.mem_of_getElem? (i := 15) rfl)))) (fun _ h9 => h9) rfl dX3_copyFrom_27 ?_
  obtain ⟨m5, hm5, hf⟩ := bind_el hf
  refine k_cNv (As := [.ref (gA G (16 + 6 * k2 + 2)), .ref (gA G (16 + 6 * k + 2))]) (rest := []) ⟨hx, hb, hml, hown, hts⟩ (mG_copyRow l G m3 (16 + 6 * k2 + 2) (by omega) (16 + 6 * k + 2) (by omega) m5 hm5) ⟨va_cnB 2 hts (gbC (inB_4 _ (List.mem_of_getElem? (i := 3) rfl))) rfl rfl rfl (hW.N _ (List.mem_of_getElem? (i := 0) rfl)) (hts _ (List.mem_cons_of_mem _ (inB_1 _ (List.mem_of_getElem? (i := 2) rfl)))) (by decide +kernel) ⟨Nat.le_of_ble_eq_true rfl, Nat.le_of_ble_eq_true rfl⟩, (hts _ (List.mem_cons_of_mem _ (inB_4 _ (List.mem_of_getElem? (i := 2) rfl)))), trivial⟩ hW hS rfl hl.1 rfl (lv_room (Nat.le_of_ble_eq_true rfl)) dX3_copyFrom_30 ⟨Nat.zero_le _, Nat.zero_le _⟩ (fun H locs hW hS => ?_)
  refine lv_aload_n hx hb dX3_copyFrom_33 rfl (lv_at hl 1 rfl) ?_
  refine va_get (D := G.1) (ci := 3) (v := .ref (gA G (16 + 6 * k2 + 3))) (C := RX3) (T := TX3) (N := 6) hx hb hts hinX3 hown hW.K hW.P (5 + k2) (he_wall hk2 G m5) rfl 3 (by decide) (hts _ (List.mem_cons_of_mem _ (inB_2 _ (List.mem_of_getElem? (i := 16) rfl)))) (fun _ h9 => h9) rfl dX3_copyFrom_34 ?_
  refine lv_aload_n hx hb dX3_copyFrom_37 rfl (lv_at hl 0 rfl) ?_
  refine va_get (D := G.1) (ci := 3) (v := .ref (gA G (16 + 6 * k + 3))) (C := RX3) (T := TX3) (N := 6) hx hb hts hinX3 hown hW.K hW.P (5 + k) (he_wall hk G m5) rfl 3 (by decide) (hts _ (List.mem_cons_of_mem _ (inB_2 _ (List.mem_of_getElem? (i := 16) rfl)))) (fun _ h9 => h9) rfl dX3_copyFrom_38 ?_
  obtain ⟨m7, hm7, hf⟩ := bind_el hf
  refine k_cNv (As := [.ref (gA G (16 + 6 * k2 + 3)), .ref (gA G (16 + 6 * k + 3))]) (rest := []) ⟨hx, hb, hml, hown, hts⟩ (mG_copyRow l G m5 (16 + 6 * k2 + 3) (by omega) (16 + 6 * k + 3) (by omega) m7 hm7) ⟨va_cnB 2 hts (gbC (inB_4 _ (List.mem_of_getElem? (i := 3) rfl))) rfl rfl rfl (hW.N _ (List.mem_of_getElem? (i := 0) rfl)) (hts _ (List.mem_cons_of_mem _ (inB_1 _ (List.mem_of_getElem? (i := 2) rfl)))) (by decide +kernel) ⟨Nat.le_of_ble_eq_true rfl, Nat.le_of_ble_eq_true rfl⟩, (hts _ (List.mem_cons_of_mem _ (inB_4 _ (List.mem_of_getElem? (i := 2) rfl)))), trivial⟩ hW hS rfl hl.1 rfl (lv_room (Nat.le_of_ble_eq_true rfl)) dX3_copyFrom_41 ⟨Nat.zero_le _, Nat.zero_le _⟩ (fun H locs hW hS => ?_)
  refine lv_aload_n hx hb dX3_copyFrom_44 rfl (lv_at hl 1 rfl) ?_
  refine va_get (D := G.1) (ci := 3) (v := .ref (gA G (16 + 6 * k2 + 4))) (C := RX3) (T := TX3) (N := 6) hx hb hts hinX3 hown hW.K hW.P (5 + k2) (he_wall hk2 G m7) rfl 4 (by decide) (hts _ (List.mem_cons_of_mem _ (inB_2 _ (List.mem_of_getElem? (i := 17) rfl)))) (fun _ h9 => h9) rfl dX3_copyFrom_45 ?_
  refine lv_aload_n hx hb dX3_copyFrom_48 rfl (lv_at hl 0 rfl) ?_
  refine va_get (D := G.1) (ci := 3) (v := .ref (gA G (16 + 6 * k + 4))) (C := RX3) (T := TX3) (N := 6) hx hb hts hinX3 hown hW.K hW.P (5 + k) (he_wall hk G m7) rfl 4 (by decide) (hts _ (List.mem_cons_of_mem _ (inB_2 _ (List.mem_of_getElem? (i := 17) rfl)))) (fun _ h9 => h9) rfl dX3_copyFrom_49 ?_
  obtain ⟨m9, hm9, hf⟩ := bind_el hf
  refine k_cNv (As := [.ref (gA G (16 + 6 * k2 + 4)), .ref (gA G (16 + 6 * k + 4))]) (rest := []) ⟨hx, hb, hml, hown, hts⟩ (mG_copyRow l G m7 (16 + 6 * k2 + 4) (by omega) (16 + 6 * k + 4) (by omega) m9 hm9) ⟨va_cnB 2 hts (gbC (inB_4 _ (List.mem_of_getElem? (i := 3) rfl))) rfl rfl rfl (hW.N _ (List.mem_of_getElem? (i := 0) rfl)) (hts _ (List.mem_cons_of_mem _ (inB_1 _ (List.mem_of_getElem? (i := 2) rfl)))) (by decide +kernel) ⟨Nat.le_of_ble_eq_true rfl, Nat.le_of_ble_eq_true rfl⟩, (hts _ (List.mem_cons_of_mem _ (inB_4 _ (List.mem_of_getElem? (i := 2) rfl)))), trivial⟩ hW hS rfl hl.1 rfl (lv_room (Nat.le_of_ble_eq_true rfl)) dX3_copyFrom_52 ⟨Nat.zero_le _, Nat.zero_le _⟩ (fun H locs hW hS => ?_)
  refine lv_aload_n hx hb dX3_copyFrom_55 rfl (lv_at hl 1 rfl) ?_
  refine va_get (D := G.1) (ci := 3) (v := .ref (gA G (16 + 6 * k2 + 5))) (C := RX3) (T := TX3) (N := 6) hx hb hts hinX3 hown hW.K hW.P (5 + k2) (he_wall hk2 G m9) rfl 5 (by decide) (hts _ (List.mem_cons_of_mem _ (inB_2 _ (List.mem_of_getElem? (i := 18) rfl)))) (fun _ h9 => h9) rfl dX3_copyFrom_56 ?_
  refine lv_aload_n hx hb dX3_copyFrom_59 rfl (lv_at hl 0 rfl) ?_
  refine va_get (D := G.1) (ci := 3) (v := .ref (gA G (16 + 6 * k + 5))) (C := RX3) (T := TX3) (N := 6) hx hb hts hinX3 hown hW.K hW.P (5 + k) (he_wall hk G m9) rfl 5 (by decide) (hts _ (List.mem_cons_of_mem _ (inB_2 _ (List.mem_of_getElem? (i := 18) rfl)))) (fun _ h9 => h9) rfl dX3_copyFrom_60 ?_
  obtain ⟨m11, hm11, hf⟩ := bind_el hf
  refine k_cNv (As := [.ref (gA G (16 + 6 * k2 + 5)), .ref (gA G (16 + 6 * k + 5))]) (rest := []) ⟨hx, hb, hml, hown, hts⟩ (mG_copyRow l G m9 (16 + 6 * k2 + 5) (by omega) (16 + 6 * k + 5) (by omega) m11 hm11) ⟨va_cnB 2 hts (gbC (inB_4 _ (List.mem_of_getElem? (i := 3) rfl))) rfl rfl rfl (hW.N _ (List.mem_of_getElem? (i := 0) rfl)) (hts _ (List.mem_cons_of_mem _ (inB_1 _ (List.mem_of_getElem? (i := 2) rfl)))) (by decide +kernel) ⟨Nat.le_of_ble_eq_true rfl, Nat.le_of_ble_eq_true rfl⟩, (hts _ (List.mem_cons_of_mem _ (inB_4 _ (List.mem_of_getElem? (i := 2) rfl)))), trivial⟩ hW hS rfl hl.1 rfl (lv_room (Nat.le_of_ble_eq_true rfl)) dX3_copyFrom_63 ⟨Nat.zero_le _, Nat.zero_le _⟩ (fun H locs hW hS => ?_)
  obtain rfl := some_el hf
  exact k_retv hx hb hr hlocks hW hS rfl dX3_copyFrom_66
set_option maxHeartbeats 4000000 in
set_option maxRecDepth 100000 in
theorem mW_count (l : Launch) (G : gG) (M0 : MemG) (k : Nat) (hk : k < 11) (x1 : Int) (hx1 : inR x1) (x2 : Int) (hx2 : inR x2) (r : MemG) (hf : fW_count M0 k x1 x2 = some r) : Met l yX3_count (wb yX3_count cX3_count 3 none) ({ frames := 1, cells := 0, slots := 0, locals := 22 } : Room) (PcG G M0 [.ref (gA G (5 + k)), .int (i3 (x1)), .int (i3 (x2))]) (QcV G r) 0 0 (PA G) := by
  refine Met.ofW (cc := cX3_count) (maxL := 3) (ret := none) (by decide) rfl ?_
  intro p e s m args below meth c s₁ B hml hv0
  obtain ⟨hav, hW⟩ := hv0
  have hx := B.exec
  have hb := B.bytes
  have hr := B.returns
  have hts := atoms_spec (ws := (wb yX3_count cX3_count 3 none)) B.pre
  have hown : s.vm.findClass RX3 = some m.cls := findClass_of_methodNamed B.named
  have hlocks := B.notSynchronized
  have hinX3 : ∀ w ∈ u_ws RX3 TX3 6, w ∈ (wb yX3_count cX3_count 3 none) := fun _ h => List.mem_cons_of_mem _ (inlX3 _ h)
  have hW : Wd G M0 s s.heap := hW
  have hS : va_S (PA G) s.heap s.heap [] := va_S.rf
  have hl := lv_entry [.ref (gA G (5 + k)), .int (i3 (x1)), .int (i3 (x2))] (n := 3) (Nat.le_of_ble_eq_true rfl)
  have hent := lg_entry_eq m [.ref (gA G (5 + k)), .int (i3 (x1)), .int (i3 (x2))] 3
  rw [← hav] at hent
  rw [hent]
  clear hent
  generalize (lg_sl [.ref (gA G (5 + k)), .int (i3 (x1)), .int (i3 (x2))] ++ List.replicate (3 - (lg_sl [.ref (gA G (5 + k)), .int (i3 (x1)), .int (i3 (x2))]).length) Slot.unset).toArray = ls at hl ⊢
  have hl : lv_has ls 3 [(0, .ref (gA G (5 + k))), (1, .int (i3 (x1))), (2, .int (i3 (x2)))] := hl
  unfold fW_count at hf
  show W p l e ({ frames := 1, cells := 0, slots := 0, locals := 22 } : Room) s m args below meth c s.heap [] 0 0 (MQ below (QcV G r) args s 0 0 (PA G)) (F0 m 0 ls [])
  refine lv_aload_n hx hb dX3_count_0 rfl (lv_at hl 0 rfl) ?_
  refine va_get (D := G.1) (ci := 3) (v := .ref (gA G (16 + 6 * k + 5))) (C := RX3) (T := TX3) (N := 6) hx hb hts hinX3 hown hW.K hW.P (5 + k) (he_wall hk G M0) rfl 5 (by decide) (hts _ (List.mem_cons_of_mem _ (inB_2 _ (List.mem_of_getElem? (i := 18) rfl)))) (fun _ h9 => h9) rfl dX3_count_1 ?_
  refine lv_iload_n hx hb dX3_count_4 rfl (lv_at hl 1 rfl) ?_
  refine lv_aload_n hx hb dX3_count_5 rfl (lv_at hl 0 rfl) ?_
  refine va_get (D := G.1) (ci := 3) (v := .ref (gA G (16 + 6 * k + 5))) (C := RX3) (T := TX3) (N := 6) hx hb hts hinX3 hown hW.K hW.P (5 + k) (he_wall hk G M0) rfl 5 (by decide) (hts _ (List.mem_cons_of_mem _ (inB_2 _ (List.mem_of_getElem? (i := 18) rfl)))) (fun _ h9 => h9) rfl dX3_count_6 ?_
  refine lv_iload_n hx hb dX3_count_9 rfl (lv_at hl 1 rfl) ?_
  refine k_cNi (As := [.ref (gA G (16 + 6 * k + 5)), .int (i3 (x1))]) (rest := [.int (i3 (x1)), .ref (gA G (16 + 6 * k + 5))]) ⟨hx, hb, hml, hown, hts⟩ (mG_at l G M0 (16 + 6 * k + 5) (by omega) x1 hx1 _ rfl) ⟨va_cnB 2 hts (gbC (inB_5 _ (List.mem_of_getElem? (i := 2) rfl))) rfl rfl rfl (hW.N _ (List.mem_of_getElem? (i := 1) rfl)) (hts _ (List.mem_cons_of_mem _ (inB_1 _ (List.mem_of_getElem? (i := 2) rfl)))) (by decide +kernel) ⟨Nat.le_of_ble_eq_true rfl, Nat.le_of_ble_eq_true rfl⟩, (hts _ (List.mem_cons_of_mem _ (inB_5 _ (List.mem_of_getElem? (i := 1) rfl)))), trivial⟩ hW hS rfl hl.1 rfl (lv_room (Nat.le_of_ble_eq_true rfl)) dX3_count_10 ⟨Nat.zero_le _, Nat.zero_le _⟩ (fun hv1 H locs hW hS => ?_)
  refine lv_iload_n hx hb dX3_count_13 rfl (lv_at hl 2 rfl) ?_
  refine k_add hx hb dX3_count_14 ?_
  obtain ⟨hg2, hf⟩ := gd_el hf
  obtain ⟨m3, hm3, hf⟩ := bind_el hf
  refine k_cNv (As := [.ref (gA G (16 + 6 * k + 5)), .int (i3 (x1)), .int (i3 (((fG_at M0 (16 + 6 * k + 5) x1)) + x2))]) (rest := []) ⟨hx, hb, hml, hown, hts⟩ (mG_put l G M0 (16 + 6 * k + 5) (by omega) x1 hx1 (((fG_at M0 (16 + 6 * k + 5) x1)) + x2) hg2 m3 hm3) ⟨va_cnB 3 hts (gbC (inB_6 _ (List.mem_of_getElem? (i := 0) rfl))) rfl rfl rfl (hW.N _ (List.mem_of_getElem? (i := 2) rfl)) (hts _ (List.mem_cons_of_mem _ (inB_1 _ (List.mem_of_getElem? (i := 2) rfl)))) (by decide +kernel) ⟨Nat.le_of_ble_eq_true rfl, Nat.le_of_ble_eq_true rfl⟩, (hts _ (List.mem_cons_of_mem _ (inB_5 _ (List.mem_of_getElem? (i := 23) rfl)))), trivial⟩ hW hS rfl hl.1 rfl (lv_room (Nat.le_of_ble_eq_true rfl)) dX3_count_15 ⟨Nat.zero_le _, Nat.zero_le _⟩ (fun H locs hW hS => ?_)
  obtain rfl := some_el hf
  exact k_retv hx hb hr hlocks hW hS rfl dX3_count_18
set_option maxHeartbeats 4000000 in
set_option maxRecDepth 100000 in
theorem mW_counted (l : Launch) (G : gG) (M0 : MemG) (k : Nat) (hk : k < 11) (x1 : Int) (hx1 : inR x1) (r : Int) (hf : fW_counted M0 k x1 = r) : Met l yX3_counted (wb yX3_counted cX3_counted 2 (some .int)) ({ frames := 1, cells := 0, slots := 0, locals := 21 } : Room) (PcG G M0 [.ref (gA G (5 + k)), .int (i3 (x1))]) (QcI G M0 r) 0 0 (PA G) := by
  refine Met.ofW (cc := cX3_counted) (maxL := 2) (ret := (some .int)) (by decide) rfl ?_
  intro p e s m args below meth c s₁ B hml hv0
  obtain ⟨hav, hW⟩ := hv0
  have hx := B.exec
  have hb := B.bytes
  have hr := B.returns
  have hts := atoms_spec (ws := (wb yX3_counted cX3_counted 2 (some .int))) B.pre
  have hown : s.vm.findClass RX3 = some m.cls := findClass_of_methodNamed B.named
  have hlocks := B.notSynchronized
  have hinX3 : ∀ w ∈ u_ws RX3 TX3 6, w ∈ (wb yX3_counted cX3_counted 2 (some .int)) := fun _ h => List.mem_cons_of_mem _ (inlX3 _ h)
  have hW : Wd G M0 s s.heap := hW
  have hS : va_S (PA G) s.heap s.heap [] := va_S.rf
  have hl := lv_entry [.ref (gA G (5 + k)), .int (i3 (x1))] (n := 2) (Nat.le_of_ble_eq_true rfl)
  have hent := lg_entry_eq m [.ref (gA G (5 + k)), .int (i3 (x1))] 2
  rw [← hav] at hent
  rw [hent]
  clear hent
  generalize (lg_sl [.ref (gA G (5 + k)), .int (i3 (x1))] ++ List.replicate (2 - (lg_sl [.ref (gA G (5 + k)), .int (i3 (x1))]).length) Slot.unset).toArray = ls at hl ⊢
  have hl : lv_has ls 2 [(0, .ref (gA G (5 + k))), (1, .int (i3 (x1)))] := hl
  unfold fW_counted at hf
  show W p l e ({ frames := 1, cells := 0, slots := 0, locals := 21 } : Room) s m args below meth c s.heap [] 0 0 (MQ below (QcI G M0 r) args s 0 0 (PA G)) (F0 m 0 ls [])
  refine lv_aload_n hx hb dX3_counted_0 rfl (lv_at hl 0 rfl) ?_
  refine va_get (D := G.1) (ci := 3) (v := .ref (gA G (16 + 6 * k + 5))) (C := RX3) (T := TX3) (N := 6) hx hb hts hinX3 hown hW.K hW.P (5 + k) (he_wall hk G M0) rfl 5 (by decide) (hts _ (List.mem_cons_of_mem _ (inB_2 _ (List.mem_of_getElem? (i := 18) rfl)))) (fun _ h9 => h9) rfl dX3_counted_1 ?_
  refine lv_iload_n hx hb dX3_counted_4 rfl (lv_at hl 1 rfl) ?_
  refine k_cNi (As := [.ref (gA G (16 + 6 * k + 5)), .int (i3 (x1))]) (rest := []) ⟨hx, hb, hml, hown, hts⟩ (mG_at l G M0 (16 + 6 * k + 5) (by omega) x1 hx1 _ rfl) ⟨va_cnB 2 hts (gbC (inB_5 _ (List.mem_of_getElem? (i := 2) rfl))) rfl rfl rfl (hW.N _ (List.mem_of_getElem? (i := 1) rfl)) (hts _ (List.mem_cons_of_mem _ (inB_1 _ (List.mem_of_getElem? (i := 2) rfl)))) (by decide +kernel) ⟨Nat.le_of_ble_eq_true rfl, Nat.le_of_ble_eq_true rfl⟩, (hts _ (List.mem_cons_of_mem _ (inB_5 _ (List.mem_of_getElem? (i := 1) rfl)))), trivial⟩ hW hS rfl hl.1 rfl (lv_room (Nat.le_of_ble_eq_true rfl)) dX3_counted_5 ⟨Nat.zero_le _, Nat.zero_le _⟩ (fun hv1 H locs hW hS => ?_)
  subst hf
  exact k_ret hx hb hr hlocks hW hS rfl hv1 dX3_counted_8
set_option maxHeartbeats 4000000 in
set_option maxRecDepth 100000 in
theorem mW_isCracked (l : Launch) (G : gG) (M0 : MemG) (k : Nat) (hk : k < 11) (x1 : Int) (hx1 : inR x1) (r : Int) (hf : fW_isCracked M0 k x1 = r) : Met l yX3_isCracked (wb yX3_isCracked cX3_isCracked 2 (some .boolean)) ({ frames := 1, cells := 0, slots := 0, locals := 21 } : Room) (PcG G M0 [.ref (gA G (5 + k)), .int (i3 (x1))]) (QcZ G M0 r) 0 0 (PA G) := by
  refine Met.ofW (cc := cX3_isCracked) (maxL := 2) (ret := (some .boolean)) (by decide) rfl ?_
  intro p e s m args below meth c s₁ B hml hv0
  obtain ⟨hav, hW⟩ := hv0
  have hx := B.exec
  have hb := B.bytes
  have hr := B.returns
  have hts := atoms_spec (ws := (wb yX3_isCracked cX3_isCracked 2 (some .boolean))) B.pre
  have hown : s.vm.findClass RX3 = some m.cls := findClass_of_methodNamed B.named
  have hlocks := B.notSynchronized
  have hinX3 : ∀ w ∈ u_ws RX3 TX3 6, w ∈ (wb yX3_isCracked cX3_isCracked 2 (some .boolean)) := fun _ h => List.mem_cons_of_mem _ (inlX3 _ h)
  have hW : Wd G M0 s s.heap := hW
  have hS : va_S (PA G) s.heap s.heap [] := va_S.rf
  have hl := lv_entry [.ref (gA G (5 + k)), .int (i3 (x1))] (n := 2) (Nat.le_of_ble_eq_true rfl)
  have hent := lg_entry_eq m [.ref (gA G (5 + k)), .int (i3 (x1))] 2
  rw [← hav] at hent
  rw [hent]
  clear hent
  generalize (lg_sl [.ref (gA G (5 + k)), .int (i3 (x1))] ++ List.replicate (2 - (lg_sl [.ref (gA G (5 + k)), .int (i3 (x1))]).length) Slot.unset).toArray = ls at hl ⊢
  have hl : lv_has ls 2 [(0, .ref (gA G (5 + k))), (1, .int (i3 (x1)))] := hl
  unfold fW_isCracked at hf
  show W p l e ({ frames := 1, cells := 0, slots := 0, locals := 21 } : Room) s m args below meth c s.heap [] 0 0 (MQ below (QcZ G M0 r) args s 0 0 (PA G)) (F0 m 0 ls [])
  refine lv_aload_n hx hb dX3_isCracked_0 rfl (lv_at hl 0 rfl) ?_
  refine va_get (D := G.1) (ci := 3) (v := .ref (gA G (16 + 6 * k + 4))) (C := RX3) (T := TX3) (N := 6) hx hb hts hinX3 hown hW.K hW.P (5 + k) (he_wall hk G M0) rfl 4 (by decide) (hts _ (List.mem_cons_of_mem _ (inB_2 _ (List.mem_of_getElem? (i := 17) rfl)))) (fun _ h9 => h9) rfl dX3_isCracked_1 ?_
  refine lv_iload_n hx hb dX3_isCracked_4 rfl (lv_at hl 1 rfl) ?_
  refine k_cNi (As := [.ref (gA G (16 + 6 * k + 4)), .int (i3 (x1))]) (rest := []) ⟨hx, hb, hml, hown, hts⟩ (mG_at l G M0 (16 + 6 * k + 4) (by omega) x1 hx1 _ rfl) ⟨va_cnB 2 hts (gbC (inB_5 _ (List.mem_of_getElem? (i := 2) rfl))) rfl rfl rfl (hW.N _ (List.mem_of_getElem? (i := 1) rfl)) (hts _ (List.mem_cons_of_mem _ (inB_1 _ (List.mem_of_getElem? (i := 2) rfl)))) (by decide +kernel) ⟨Nat.le_of_ble_eq_true rfl, Nat.le_of_ble_eq_true rfl⟩, (hts _ (List.mem_cons_of_mem _ (inB_5 _ (List.mem_of_getElem? (i := 1) rfl)))), trivial⟩ hW hS rfl hl.1 rfl (lv_room (Nat.le_of_ble_eq_true rfl)) dX3_isCracked_5 ⟨Nat.zero_le _, Nat.zero_le _⟩ (fun hv1 H locs hW hS => ?_)
  refine k_const hx hb dX3_isCracked_8 ?_
  refine k_icmp_ne (tgt := 16) hx hb hv1 (show inR (1) by decide) dX3_isCracked_9 (by decide) (fun hc2 => ?_) (fun hc2 => ?_)
  · rw [if_neg hc2] at hf
    refine k_const hx hb dX3_isCracked_16 ?_
    subst hf
    exact k_retz hx hb hr hlocks hW hS rfl (show (0 : Int) = 0 ∨ (0 : Int) = 1 by decide) dX3_isCracked_17
  · rw [if_pos hc2] at hf
    refine k_const hx hb dX3_isCracked_12 ?_
    refine lv_goto (tgt := 17) hx hb dX3_isCracked_13 (by decide) ?_
    subst hf
    exact k_retz hx hb hr hlocks hW hS rfl (show (1 : Int) = 0 ∨ (1 : Int) = 1 by decide) dX3_isCracked_17
set_option maxHeartbeats 4000000 in
set_option maxRecDepth 100000 in
theorem mW_makeSound (l : Launch) (G : gG) (M0 : MemG) (k : Nat) (hk : k < 11) (x1 : Int) (hx1 : inR x1) (r : MemG) (hf : fW_makeSound M0 k x1 = some r) : Met l yX3_makeSound (wb yX3_makeSound cX3_makeSound 2 none) ({ frames := 1, cells := 0, slots := 0, locals := 22 } : Room) (PcG G M0 [.ref (gA G (5 + k)), .int (i3 (x1))]) (QcV G r) 0 0 (PA G) := by
  refine Met.ofW (cc := cX3_makeSound) (maxL := 2) (ret := none) (by decide) rfl ?_
  intro p e s m args below meth c s₁ B hml hv0
  obtain ⟨hav, hW⟩ := hv0
  have hx := B.exec
  have hb := B.bytes
  have hr := B.returns
  have hts := atoms_spec (ws := (wb yX3_makeSound cX3_makeSound 2 none)) B.pre
  have hown : s.vm.findClass RX3 = some m.cls := findClass_of_methodNamed B.named
  have hlocks := B.notSynchronized
  have hinX3 : ∀ w ∈ u_ws RX3 TX3 6, w ∈ (wb yX3_makeSound cX3_makeSound 2 none) := fun _ h => List.mem_cons_of_mem _ (inlX3 _ h)
  have hW : Wd G M0 s s.heap := hW
  have hS : va_S (PA G) s.heap s.heap [] := va_S.rf
  have hl := lv_entry [.ref (gA G (5 + k)), .int (i3 (x1))] (n := 2) (Nat.le_of_ble_eq_true rfl)
  have hent := lg_entry_eq m [.ref (gA G (5 + k)), .int (i3 (x1))] 2
  rw [← hav] at hent
  rw [hent]
  clear hent
  generalize (lg_sl [.ref (gA G (5 + k)), .int (i3 (x1))] ++ List.replicate (2 - (lg_sl [.ref (gA G (5 + k)), .int (i3 (x1))]).length) Slot.unset).toArray = ls at hl ⊢
  have hl : lv_has ls 2 [(0, .ref (gA G (5 + k))), (1, .int (i3 (x1)))] := hl
  unfold fW_makeSound at hf
  show W p l e ({ frames := 1, cells := 0, slots := 0, locals := 22 } : Room) s m args below meth c s.heap [] 0 0 (MQ below (QcV G r) args s 0 0 (PA G)) (F0 m 0 ls [])
  refine lv_aload_n hx hb dX3_makeSound_0 rfl (lv_at hl 0 rfl) ?_
  refine va_get (D := G.1) (ci := 3) (v := .ref (gA G (16 + 6 * k + 4))) (C := RX3) (T := TX3) (N := 6) hx hb hts hinX3 hown hW.K hW.P (5 + k) (he_wall hk G M0) rfl 4 (by decide) (hts _ (List.mem_cons_of_mem _ (inB_2 _ (List.mem_of_getElem? (i := 17) rfl)))) (fun _ h9 => h9) rfl dX3_makeSound_1 ?_
  refine lv_iload_n hx hb dX3_makeSound_4 rfl (lv_at hl 1 rfl) ?_
  refine k_const hx hb dX3_makeSound_5 ?_
  obtain ⟨m1, hm1, hf⟩ := bind_el hf
  refine k_cNv (As := [.ref (gA G (16 + 6 * k + 4)), .int (i3 (x1)), .int (i3 (0))]) (rest := []) ⟨hx, hb, hml, hown, hts⟩ (mG_put l G M0 (16 + 6 * k + 4) (by omega) x1 hx1 0 (show inR (0) by decide) m1 hm1) ⟨va_cnB 3 hts (gbC (inB_6 _ (List.mem_of_getElem? (i := 0) rfl))) rfl rfl rfl (hW.N _ (List.mem_of_getElem? (i := 2) rfl)) (hts _ (List.mem_cons_of_mem _ (inB_1 _ (List.mem_of_getElem? (i := 2) rfl)))) (by decide +kernel) ⟨Nat.le_of_ble_eq_true rfl, Nat.le_of_ble_eq_true rfl⟩, (hts _ (List.mem_cons_of_mem _ (inB_5 _ (List.mem_of_getElem? (i := 23) rfl)))), trivial⟩ hW hS rfl hl.1 rfl (lv_room (Nat.le_of_ble_eq_true rfl)) dX3_makeSound_6 ⟨Nat.zero_le _, Nat.zero_le _⟩ (fun H locs hW hS => ?_)
  obtain rfl := some_el hf
  exact k_retv hx hb hr hlocks hW hS rfl dX3_makeSound_9
set_option maxHeartbeats 4000000 in
set_option maxRecDepth 100000 in
theorem mW_sumOf (l : Launch) (G : gG) (M0 : MemG) (k : Nat) (hk : k < 11) (x1 : Int) (hx1 : inR x1) (r : Int) (hf : fW_sumOf M0 k x1 = r) : Met l yX3_sumOf (wb yX3_sumOf cX3_sumOf 2 (some .int)) ({ frames := 1, cells := 0, slots := 0, locals := 21 } : Room) (PcG G M0 [.ref (gA G (5 + k)), .int (i3 (x1))]) (QcI G M0 r) 0 0 (PA G) := by
  refine Met.ofW (cc := cX3_sumOf) (maxL := 2) (ret := (some .int)) (by decide) rfl ?_
  intro p e s m args below meth c s₁ B hml hv0
  obtain ⟨hav, hW⟩ := hv0
  have hx := B.exec
  have hb := B.bytes
  have hr := B.returns
  have hts := atoms_spec (ws := (wb yX3_sumOf cX3_sumOf 2 (some .int))) B.pre
  have hown : s.vm.findClass RX3 = some m.cls := findClass_of_methodNamed B.named
  have hlocks := B.notSynchronized
  have hinX3 : ∀ w ∈ u_ws RX3 TX3 6, w ∈ (wb yX3_sumOf cX3_sumOf 2 (some .int)) := fun _ h => List.mem_cons_of_mem _ (inlX3 _ h)
  have hW : Wd G M0 s s.heap := hW
  have hS : va_S (PA G) s.heap s.heap [] := va_S.rf
  have hl := lv_entry [.ref (gA G (5 + k)), .int (i3 (x1))] (n := 2) (Nat.le_of_ble_eq_true rfl)
  have hent := lg_entry_eq m [.ref (gA G (5 + k)), .int (i3 (x1))] 2
  rw [← hav] at hent
  rw [hent]
  clear hent
  generalize (lg_sl [.ref (gA G (5 + k)), .int (i3 (x1))] ++ List.replicate (2 - (lg_sl [.ref (gA G (5 + k)), .int (i3 (x1))]).length) Slot.unset).toArray = ls at hl ⊢
  have hl : lv_has ls 2 [(0, .ref (gA G (5 + k))), (1, .int (i3 (x1)))] := hl
  unfold fW_sumOf at hf
  show W p l e ({ frames := 1, cells := 0, slots := 0, locals := 21 } : Room) s m args below meth c s.heap [] 0 0 (MQ below (QcI G M0 r) args s 0 0 (PA G)) (F0 m 0 ls [])
  refine lv_aload_n hx hb dX3_sumOf_0 rfl (lv_at hl 0 rfl) ?_
  refine va_get (D := G.1) (ci := 3) (v := .ref (gA G (16 + 6 * k + 3))) (C := RX3) (T := TX3) (N := 6) hx hb hts hinX3 hown hW.K hW.P (5 + k) (he_wall hk G M0) rfl 3 (by decide) (hts _ (List.mem_cons_of_mem _ (inB_2 _ (List.mem_of_getElem? (i := 16) rfl)))) (fun _ h9 => h9) rfl dX3_sumOf_1 ?_
  refine lv_iload_n hx hb dX3_sumOf_4 rfl (lv_at hl 1 rfl) ?_
  refine k_cNi (As := [.ref (gA G (16 + 6 * k + 3)), .int (i3 (x1))]) (rest := []) ⟨hx, hb, hml, hown, hts⟩ (mG_at l G M0 (16 + 6 * k + 3) (by omega) x1 hx1 _ rfl) ⟨va_cnB 2 hts (gbC (inB_5 _ (List.mem_of_getElem? (i := 2) rfl))) rfl rfl rfl (hW.N _ (List.mem_of_getElem? (i := 1) rfl)) (hts _ (List.mem_cons_of_mem _ (inB_1 _ (List.mem_of_getElem? (i := 2) rfl)))) (by decide +kernel) ⟨Nat.le_of_ble_eq_true rfl, Nat.le_of_ble_eq_true rfl⟩, (hts _ (List.mem_cons_of_mem _ (inB_5 _ (List.mem_of_getElem? (i := 1) rfl)))), trivial⟩ hW hS rfl hl.1 rfl (lv_room (Nat.le_of_ble_eq_true rfl)) dX3_sumOf_5 ⟨Nat.zero_le _, Nat.zero_le _⟩ (fun hv1 H locs hW hS => ?_)
  subst hf
  exact k_ret hx hb hr hlocks hW hS rfl hv1 dX3_sumOf_8
set_option maxHeartbeats 4000000 in
set_option maxRecDepth 100000 in
theorem mW_ageIn (l : Launch) (G : gG) (M0 : MemG) (k : Nat) (hk : k < 11) (x1 : Int) (hx1 : inR x1) (r : Int) (hf : fW_ageIn M0 k x1 = r) : Met l yX3_ageIn (wb yX3_ageIn cX3_ageIn 2 (some .int)) ({ frames := 1, cells := 0, slots := 0, locals := 21 } : Room) (PcG G M0 [.ref (gA G (5 + k)), .int (i3 (x1))]) (QcI G M0 r) 0 0 (PA G) := by
  refine Met.ofW (cc := cX3_ageIn) (maxL := 2) (ret := (some .int)) (by decide) rfl ?_
  intro p e s m args below meth c s₁ B hml hv0
  obtain ⟨hav, hW⟩ := hv0
  have hx := B.exec
  have hb := B.bytes
  have hr := B.returns
  have hts := atoms_spec (ws := (wb yX3_ageIn cX3_ageIn 2 (some .int))) B.pre
  have hown : s.vm.findClass RX3 = some m.cls := findClass_of_methodNamed B.named
  have hlocks := B.notSynchronized
  have hinX3 : ∀ w ∈ u_ws RX3 TX3 6, w ∈ (wb yX3_ageIn cX3_ageIn 2 (some .int)) := fun _ h => List.mem_cons_of_mem _ (inlX3 _ h)
  have hW : Wd G M0 s s.heap := hW
  have hS : va_S (PA G) s.heap s.heap [] := va_S.rf
  have hl := lv_entry [.ref (gA G (5 + k)), .int (i3 (x1))] (n := 2) (Nat.le_of_ble_eq_true rfl)
  have hent := lg_entry_eq m [.ref (gA G (5 + k)), .int (i3 (x1))] 2
  rw [← hav] at hent
  rw [hent]
  clear hent
  generalize (lg_sl [.ref (gA G (5 + k)), .int (i3 (x1))] ++ List.replicate (2 - (lg_sl [.ref (gA G (5 + k)), .int (i3 (x1))]).length) Slot.unset).toArray = ls at hl ⊢
  have hl : lv_has ls 2 [(0, .ref (gA G (5 + k))), (1, .int (i3 (x1)))] := hl
  unfold fW_ageIn at hf
  show W p l e ({ frames := 1, cells := 0, slots := 0, locals := 21 } : Room) s m args below meth c s.heap [] 0 0 (MQ below (QcI G M0 r) args s 0 0 (PA G)) (F0 m 0 ls [])
  refine lv_aload_n hx hb dX3_ageIn_0 rfl (lv_at hl 0 rfl) ?_
  refine va_get (D := G.1) (ci := 3) (v := .ref (gA G (16 + 6 * k + 2))) (C := RX3) (T := TX3) (N := 6) hx hb hts hinX3 hown hW.K hW.P (5 + k) (he_wall hk G M0) rfl 2 (by decide) (hts _ (List.mem_cons_of_mem _ (inB_2 _ (List.mem_of_getElem? (i := 15) rfl)))) (fun _ h9 => h9) rfl dX3_ageIn_1 ?_
  refine lv_iload_n hx hb dX3_ageIn_4 rfl (lv_at hl 1 rfl) ?_
  refine k_cNi (As := [.ref (gA G (16 + 6 * k + 2)), .int (i3 (x1))]) (rest := []) ⟨hx, hb, hml, hown, hts⟩ (mG_at l G M0 (16 + 6 * k + 2) (by omega) x1 hx1 _ rfl) ⟨va_cnB 2 hts (gbC (inB_5 _ (List.mem_of_getElem? (i := 2) rfl))) rfl rfl rfl (hW.N _ (List.mem_of_getElem? (i := 1) rfl)) (hts _ (List.mem_cons_of_mem _ (inB_1 _ (List.mem_of_getElem? (i := 2) rfl)))) (by decide +kernel) ⟨Nat.le_of_ble_eq_true rfl, Nat.le_of_ble_eq_true rfl⟩, (hts _ (List.mem_cons_of_mem _ (inB_5 _ (List.mem_of_getElem? (i := 1) rfl)))), trivial⟩ hW hS rfl hl.1 rfl (lv_room (Nat.le_of_ble_eq_true rfl)) dX3_ageIn_5 ⟨Nat.zero_le _, Nat.zero_le _⟩ (fun hv1 H locs hW hS => ?_)
  subst hf
  exact k_ret hx hb hr hlocks hW hS rfl hv1 dX3_ageIn_8
set_option maxHeartbeats 4000000 in
set_option maxRecDepth 100000 in
theorem mW_changeSacks (l : Launch) (G : gG) (M0 : MemG) (k : Nat) (hk : k < 11) (x1 : Int) (hx1 : inR x1) (x2 : Int) (hx2 : inR x2) (r : MemG) (hf : fW_changeSacks M0 k x1 x2 = some r) : Met l yX3_changeSacks (wb yX3_changeSacks cX3_changeSacks 5 none) ({ frames := 1, cells := 0, slots := 0, locals := 22 } : Room) (PcG G M0 [.ref (gA G (5 + k)), .int (i3 (x1)), .int (i3 (x2))]) (QcV G r) 0 0 (PA G) := by
  refine Met.ofW (cc := cX3_changeSacks) (maxL := 5) (ret := none) (by decide) rfl ?_
  intro p e s m args below meth c s₁ B hml hv0
  obtain ⟨hav, hW⟩ := hv0
  have hx := B.exec
  have hb := B.bytes
  have hr := B.returns
  have hts := atoms_spec (ws := (wb yX3_changeSacks cX3_changeSacks 5 none)) B.pre
  have hown : s.vm.findClass RX3 = some m.cls := findClass_of_methodNamed B.named
  have hlocks := B.notSynchronized
  have hinX3 : ∀ w ∈ u_ws RX3 TX3 6, w ∈ (wb yX3_changeSacks cX3_changeSacks 5 none) := fun _ h => List.mem_cons_of_mem _ (inlX3 _ h)
  have hW : Wd G M0 s s.heap := hW
  have hS : va_S (PA G) s.heap s.heap [] := va_S.rf
  have hl := lv_entry [.ref (gA G (5 + k)), .int (i3 (x1)), .int (i3 (x2))] (n := 5) (Nat.le_of_ble_eq_true rfl)
  have hent := lg_entry_eq m [.ref (gA G (5 + k)), .int (i3 (x1)), .int (i3 (x2))] 5
  rw [← hav] at hent
  rw [hent]
  clear hent
  generalize (lg_sl [.ref (gA G (5 + k)), .int (i3 (x1)), .int (i3 (x2))] ++ List.replicate (5 - (lg_sl [.ref (gA G (5 + k)), .int (i3 (x1)), .int (i3 (x2))]).length) Slot.unset).toArray = ls at hl ⊢
  have hl : lv_has ls 5 [(0, .ref (gA G (5 + k))), (1, .int (i3 (x1))), (2, .int (i3 (x2)))] := hl
  unfold fW_changeSacks at hf
  show W p l e ({ frames := 1, cells := 0, slots := 0, locals := 22 } : Room) s m args below meth c s.heap [] 0 0 (MQ below (QcV G r) args s 0 0 (PA G)) (F0 m 0 ls [])
  have L15 : ∀ (x2 : Int) (hx2 : inR x2), ∀ (z : (Int × Int × MemG)) (q : (MemG)), loopN (fW_changeSacks_l25 k x2) 200 z = some q → (q = r) → (inR (z.1) → inR (z.2.1) → ∀ (H : Heap) (locs : List Loc) (ls : Array Slot), Wd G (z.2.2) s H → va_S (PA G) s.heap H locs → lv_has ls 5 [(0, .ref (gA G (5 + k))), (2, .int (i3 (x2))), (3, .int (i3 (z.1))), (4, .int (i3 (z.2.1)))] → W p l e ({ frames := 1, cells := 0, slots := 0, locals := 22 } : Room) s m args below meth c H locs 0 0 (MQ below (QcV G r) args s 0 0 (PA G)) (F0 m 25 ls [])) := by
    intro x2 hx2 z q hq hex
    refine loop_rule (fW_changeSacks_l25 k x2) (fun z => inR (z.1) → inR (z.2.1) → ∀ (H : Heap) (locs : List Loc) (ls : Array Slot), Wd G (z.2.2) s H → va_S (PA G) s.heap H locs → lv_has ls 5 [(0, .ref (gA G (5 + k))), (2, .int (i3 (x2))), (3, .int (i3 (z.1))), (4, .int (i3 (z.2.1)))] → W p l e ({ frames := 1, cells := 0, slots := 0, locals := 22 } : Room) s m args below meth c H locs 0 0 (MQ below (QcV G r) args s 0 0 (PA G)) (F0 m 25 ls [])) (fun q => (q = r)) ?_ 200 z q hq hex
    clear hq hex q z
    intro z x hf hK hz3 hz4 H locs ls hW hS hl
    unfold fW_changeSacks_l25 at hf
    refine lv_iload hx hb dX3_changeSacks_25 (lv_at hl 3 rfl) ?_
    refine k_bipush hx hb dX3_changeSacks_27 (by decide +kernel) ?_
    refine k_icmp_ge (tgt := 69) hx hb hz4 (show inR (32) by decide) dX3_changeSacks_29 (by decide) (fun hc6 => ?_) (fun hc6 => ?_)
    · rw [if_neg hc6] at hf
      obtain rfl := some_el hf
      obtain rfl : z.2.2 = r := hK
      exact k_retv hx hb hr hlocks hW hS rfl dX3_changeSacks_69
    · rw [if_pos hc6] at hf
      refine lv_iload_n hx hb dX3_changeSacks_32 rfl (lv_at hl 2 rfl) ?_
      refine k_bipush hx hb dX3_changeSacks_33 (by decide +kernel) ?_
      refine k_icmp_gt (tgt := 69) hx hb hz3 (show inR (32) by decide) dX3_changeSacks_35 (by decide) (fun hc7 => ?_) (fun hc7 => ?_)
      · rw [if_pos hc7] at hf
        obtain rfl := some_el hf
        obtain rfl : z.2.2 = r := hK
        exact k_retv hx hb hr hlocks hW hS rfl dX3_changeSacks_69
      · rw [if_neg hc7] at hf
        refine lv_aload_n hx hb dX3_changeSacks_38 rfl (lv_at hl 0 rfl) ?_
        refine va_get (D := G.1) (ci := 3) (v := .ref (gA G (16 + 6 * k + 3))) (C := RX3) (T := TX3) (N := 6) hx hb hts hinX3 hown hW.K hW.P (5 + k) (he_wall hk G z.2.2) rfl 3 (by decide) (hts _ (List.mem_cons_of_mem _ (inB_2 _ (List.mem_of_getElem? (i := 16) rfl)))) (fun _ h9 => h9) rfl dX3_changeSacks_39 ?_
        refine lv_iload_n hx hb dX3_changeSacks_42 rfl (lv_at hl 2 rfl) ?_
        refine lv_aload_n hx hb dX3_changeSacks_43 rfl (lv_at hl 0 rfl) ?_
        refine va_get (D := G.1) (ci := 3) (v := .ref (gA G (16 + 6 * k + 3))) (C := RX3) (T := TX3) (N := 6) hx hb hts hinX3 hown hW.K hW.P (5 + k) (he_wall hk G z.2.2) rfl 3 (by decide) (hts _ (List.mem_cons_of_mem _ (inB_2 _ (List.mem_of_getElem? (i := 16) rfl)))) (fun _ h9 => h9) rfl dX3_changeSacks_44 ?_
        refine lv_iload_n hx hb dX3_changeSacks_47 rfl (lv_at hl 2 rfl) ?_
        refine k_cNi (As := [.ref (gA G (16 + 6 * k + 3)), .int (i3 (z.1))]) (rest := [.int (i3 (z.1)), .ref (gA G (16 + 6 * k + 3))]) ⟨hx, hb, hml, hown, hts⟩ (mG_at l G z.2.2 (16 + 6 * k + 3) (by omega) z.1 hz3 _ rfl) ⟨va_cnB 2 hts (gbC (inB_5 _ (List.mem_of_getElem? (i := 2) rfl))) rfl rfl rfl (hW.N _ (List.mem_of_getElem? (i := 1) rfl)) (hts _ (List.mem_cons_of_mem _ (inB_1 _ (List.mem_of_getElem? (i := 2) rfl)))) (by decide +kernel) ⟨Nat.le_of_ble_eq_true rfl, Nat.le_of_ble_eq_true rfl⟩, (hts _ (List.mem_cons_of_mem _ (inB_5 _ (List.mem_of_getElem? (i := 1) rfl)))), trivial⟩ hW hS rfl hl.1 rfl (lv_room (Nat.le_of_ble_eq_true rfl)) dX3_changeSacks_48 ⟨Nat.zero_le _, Nat.zero_le _⟩ (fun hv8 H locs hW hS => ?_)
        refine lv_iload_n hx hb dX3_changeSacks_51 rfl (lv_at hl 1 rfl) ?_
        refine k_add hx hb dX3_changeSacks_52 ?_
        obtain ⟨hg9, hf⟩ := gd_el hf
        obtain ⟨m10, hm10, hf⟩ := bind_el hf
        refine k_cNv (As := [.ref (gA G (16 + 6 * k + 3)), .int (i3 (z.1)), .int (i3 (((fG_at z.2.2 (16 + 6 * k + 3) z.1)) + x2))]) (rest := []) ⟨hx, hb, hml, hown, hts⟩ (mG_put l G z.2.2 (16 + 6 * k + 3) (by omega) z.1 hz3 (((fG_at z.2.2 (16 + 6 * k + 3) z.1)) + x2) hg9 m10 hm10) ⟨va_cnB 3 hts (gbC (inB_6 _ (List.mem_of_getElem? (i := 0) rfl))) rfl rfl rfl (hW.N _ (List.mem_of_getElem? (i := 2) rfl)) (hts _ (List.mem_cons_of_mem _ (inB_1 _ (List.mem_of_getElem? (i := 2) rfl)))) (by decide +kernel) ⟨Nat.le_of_ble_eq_true rfl, Nat.le_of_ble_eq_true rfl⟩, (hts _ (List.mem_cons_of_mem _ (inB_5 _ (List.mem_of_getElem? (i := 23) rfl)))), trivial⟩ hW hS rfl hl.1 rfl (lv_room (Nat.le_of_ble_eq_true rfl)) dX3_changeSacks_53 ⟨Nat.zero_le _, Nat.zero_le _⟩ (fun H locs hW hS => ?_)
        refine lv_iload_n hx hb dX3_changeSacks_56 rfl (lv_at hl 2 rfl) ?_
        refine lv_iload_n hx hb dX3_changeSacks_57 rfl (lv_at hl 2 rfl) ?_
        refine k_cNi (As := [.int (i3 (z.1))]) (rest := [.int (i3 (z.1))]) ⟨hx, hb, hml, hown, hts⟩ (mG_sizeOf l G m10 z.1 hz3 _ rfl) ⟨va_cnB 1 hts (gbC (inB_6 _ (List.mem_of_getElem? (i := 14) rfl))) rfl rfl rfl (hW.N _ (List.mem_of_getElem? (i := 3) rfl)) (hts _ (List.mem_cons_of_mem _ (inB_1 _ (List.mem_of_getElem? (i := 2) rfl)))) (by decide +kernel) ⟨Nat.le_of_ble_eq_true rfl, Nat.le_of_ble_eq_true rfl⟩, (hts _ (List.mem_cons_of_mem _ (inB_6 _ (List.mem_of_getElem? (i := 13) rfl)))), trivial⟩ hW hS rfl hl.1 rfl (lv_room (Nat.le_of_ble_eq_true rfl)) dX3_changeSacks_58 ⟨Nat.zero_le _, Nat.zero_le _⟩ (fun hv12 H locs hW hS => ?_)
        refine k_add hx hb dX3_changeSacks_61 ?_
        obtain ⟨hg13, hf⟩ := gd_el hf
        refine lv_istore_n (lv' := [(3, .int (i3 (z.1 + ((fG_sizeOf z.1))))), (0, .ref (gA G (5 + k))), (2, .int (i3 (x2))), (4, .int (i3 (z.2.1)))]) hx hb dX3_changeSacks_62 rfl hl (by decide) rfl (fun ls hl => ?_)
        obtain ⟨hg14, hf⟩ := gd_el hf
        refine k_iinc (lv' := [(4, .int (i3 (z.2.1 + 1))), (3, .int (i3 (z.1 + ((fG_sizeOf z.1))))), (0, .ref (gA G (5 + k))), (2, .int (i3 (x2)))]) hx hb dX3_changeSacks_63 hl (k := 3) rfl (by decide) rfl (fun ls hl => ?_)
        refine lv_goto (tgt := 25) hx hb dX3_changeSacks_66 (by decide) ?_
        obtain rfl := some_el hf
        exact hK hg13 hg14 _ _ _ hW hS (lv_sub hl [2, 3, 1, 0] rfl)
  refine lv_aload_n hx hb dX3_changeSacks_0 rfl (lv_at hl 0 rfl) ?_
  refine va_get (D := G.1) (ci := 3) (v := .ref (gA G (16 + 6 * k + 1))) (C := RX3) (T := TX3) (N := 6) hx hb hts hinX3 hown hW.K hW.P (5 + k) (he_wall hk G M0) rfl 1 (by decide) (hts _ (List.mem_cons_of_mem _ (inB_2 _ (List.mem_of_getElem? (i := 14) rfl)))) (fun _ h9 => h9) rfl dX3_changeSacks_1 ?_
  refine lv_iload_n hx hb dX3_changeSacks_4 rfl (lv_at hl 1 rfl) ?_
  refine lv_aload_n hx hb dX3_changeSacks_5 rfl (lv_at hl 0 rfl) ?_
  refine va_get (D := G.1) (ci := 3) (v := .ref (gA G (16 + 6 * k + 1))) (C := RX3) (T := TX3) (N := 6) hx hb hts hinX3 hown hW.K hW.P (5 + k) (he_wall hk G M0) rfl 1 (by decide) (hts _ (List.mem_cons_of_mem _ (inB_2 _ (List.mem_of_getElem? (i := 14) rfl)))) (fun _ h9 => h9) rfl dX3_changeSacks_6 ?_
  refine lv_iload_n hx hb dX3_changeSacks_9 rfl (lv_at hl 1 rfl) ?_
  refine k_cNi (As := [.ref (gA G (16 + 6 * k + 1)), .int (i3 (x1))]) (rest := [.int (i3 (x1)), .ref (gA G (16 + 6 * k + 1))]) ⟨hx, hb, hml, hown, hts⟩ (mG_at l G M0 (16 + 6 * k + 1) (by omega) x1 hx1 _ rfl) ⟨va_cnB 2 hts (gbC (inB_5 _ (List.mem_of_getElem? (i := 2) rfl))) rfl rfl rfl (hW.N _ (List.mem_of_getElem? (i := 1) rfl)) (hts _ (List.mem_cons_of_mem _ (inB_1 _ (List.mem_of_getElem? (i := 2) rfl)))) (by decide +kernel) ⟨Nat.le_of_ble_eq_true rfl, Nat.le_of_ble_eq_true rfl⟩, (hts _ (List.mem_cons_of_mem _ (inB_5 _ (List.mem_of_getElem? (i := 1) rfl)))), trivial⟩ hW hS rfl hl.1 rfl (lv_room (Nat.le_of_ble_eq_true rfl)) dX3_changeSacks_10 ⟨Nat.zero_le _, Nat.zero_le _⟩ (fun hv1 H locs hW hS => ?_)
  refine lv_iload_n hx hb dX3_changeSacks_13 rfl (lv_at hl 2 rfl) ?_
  refine k_add hx hb dX3_changeSacks_14 ?_
  obtain ⟨hg2, hf⟩ := gd_el hf
  obtain ⟨m3, hm3, hf⟩ := bind_el hf
  refine k_cNv (As := [.ref (gA G (16 + 6 * k + 1)), .int (i3 (x1)), .int (i3 (((fG_at M0 (16 + 6 * k + 1) x1)) + x2))]) (rest := []) ⟨hx, hb, hml, hown, hts⟩ (mG_put l G M0 (16 + 6 * k + 1) (by omega) x1 hx1 (((fG_at M0 (16 + 6 * k + 1) x1)) + x2) hg2 m3 hm3) ⟨va_cnB 3 hts (gbC (inB_6 _ (List.mem_of_getElem? (i := 0) rfl))) rfl rfl rfl (hW.N _ (List.mem_of_getElem? (i := 2) rfl)) (hts _ (List.mem_cons_of_mem _ (inB_1 _ (List.mem_of_getElem? (i := 2) rfl)))) (by decide +kernel) ⟨Nat.le_of_ble_eq_true rfl, Nat.le_of_ble_eq_true rfl⟩, (hts _ (List.mem_cons_of_mem _ (inB_5 _ (List.mem_of_getElem? (i := 23) rfl)))), trivial⟩ hW hS rfl hl.1 rfl (lv_room (Nat.le_of_ble_eq_true rfl)) dX3_changeSacks_15 ⟨Nat.zero_le _, Nat.zero_le _⟩ (fun H locs hW hS => ?_)
  refine lv_iload_n hx hb dX3_changeSacks_18 rfl (lv_at hl 1 rfl) ?_
  refine k_const hx hb dX3_changeSacks_19 ?_
  refine k_add hx hb dX3_changeSacks_20 ?_
  obtain ⟨hg5, hf⟩ := gd_el hf
  refine lv_istore_n (lv' := [(3, .int (i3 (x1 + 1))), (0, .ref (gA G (5 + k))), (1, .int (i3 (x1))), (2, .int (i3 (x2)))]) hx hb dX3_changeSacks_21 rfl hl (by decide) rfl (fun ls hl => ?_)
  refine k_const hx hb dX3_changeSacks_22 ?_
  refine lv_istore (lv' := [(4, .int (i3 (0))), (3, .int (i3 (x1 + 1))), (0, .ref (gA G (5 + k))), (1, .int (i3 (x1))), (2, .int (i3 (x2)))]) hx hb dX3_changeSacks_23 hl (by decide) rfl (fun ls hl => ?_)
  exact L15 (x2) hx2 (x1 + 1, 0, m3) r hf rfl hg5 (show inR (0) by decide) _ _ _ hW hS (lv_sub hl [2, 4, 1, 0] rfl)
set_option maxHeartbeats 4000000 in
set_option maxRecDepth 100000 in
theorem mW_crackOver (l : Launch) (G : gG) (M0 : MemG) (k : Nat) (hk : k < 11) (x1 : Int) (hx1 : inR x1) (r : MemG × Int) (hf : fW_crackOver M0 k x1 = some r) : Met l yX3_crackOver (wb yX3_crackOver cX3_crackOver 5 (some .int)) ({ frames := 2, cells := 0, slots := 0, locals := 44 } : Room) (PcG G M0 [.ref (gA G (5 + k)), .int (i3 (x1))]) (QcI G r.1 r.2) 0 0 (PA G) := by
  refine Met.ofW (cc := cX3_crackOver) (maxL := 5) (ret := (some .int)) (by decide) rfl ?_
  intro p e s m args below meth c s₁ B hml hv0
  obtain ⟨hav, hW⟩ := hv0
  have hx := B.exec
  have hb := B.bytes
  have hr := B.returns
  have hts := atoms_spec (ws := (wb yX3_crackOver cX3_crackOver 5 (some .int))) B.pre
  have hown : s.vm.findClass RX3 = some m.cls := findClass_of_methodNamed B.named
  have hlocks := B.notSynchronized
  have hinX3 : ∀ w ∈ u_ws RX3 TX3 6, w ∈ (wb yX3_crackOver cX3_crackOver 5 (some .int)) := fun _ h => List.mem_cons_of_mem _ (inlX3 _ h)
  have hW : Wd G M0 s s.heap := hW
  have hS : va_S (PA G) s.heap s.heap [] := va_S.rf
  have hl := lv_entry [.ref (gA G (5 + k)), .int (i3 (x1))] (n := 5) (Nat.le_of_ble_eq_true rfl)
  have hent := lg_entry_eq m [.ref (gA G (5 + k)), .int (i3 (x1))] 5
  rw [← hav] at hent
  rw [hent]
  clear hent
  generalize (lg_sl [.ref (gA G (5 + k)), .int (i3 (x1))] ++ List.replicate (5 - (lg_sl [.ref (gA G (5 + k)), .int (i3 (x1))]).length) Slot.unset).toArray = ls at hl ⊢
  have hl : lv_has ls 5 [(0, .ref (gA G (5 + k))), (1, .int (i3 (x1)))] := hl
  unfold fW_crackOver at hf
  show W p l e ({ frames := 2, cells := 0, slots := 0, locals := 44 } : Room) s m args below meth c s.heap [] 0 0 (MQ below (QcI G r.1 r.2) args s 0 0 (PA G)) (F0 m 0 ls [])
  have L17 : ∀ (z : (Int × Int × Int × MemG)) (q : (Int × MemG)), loopN (fW_crackOver_l9 k) 200 z = some q → (inR (q.1) → ∀ (H : Heap) (locs : List Loc) (ls : Array Slot), Wd G (q.2) s H → va_S (PA G) s.heap H locs → lv_has ls 5 [(0, .ref (gA G (5 + k))), (2, .int (i3 (q.1)))] → W p l e ({ frames := 2, cells := 0, slots := 0, locals := 44 } : Room) s m args below meth c H locs 0 0 (MQ below (QcI G r.1 r.2) args s 0 0 (PA G)) (F0 m 67 ls [])) → (inR (z.1) → inR (z.2.1) → inR (z.2.2.1) → ∀ (H : Heap) (locs : List Loc) (ls : Array Slot), Wd G (z.2.2.2) s H → va_S (PA G) s.heap H locs → lv_has ls 5 [(0, .ref (gA G (5 + k))), (2, .int (i3 (z.1))), (3, .int (i3 (z.2.1))), (4, .int (i3 (z.2.2.1)))] → W p l e ({ frames := 2, cells := 0, slots := 0, locals := 44 } : Room) s m args below meth c H locs 0 0 (MQ below (QcI G r.1 r.2) args s 0 0 (PA G)) (F0 m 9 ls [])) := by
    intro z q hq hex
    refine loop_rule (fW_crackOver_l9 k) (fun z => inR (z.1) → inR (z.2.1) → inR (z.2.2.1) → ∀ (H : Heap) (locs : List Loc) (ls : Array Slot), Wd G (z.2.2.2) s H → va_S (PA G) s.heap H locs → lv_has ls 5 [(0, .ref (gA G (5 + k))), (2, .int (i3 (z.1))), (3, .int (i3 (z.2.1))), (4, .int (i3 (z.2.2.1)))] → W p l e ({ frames := 2, cells := 0, slots := 0, locals := 44 } : Room) s m args below meth c H locs 0 0 (MQ below (QcI G r.1 r.2) args s 0 0 (PA G)) (F0 m 9 ls [])) (fun q => (inR (q.1) → ∀ (H : Heap) (locs : List Loc) (ls : Array Slot), Wd G (q.2) s H → va_S (PA G) s.heap H locs → lv_has ls 5 [(0, .ref (gA G (5 + k))), (2, .int (i3 (q.1)))] → W p l e ({ frames := 2, cells := 0, slots := 0, locals := 44 } : Room) s m args below meth c H locs 0 0 (MQ below (QcI G r.1 r.2) args s 0 0 (PA G)) (F0 m 67 ls []))) ?_ 200 z q hq hex
    clear hq hex q z
    intro z x hf hK hz2 hz3 hz4 H locs ls hW hS hl
    have J6 : ∀ (M : MemG) (x2 : Int) (x3 : Int) (x4 : Int), fW_crackOver_j54 M k x2 x3 x4 = some x → inR x2 → inR x3 → inR x4 →  ∀ (H : Heap) (locs : List Loc) (ls : Array Slot), Wd G M s H → va_S (PA G) s.heap H locs → lv_has ls 5 [(0, .ref (gA G (5 + k))), (2, .int (i3 (x2))), (3, .int (i3 (x3))), (4, .int (i3 (x4)))] → W p l e ({ frames := 2, cells := 0, slots := 0, locals := 44 } : Room) s m args below meth c H locs 0 0 (MQ below (QcI G r.1 r.2) args s 0 0 (PA G)) (F0 m 54 ls []) := by
      intro M x2 x3 x4 hf hx2 hx3 hx4 H locs ls hW hS hl
      unfold fW_crackOver_j54 at hf
      refine lv_iload_n hx hb dX3_crackOver_54 rfl (lv_at hl 2 rfl) ?_
      refine lv_iload_n hx hb dX3_crackOver_55 rfl (lv_at hl 2 rfl) ?_
      refine k_cNi (As := [.int (i3 (x3))]) (rest := [.int (i3 (x3))]) ⟨hx, hb, hml, hown, hts⟩ (mG_sizeOf l G M x3 hx3 _ rfl) ⟨va_cnB 1 hts (gbC (inB_6 _ (List.mem_of_getElem? (i := 14) rfl))) rfl rfl rfl (hW.N _ (List.mem_of_getElem? (i := 3) rfl)) (hts _ (List.mem_cons_of_mem _ (inB_1 _ (List.mem_of_getElem? (i := 2) rfl)))) (by decide +kernel) ⟨Nat.le_of_ble_eq_true rfl, Nat.le_of_ble_eq_true rfl⟩, (hts _ (List.mem_cons_of_mem _ (inB_6 _ (List.mem_of_getElem? (i := 13) rfl)))), trivial⟩ hW hS rfl hl.1 rfl (lv_room (Nat.le_of_ble_eq_true rfl)) dX3_crackOver_56 ⟨Nat.zero_le _, Nat.zero_le _⟩ (fun hv7 H locs hW hS => ?_)
      refine k_add hx hb dX3_crackOver_59 ?_
      obtain ⟨hg8, hf⟩ := gd_el hf
      refine lv_istore_n (lv' := [(3, .int (i3 (x3 + ((fG_sizeOf x3))))), (0, .ref (gA G (5 + k))), (2, .int (i3 (x2))), (4, .int (i3 (x4)))]) hx hb dX3_crackOver_60 rfl hl (by decide) rfl (fun ls hl => ?_)
      obtain ⟨hg9, hf⟩ := gd_el hf
      refine k_iinc (lv' := [(4, .int (i3 (x4 + 1))), (3, .int (i3 (x3 + ((fG_sizeOf x3))))), (0, .ref (gA G (5 + k))), (2, .int (i3 (x2)))]) hx hb dX3_crackOver_61 hl (k := 3) rfl (by decide) rfl (fun ls hl => ?_)
      refine lv_goto (tgt := 9) hx hb dX3_crackOver_64 (by decide) ?_
      obtain rfl := some_el hf
      exact hK hx2 hg8 hg9 _ _ _ hW hS (lv_sub hl [2, 3, 1, 0] rfl)
    unfold fW_crackOver_l9 at hf
    refine lv_iload hx hb dX3_crackOver_9 (lv_at hl 3 rfl) ?_
    refine k_bipush hx hb dX3_crackOver_11 (by decide +kernel) ?_
    refine k_icmp_ge (tgt := 67) hx hb hz4 (show inR (32) by decide) dX3_crackOver_13 (by decide) (fun hc2 => ?_) (fun hc2 => ?_)
    · rw [if_neg hc2] at hf
      obtain rfl := some_el hf
      exact hK hz2 _ _ _ hW hS (lv_sub hl [0, 1] rfl)
    · rw [if_pos hc2] at hf
      refine lv_iload_n hx hb dX3_crackOver_16 rfl (lv_at hl 2 rfl) ?_
      refine k_bipush hx hb dX3_crackOver_17 (by decide +kernel) ?_
      refine k_icmp_gt (tgt := 67) hx hb hz3 (show inR (32) by decide) dX3_crackOver_19 (by decide) (fun hc3 => ?_) (fun hc3 => ?_)
      · rw [if_pos hc3] at hf
        obtain rfl := some_el hf
        exact hK hz2 _ _ _ hW hS (lv_sub hl [0, 1] rfl)
      · rw [if_neg hc3] at hf
        refine lv_aload_n hx hb dX3_crackOver_22 rfl (lv_at hl 0 rfl) ?_
        refine lv_iload_n hx hb dX3_crackOver_23 rfl (lv_at hl 2 rfl) ?_
        refine k_cVz (As := [.int (i3 (z.2.1))]) (rest := []) ⟨hx, hb, hml, hown, hts⟩ (mW_isCracked l G z.2.2.2 (k) hk z.2.1 hz3 _ rfl) (cwV 1 hts (gbV (inB_6 _ (List.mem_of_getElem? (i := 19) rfl)) (inB_6 _ (List.mem_of_getElem? (i := 20) rfl)) (inB_6 _ (List.mem_of_getElem? (i := 21) rfl)) (inB_1 _ (List.mem_of_getElem? (i := 12) rfl)) (inB_6 _ (List.mem_of_getElem? (i := 22) rfl))) rfl rfl rfl (by decide +kernel) ⟨Nat.le_of_ble_eq_true rfl, Nat.le_of_ble_eq_true rfl⟩) (rv_wall hk hW) hW hS rfl hl.1 rfl (lv_room (Nat.le_of_ble_eq_true rfl)) dX3_crackOver_24 ⟨Nat.zero_le _, Nat.zero_le _⟩ (fun hv4 H locs hW hS => ?_)
        refine k_if_ne (tgt := 54) hx hb (inR_z hv4) dX3_crackOver_27 (by decide) (fun hc5 => ?_) (fun hc5 => ?_)
        · rw [if_neg hc5] at hf
          exact J6 (z.2.2.2) (z.1) (z.2.1) (z.2.2.1) hf hz2 hz3 hz4 _ _ _ hW hS (lv_sub hl [0, 1, 2, 3] rfl)
        · rw [if_pos hc5] at hf
          refine lv_aload_n hx hb dX3_crackOver_30 rfl (lv_at hl 0 rfl) ?_
          refine lv_iload_n hx hb dX3_crackOver_31 rfl (lv_at hl 2 rfl) ?_
          refine k_cVi (As := [.int (i3 (z.2.1))]) (rest := []) ⟨hx, hb, hml, hown, hts⟩ (mW_sumOf l G z.2.2.2 (k) hk z.2.1 hz3 _ rfl) (cwV 1 hts (gbV (inB_6 _ (List.mem_of_getElem? (i := 23) rfl)) (inB_7 _ (List.mem_of_getElem? (i := 0) rfl)) (inB_7 _ (List.mem_of_getElem? (i := 1) rfl)) (inB_1 _ (List.mem_of_getElem? (i := 12) rfl)) (inB_7 _ (List.mem_of_getElem? (i := 2) rfl))) rfl rfl rfl (by decide +kernel) ⟨Nat.le_of_ble_eq_true rfl, Nat.le_of_ble_eq_true rfl⟩) (rv_wall hk hW) hW hS rfl hl.1 rfl (lv_room (Nat.le_of_ble_eq_true rfl)) dX3_crackOver_32 ⟨Nat.zero_le _, Nat.zero_le _⟩ (fun hv10 H locs hW hS => ?_)
          refine lv_iload_n hx hb dX3_crackOver_35 rfl (lv_at hl 2 rfl) ?_
          obtain ⟨q11, hq11, hf⟩ := bind_el hf
          refine k_cNi (As := [.int (i3 (z.2.1))]) (rest := [.int (i3 ((fW_sumOf z.2.2.2 (k) z.2.1)))]) ⟨hx, hb, hml, hown, hts⟩ (mG_loadOf l G z.2.2.2 z.2.1 hz3 q11 hq11) ⟨va_cnB 1 hts (gbC (inB_7 _ (List.mem_of_getElem? (i := 4) rfl))) rfl rfl rfl (hW.N _ (List.mem_of_getElem? (i := 4) rfl)) (hts _ (List.mem_cons_of_mem _ (inB_1 _ (List.mem_of_getElem? (i := 2) rfl)))) (by decide +kernel) ⟨Nat.le_of_ble_eq_true rfl, Nat.le_of_ble_eq_true rfl⟩, (hts _ (List.mem_cons_of_mem _ (inB_7 _ (List.mem_of_getElem? (i := 3) rfl)))), trivial⟩ hW hS rfl hl.1 rfl (lv_room (Nat.le_of_ble_eq_true rfl)) dX3_crackOver_36 ⟨Nat.zero_le _, Nat.zero_le _⟩ (fun hv12 H locs hW hS => ?_)
          refine k_icmp_le (tgt := 54) hx hb hv10 hv12 dX3_crackOver_39 (by decide) (fun hc13 => ?_) (fun hc13 => ?_)
          · rw [if_neg hc13] at hf
            exact J6 (z.2.2.2) (z.1) (z.2.1) (z.2.2.1) hf hz2 hz3 hz4 _ _ _ hW hS (lv_sub hl [0, 1, 2, 3] rfl)
          · rw [if_pos hc13] at hf
            refine lv_aload_n hx hb dX3_crackOver_42 rfl (lv_at hl 0 rfl) ?_
            refine va_get (D := G.1) (ci := 3) (v := .ref (gA G (16 + 6 * k + 4))) (C := RX3) (T := TX3) (N := 6) hx hb hts hinX3 hown hW.K hW.P (5 + k) (he_wall hk G z.2.2.2) rfl 4 (by decide) (hts _ (List.mem_cons_of_mem _ (inB_2 _ (List.mem_of_getElem? (i := 17) rfl)))) (fun _ h9 => h9) rfl dX3_crackOver_43 ?_
            refine lv_iload_n hx hb dX3_crackOver_46 rfl (lv_at hl 2 rfl) ?_
            refine k_const hx hb dX3_crackOver_47 ?_
            obtain ⟨m14, hm14, hf⟩ := bind_el hf
            refine k_cNv (As := [.ref (gA G (16 + 6 * k + 4)), .int (i3 (z.2.1)), .int (i3 (1))]) (rest := []) ⟨hx, hb, hml, hown, hts⟩ (mG_put l G z.2.2.2 (16 + 6 * k + 4) (by omega) z.2.1 hz3 1 (show inR (1) by decide) m14 hm14) ⟨va_cnB 3 hts (gbC (inB_6 _ (List.mem_of_getElem? (i := 0) rfl))) rfl rfl rfl (hW.N _ (List.mem_of_getElem? (i := 2) rfl)) (hts _ (List.mem_cons_of_mem _ (inB_1 _ (List.mem_of_getElem? (i := 2) rfl)))) (by decide +kernel) ⟨Nat.le_of_ble_eq_true rfl, Nat.le_of_ble_eq_true rfl⟩, (hts _ (List.mem_cons_of_mem _ (inB_5 _ (List.mem_of_getElem? (i := 23) rfl)))), trivial⟩ hW hS rfl hl.1 rfl (lv_room (Nat.le_of_ble_eq_true rfl)) dX3_crackOver_48 ⟨Nat.zero_le _, Nat.zero_le _⟩ (fun H locs hW hS => ?_)
            obtain ⟨hg16, hf⟩ := gd_el hf
            refine k_iinc (lv' := [(2, .int (i3 (z.1 + 1))), (0, .ref (gA G (5 + k))), (3, .int (i3 (z.2.1))), (4, .int (i3 (z.2.2.1)))]) hx hb dX3_crackOver_51 hl (k := 1) rfl (by decide) rfl (fun ls hl => ?_)
            exact J6 (m14) (z.1 + 1) (z.2.1) (z.2.2.1) hf hg16 hz3 hz4 _ _ _ hW hS (lv_sub hl [1, 0, 2, 3] rfl)
  refine k_const hx hb dX3_crackOver_0 ?_
  refine lv_istore_n (lv' := [(2, .int (i3 (0))), (0, .ref (gA G (5 + k))), (1, .int (i3 (x1)))]) hx hb dX3_crackOver_1 rfl hl (by decide) rfl (fun ls hl => ?_)
  refine lv_iload_n hx hb dX3_crackOver_2 rfl (lv_at hl 2 rfl) ?_
  refine k_const hx hb dX3_crackOver_3 ?_
  refine k_add hx hb dX3_crackOver_4 ?_
  obtain ⟨hg1, hf⟩ := gd_el hf
  refine lv_istore_n (lv' := [(3, .int (i3 (x1 + 1))), (2, .int (i3 (0))), (0, .ref (gA G (5 + k))), (1, .int (i3 (x1)))]) hx hb dX3_crackOver_5 rfl hl (by decide) rfl (fun ls hl => ?_)
  refine k_const hx hb dX3_crackOver_6 ?_
  refine lv_istore (lv' := [(4, .int (i3 (0))), (3, .int (i3 (x1 + 1))), (2, .int (i3 (0))), (0, .ref (gA G (5 + k))), (1, .int (i3 (x1)))]) hx hb dX3_crackOver_7 hl (by decide) rfl (fun ls hl => ?_)
  obtain ⟨q18, hq18, hf⟩ := bind_el hf
  refine L17  (0, x1 + 1, 0, M0) q18 hq18 ?_ (show inR (0) by decide) hg1 (show inR (0) by decide) _ _ _ hW hS (lv_sub hl [3, 2, 1, 0] rfl)
  intro hv19 H locs ls hW hS hl
  refine lv_aload_n hx hb dX3_crackOver_67 rfl (lv_at hl 0 rfl) ?_
  refine k_bipush hx hb dX3_crackOver_68 (by decide +kernel) ?_
  refine lv_iload_n hx hb dX3_crackOver_70 rfl (lv_at hl 1 rfl) ?_
  obtain ⟨m20, hm20, hf⟩ := bind_el hf
  refine k_cVv (As := [.int (i3 (14)), .int (i3 (q18.1))]) (rest := []) ⟨hx, hb, hml, hown, hts⟩ (mW_count l G q18.2 (k) hk 14 (show inR (14) by decide) q18.1 hv19 m20 hm20) (cwV 2 hts (gbV (inB_7 _ (List.mem_of_getElem? (i := 6) rfl)) (inB_5 _ (List.mem_of_getElem? (i := 20) rfl)) (inB_5 _ (List.mem_of_getElem? (i := 21) rfl)) (inB_1 _ (List.mem_of_getElem? (i := 12) rfl)) (inB_5 _ (List.mem_of_getElem? (i := 22) rfl))) rfl rfl rfl (by decide +kernel) ⟨Nat.le_of_ble_eq_true rfl, Nat.le_of_ble_eq_true rfl⟩) (rv_wall hk hW) hW hS rfl hl.1 rfl (lv_room (Nat.le_of_ble_eq_true rfl)) dX3_crackOver_71 ⟨Nat.zero_le _, Nat.zero_le _⟩ (fun H locs hW hS => ?_)
  refine lv_iload_n hx hb dX3_crackOver_74 rfl (lv_at hl 1 rfl) ?_
  obtain rfl := some_el hf
  exact k_ret hx hb hr hlocks hW hS rfl hv19 dX3_crackOver_75
set_option maxHeartbeats 4000000 in
set_option maxRecDepth 100000 in
theorem mW_bring (l : Launch) (G : gG) (M0 : MemG) (k : Nat) (hk : k < 11) (x1 : Int) (hx1 : inR x1) (x2 : Int) (hx2 : inR x2) (x3 : Int) (hx3 : inR x3) (x4 : Int) (hx4 : inR x4) (r : MemG × Int) (hf : fW_bring M0 k x1 x2 x3 x4 = some r) : Met l yX3_bring (wb yX3_bring cX3_bring 5 (some .int)) ({ frames := 3, cells := 0, slots := 0, locals := 68 } : Room) (PcG G M0 [.ref (gA G (5 + k)), .int (i3 (x1)), .int (i3 (x2)), .int (i3 (x3)), .int (i3 (x4))]) (QcI G r.1 r.2) 0 0 (PA G) := by
  refine Met.ofW (cc := cX3_bring) (maxL := 5) (ret := (some .int)) (by decide) rfl ?_
  intro p e s m args below meth c s₁ B hml hv0
  obtain ⟨hav, hW⟩ := hv0
  have hx := B.exec
  have hb := B.bytes
  have hr := B.returns
  have hts := atoms_spec (ws := (wb yX3_bring cX3_bring 5 (some .int))) B.pre
  have hown : s.vm.findClass RX3 = some m.cls := findClass_of_methodNamed B.named
  have hlocks := B.notSynchronized
  have hinX3 : ∀ w ∈ u_ws RX3 TX3 6, w ∈ (wb yX3_bring cX3_bring 5 (some .int)) := fun _ h => List.mem_cons_of_mem _ (inlX3 _ h)
  have hW : Wd G M0 s s.heap := hW
  have hS : va_S (PA G) s.heap s.heap [] := va_S.rf
  have hl := lv_entry [.ref (gA G (5 + k)), .int (i3 (x1)), .int (i3 (x2)), .int (i3 (x3)), .int (i3 (x4))] (n := 5) (Nat.le_of_ble_eq_true rfl)
  have hent := lg_entry_eq m [.ref (gA G (5 + k)), .int (i3 (x1)), .int (i3 (x2)), .int (i3 (x3)), .int (i3 (x4))] 5
  rw [← hav] at hent
  rw [hent]
  clear hent
  generalize (lg_sl [.ref (gA G (5 + k)), .int (i3 (x1)), .int (i3 (x2)), .int (i3 (x3)), .int (i3 (x4))] ++ List.replicate (5 - (lg_sl [.ref (gA G (5 + k)), .int (i3 (x1)), .int (i3 (x2)), .int (i3 (x3)), .int (i3 (x4))]).length) Slot.unset).toArray = ls at hl ⊢
  have hl : lv_has ls 5 [(0, .ref (gA G (5 + k))), (1, .int (i3 (x1))), (2, .int (i3 (x2))), (3, .int (i3 (x3))), (4, .int (i3 (x4)))] := hl
  unfold fW_bring at hf
  show W p l e ({ frames := 3, cells := 0, slots := 0, locals := 68 } : Room) s m args below meth c s.heap [] 0 0 (MQ below (QcI G r.1 r.2) args s 0 0 (PA G)) (F0 m 0 ls [])
  refine lv_aload_n hx hb dX3_bring_0 rfl (lv_at hl 0 rfl) ?_
  refine va_get (D := G.1) (ci := 3) (v := .ref (gA G (16 + 6 * k))) (C := RX3) (T := TX3) (N := 6) hx hb hts hinX3 hown hW.K hW.P (5 + k) (he_wall hk G M0) rfl 0 (by decide) (hts _ (List.mem_cons_of_mem _ (inB_2 _ (List.mem_of_getElem? (i := 13) rfl)))) (fun _ h9 => h9) rfl dX3_bring_1 ?_
  refine lv_iload_n hx hb dX3_bring_4 rfl (lv_at hl 1 rfl) ?_
  refine lv_iload_n hx hb dX3_bring_5 rfl (lv_at hl 2 rfl) ?_
  obtain ⟨m1, hm1, hf⟩ := bind_el hf
  refine k_cNv (As := [.ref (gA G (16 + 6 * k)), .int (i3 (x1)), .int (i3 (x2))]) (rest := []) ⟨hx, hb, hml, hown, hts⟩ (mG_put l G M0 (16 + 6 * k) (by omega) x1 hx1 x2 hx2 m1 hm1) ⟨va_cnB 3 hts (gbC (inB_6 _ (List.mem_of_getElem? (i := 0) rfl))) rfl rfl rfl (hW.N _ (List.mem_of_getElem? (i := 2) rfl)) (hts _ (List.mem_cons_of_mem _ (inB_1 _ (List.mem_of_getElem? (i := 2) rfl)))) (by decide +kernel) ⟨Nat.le_of_ble_eq_true rfl, Nat.le_of_ble_eq_true rfl⟩, (hts _ (List.mem_cons_of_mem _ (inB_5 _ (List.mem_of_getElem? (i := 23) rfl)))), trivial⟩ hW hS rfl hl.1 rfl (lv_room (Nat.le_of_ble_eq_true rfl)) dX3_bring_6 ⟨Nat.zero_le _, Nat.zero_le _⟩ (fun H locs hW hS => ?_)
  refine lv_aload_n hx hb dX3_bring_9 rfl (lv_at hl 0 rfl) ?_
  refine va_get (D := G.1) (ci := 3) (v := .ref (gA G (16 + 6 * k + 2))) (C := RX3) (T := TX3) (N := 6) hx hb hts hinX3 hown hW.K hW.P (5 + k) (he_wall hk G m1) rfl 2 (by decide) (hts _ (List.mem_cons_of_mem _ (inB_2 _ (List.mem_of_getElem? (i := 15) rfl)))) (fun _ h9 => h9) rfl dX3_bring_10 ?_
  refine lv_iload_n hx hb dX3_bring_13 rfl (lv_at hl 1 rfl) ?_
  refine lv_iload hx hb dX3_bring_14 (lv_at hl 4 rfl) ?_
  obtain ⟨m3, hm3, hf⟩ := bind_el hf
  refine k_cNv (As := [.ref (gA G (16 + 6 * k + 2)), .int (i3 (x1)), .int (i3 (x4))]) (rest := []) ⟨hx, hb, hml, hown, hts⟩ (mG_put l G m1 (16 + 6 * k + 2) (by omega) x1 hx1 x4 hx4 m3 hm3) ⟨va_cnB 3 hts (gbC (inB_6 _ (List.mem_of_getElem? (i := 0) rfl))) rfl rfl rfl (hW.N _ (List.mem_of_getElem? (i := 2) rfl)) (hts _ (List.mem_cons_of_mem _ (inB_1 _ (List.mem_of_getElem? (i := 2) rfl)))) (by decide +kernel) ⟨Nat.le_of_ble_eq_true rfl, Nat.le_of_ble_eq_true rfl⟩, (hts _ (List.mem_cons_of_mem _ (inB_5 _ (List.mem_of_getElem? (i := 23) rfl)))), trivial⟩ hW hS rfl hl.1 rfl (lv_room (Nat.le_of_ble_eq_true rfl)) dX3_bring_16 ⟨Nat.zero_le _, Nat.zero_le _⟩ (fun H locs hW hS => ?_)
  refine lv_aload_n hx hb dX3_bring_19 rfl (lv_at hl 0 rfl) ?_
  refine lv_iload_n hx hb dX3_bring_20 rfl (lv_at hl 1 rfl) ?_
  refine lv_iload_n hx hb dX3_bring_21 rfl (lv_at hl 3 rfl) ?_
  obtain ⟨m5, hm5, hf⟩ := bind_el hf
  refine k_cVv (As := [.int (i3 (x1)), .int (i3 (x3))]) (rest := []) ⟨hx, hb, hml, hown, hts⟩ (mW_changeSacks l G m3 (k) hk x1 hx1 x3 hx3 m5 hm5) (cwV 2 hts (gbV (inB_6 _ (List.mem_of_getElem? (i := 9) rfl)) (inB_6 _ (List.mem_of_getElem? (i := 10) rfl)) (inB_6 _ (List.mem_of_getElem? (i := 11) rfl)) (inB_1 _ (List.mem_of_getElem? (i := 12) rfl)) (inB_6 _ (List.mem_of_getElem? (i := 12) rfl))) rfl rfl rfl (by decide +kernel) ⟨Nat.le_of_ble_eq_true rfl, Nat.le_of_ble_eq_true rfl⟩) (rv_wall hk hW) hW hS rfl hl.1 rfl (lv_room (Nat.le_of_ble_eq_true rfl)) dX3_bring_22 ⟨Nat.zero_le _, Nat.zero_le _⟩ (fun H locs hW hS => ?_)
  refine lv_aload_n hx hb dX3_bring_25 rfl (lv_at hl 0 rfl) ?_
  refine lv_iload_n hx hb dX3_bring_26 rfl (lv_at hl 1 rfl) ?_
  obtain ⟨q7, hq7, hf⟩ := bind_el hf
  refine k_cVi (As := [.int (i3 (x1))]) (rest := []) ⟨hx, hb, hml, hown, hts⟩ (mW_crackOver l G m5 (k) hk x1 hx1 q7 hq7) (cwV 1 hts (gbV (inB_6 _ (List.mem_of_getElem? (i := 15) rfl)) (inB_6 _ (List.mem_of_getElem? (i := 16) rfl)) (inB_6 _ (List.mem_of_getElem? (i := 17) rfl)) (inB_1 _ (List.mem_of_getElem? (i := 12) rfl)) (inB_6 _ (List.mem_of_getElem? (i := 18) rfl))) rfl rfl rfl (by decide +kernel) ⟨Nat.le_of_ble_eq_true rfl, Nat.le_of_ble_eq_true rfl⟩) (rv_wall hk hW) hW hS rfl hl.1 rfl (lv_room (Nat.le_of_ble_eq_true rfl)) dX3_bring_27 ⟨Nat.zero_le _, Nat.zero_le _⟩ (fun hv8 H locs hW hS => ?_)
  obtain rfl := some_el hf
  exact k_ret hx hb hr hlocks hW hS rfl hv8 dX3_bring_30
set_option maxHeartbeats 4000000 in
set_option maxRecDepth 100000 in
theorem mW_kindIn (l : Launch) (G : gG) (M0 : MemG) (k : Nat) (hk : k < 11) (x1 : Int) (hx1 : inR x1) (r : Int) (hf : fW_kindIn M0 k x1 = r) : Met l yX3_kindIn (wb yX3_kindIn cX3_kindIn 2 (some .int)) ({ frames := 1, cells := 0, slots := 0, locals := 21 } : Room) (PcG G M0 [.ref (gA G (5 + k)), .int (i3 (x1))]) (QcI G M0 r) 0 0 (PA G) := by
  refine Met.ofW (cc := cX3_kindIn) (maxL := 2) (ret := (some .int)) (by decide) rfl ?_
  intro p e s m args below meth c s₁ B hml hv0
  obtain ⟨hav, hW⟩ := hv0
  have hx := B.exec
  have hb := B.bytes
  have hr := B.returns
  have hts := atoms_spec (ws := (wb yX3_kindIn cX3_kindIn 2 (some .int))) B.pre
  have hown : s.vm.findClass RX3 = some m.cls := findClass_of_methodNamed B.named
  have hlocks := B.notSynchronized
  have hinX3 : ∀ w ∈ u_ws RX3 TX3 6, w ∈ (wb yX3_kindIn cX3_kindIn 2 (some .int)) := fun _ h => List.mem_cons_of_mem _ (inlX3 _ h)
  have hW : Wd G M0 s s.heap := hW
  have hS : va_S (PA G) s.heap s.heap [] := va_S.rf
  have hl := lv_entry [.ref (gA G (5 + k)), .int (i3 (x1))] (n := 2) (Nat.le_of_ble_eq_true rfl)
  have hent := lg_entry_eq m [.ref (gA G (5 + k)), .int (i3 (x1))] 2
  rw [← hav] at hent
  rw [hent]
  clear hent
  generalize (lg_sl [.ref (gA G (5 + k)), .int (i3 (x1))] ++ List.replicate (2 - (lg_sl [.ref (gA G (5 + k)), .int (i3 (x1))]).length) Slot.unset).toArray = ls at hl ⊢
  have hl : lv_has ls 2 [(0, .ref (gA G (5 + k))), (1, .int (i3 (x1)))] := hl
  unfold fW_kindIn at hf
  show W p l e ({ frames := 1, cells := 0, slots := 0, locals := 21 } : Room) s m args below meth c s.heap [] 0 0 (MQ below (QcI G M0 r) args s 0 0 (PA G)) (F0 m 0 ls [])
  refine lv_aload_n hx hb dX3_kindIn_0 rfl (lv_at hl 0 rfl) ?_
  refine va_get (D := G.1) (ci := 3) (v := .ref (gA G (16 + 6 * k))) (C := RX3) (T := TX3) (N := 6) hx hb hts hinX3 hown hW.K hW.P (5 + k) (he_wall hk G M0) rfl 0 (by decide) (hts _ (List.mem_cons_of_mem _ (inB_2 _ (List.mem_of_getElem? (i := 13) rfl)))) (fun _ h9 => h9) rfl dX3_kindIn_1 ?_
  refine lv_iload_n hx hb dX3_kindIn_4 rfl (lv_at hl 1 rfl) ?_
  refine k_cNi (As := [.ref (gA G (16 + 6 * k)), .int (i3 (x1))]) (rest := []) ⟨hx, hb, hml, hown, hts⟩ (mG_at l G M0 (16 + 6 * k) (by omega) x1 hx1 _ rfl) ⟨va_cnB 2 hts (gbC (inB_5 _ (List.mem_of_getElem? (i := 2) rfl))) rfl rfl rfl (hW.N _ (List.mem_of_getElem? (i := 1) rfl)) (hts _ (List.mem_cons_of_mem _ (inB_1 _ (List.mem_of_getElem? (i := 2) rfl)))) (by decide +kernel) ⟨Nat.le_of_ble_eq_true rfl, Nat.le_of_ble_eq_true rfl⟩, (hts _ (List.mem_cons_of_mem _ (inB_5 _ (List.mem_of_getElem? (i := 1) rfl)))), trivial⟩ hW hS rfl hl.1 rfl (lv_room (Nat.le_of_ble_eq_true rfl)) dX3_kindIn_5 ⟨Nat.zero_le _, Nat.zero_le _⟩ (fun hv1 H locs hW hS => ?_)
  subst hf
  exact k_ret hx hb hr hlocks hW hS rfl hv1 dX3_kindIn_8
set_option maxHeartbeats 4000000 in
set_option maxRecDepth 100000 in
theorem mW_isEmpty (l : Launch) (G : gG) (M0 : MemG) (k : Nat) (hk : k < 11) (x1 : Int) (hx1 : inR x1) (r : Int) (hf : fW_isEmpty M0 k x1 = r) : Met l yX3_isEmpty (wb yX3_isEmpty cX3_isEmpty 2 (some .boolean)) ({ frames := 1, cells := 0, slots := 0, locals := 21 } : Room) (PcG G M0 [.ref (gA G (5 + k)), .int (i3 (x1))]) (QcZ G M0 r) 0 0 (PA G) := by
  refine Met.ofW (cc := cX3_isEmpty) (maxL := 2) (ret := (some .boolean)) (by decide) rfl ?_
  intro p e s m args below meth c s₁ B hml hv0
  obtain ⟨hav, hW⟩ := hv0
  have hx := B.exec
  have hb := B.bytes
  have hr := B.returns
  have hts := atoms_spec (ws := (wb yX3_isEmpty cX3_isEmpty 2 (some .boolean))) B.pre
  have hown : s.vm.findClass RX3 = some m.cls := findClass_of_methodNamed B.named
  have hlocks := B.notSynchronized
  have hinX3 : ∀ w ∈ u_ws RX3 TX3 6, w ∈ (wb yX3_isEmpty cX3_isEmpty 2 (some .boolean)) := fun _ h => List.mem_cons_of_mem _ (inlX3 _ h)
  have hW : Wd G M0 s s.heap := hW
  have hS : va_S (PA G) s.heap s.heap [] := va_S.rf
  have hl := lv_entry [.ref (gA G (5 + k)), .int (i3 (x1))] (n := 2) (Nat.le_of_ble_eq_true rfl)
  have hent := lg_entry_eq m [.ref (gA G (5 + k)), .int (i3 (x1))] 2
  rw [← hav] at hent
  rw [hent]
  clear hent
  generalize (lg_sl [.ref (gA G (5 + k)), .int (i3 (x1))] ++ List.replicate (2 - (lg_sl [.ref (gA G (5 + k)), .int (i3 (x1))]).length) Slot.unset).toArray = ls at hl ⊢
  have hl : lv_has ls 2 [(0, .ref (gA G (5 + k))), (1, .int (i3 (x1)))] := hl
  unfold fW_isEmpty at hf
  show W p l e ({ frames := 1, cells := 0, slots := 0, locals := 21 } : Room) s m args below meth c s.heap [] 0 0 (MQ below (QcZ G M0 r) args s 0 0 (PA G)) (F0 m 0 ls [])
  refine lv_aload_n hx hb dX3_isEmpty_0 rfl (lv_at hl 0 rfl) ?_
  refine va_get (D := G.1) (ci := 3) (v := .ref (gA G (16 + 6 * k + 1))) (C := RX3) (T := TX3) (N := 6) hx hb hts hinX3 hown hW.K hW.P (5 + k) (he_wall hk G M0) rfl 1 (by decide) (hts _ (List.mem_cons_of_mem _ (inB_2 _ (List.mem_of_getElem? (i := 14) rfl)))) (fun _ h9 => h9) rfl dX3_isEmpty_1 ?_
  refine lv_iload_n hx hb dX3_isEmpty_4 rfl (lv_at hl 1 rfl) ?_
  refine k_cNi (As := [.ref (gA G (16 + 6 * k + 1)), .int (i3 (x1))]) (rest := []) ⟨hx, hb, hml, hown, hts⟩ (mG_at l G M0 (16 + 6 * k + 1) (by omega) x1 hx1 _ rfl) ⟨va_cnB 2 hts (gbC (inB_5 _ (List.mem_of_getElem? (i := 2) rfl))) rfl rfl rfl (hW.N _ (List.mem_of_getElem? (i := 1) rfl)) (hts _ (List.mem_cons_of_mem _ (inB_1 _ (List.mem_of_getElem? (i := 2) rfl)))) (by decide +kernel) ⟨Nat.le_of_ble_eq_true rfl, Nat.le_of_ble_eq_true rfl⟩, (hts _ (List.mem_cons_of_mem _ (inB_5 _ (List.mem_of_getElem? (i := 1) rfl)))), trivial⟩ hW hS rfl hl.1 rfl (lv_room (Nat.le_of_ble_eq_true rfl)) dX3_isEmpty_5 ⟨Nat.zero_le _, Nat.zero_le _⟩ (fun hv1 H locs hW hS => ?_)
  refine k_if_ne (tgt := 15) hx hb hv1 dX3_isEmpty_8 (by decide) (fun hc2 => ?_) (fun hc2 => ?_)
  · rw [if_neg hc2] at hf
    refine k_const hx hb dX3_isEmpty_15 ?_
    subst hf
    exact k_retz hx hb hr hlocks hW hS rfl (show (0 : Int) = 0 ∨ (0 : Int) = 1 by decide) dX3_isEmpty_16
  · rw [if_pos hc2] at hf
    refine k_const hx hb dX3_isEmpty_11 ?_
    refine lv_goto (tgt := 16) hx hb dX3_isEmpty_12 (by decide) ?_
    subst hf
    exact k_retz hx hb hr hlocks hW hS rfl (show (1 : Int) = 0 ∨ (1 : Int) = 1 by decide) dX3_isEmpty_16
set_option maxHeartbeats 4000000 in
set_option maxRecDepth 100000 in
theorem mW_remove (l : Launch) (G : gG) (M0 : MemG) (k : Nat) (hk : k < 11) (x1 : Int) (hx1 : inR x1) (x2 : Int) (hx2 : inR x2) (r : MemG) (hf : fW_remove M0 k x1 x2 = some r) : Met l yX3_remove (wb yX3_remove cX3_remove 3 none) ({ frames := 2, cells := 0, slots := 0, locals := 46 } : Room) (PcG G M0 [.ref (gA G (5 + k)), .int (i3 (x1)), .int (i3 (x2))]) (QcV G r) 0 0 (PA G) := by
  refine Met.ofW (cc := cX3_remove) (maxL := 3) (ret := none) (by decide) rfl ?_
  intro p e s m args below meth c s₁ B hml hv0
  obtain ⟨hav, hW⟩ := hv0
  have hx := B.exec
  have hb := B.bytes
  have hr := B.returns
  have hts := atoms_spec (ws := (wb yX3_remove cX3_remove 3 none)) B.pre
  have hown : s.vm.findClass RX3 = some m.cls := findClass_of_methodNamed B.named
  have hlocks := B.notSynchronized
  have hinX3 : ∀ w ∈ u_ws RX3 TX3 6, w ∈ (wb yX3_remove cX3_remove 3 none) := fun _ h => List.mem_cons_of_mem _ (inlX3 _ h)
  have hW : Wd G M0 s s.heap := hW
  have hS : va_S (PA G) s.heap s.heap [] := va_S.rf
  have hl := lv_entry [.ref (gA G (5 + k)), .int (i3 (x1)), .int (i3 (x2))] (n := 3) (Nat.le_of_ble_eq_true rfl)
  have hent := lg_entry_eq m [.ref (gA G (5 + k)), .int (i3 (x1)), .int (i3 (x2))] 3
  rw [← hav] at hent
  rw [hent]
  clear hent
  generalize (lg_sl [.ref (gA G (5 + k)), .int (i3 (x1)), .int (i3 (x2))] ++ List.replicate (3 - (lg_sl [.ref (gA G (5 + k)), .int (i3 (x1)), .int (i3 (x2))]).length) Slot.unset).toArray = ls at hl ⊢
  have hl : lv_has ls 3 [(0, .ref (gA G (5 + k))), (1, .int (i3 (x1))), (2, .int (i3 (x2)))] := hl
  unfold fW_remove at hf
  show W p l e ({ frames := 2, cells := 0, slots := 0, locals := 46 } : Room) s m args below meth c s.heap [] 0 0 (MQ below (QcV G r) args s 0 0 (PA G)) (F0 m 0 ls [])
  refine lv_aload_n hx hb dX3_remove_0 rfl (lv_at hl 0 rfl) ?_
  refine lv_iload_n hx hb dX3_remove_1 rfl (lv_at hl 1 rfl) ?_
  refine lv_iload_n hx hb dX3_remove_2 rfl (lv_at hl 2 rfl) ?_
  refine k_neg hx hb dX3_remove_3 ?_
  obtain ⟨hg1, hf⟩ := gd_el hf
  obtain ⟨m2, hm2, hf⟩ := bind_el hf
  refine k_cVv (As := [.int (i3 (x1)), .int (i3 (-x2))]) (rest := []) ⟨hx, hb, hml, hown, hts⟩ (mW_changeSacks l G M0 (k) hk x1 hx1 (-x2) hg1 m2 hm2) (cwV 2 hts (gbV (inB_6 _ (List.mem_of_getElem? (i := 9) rfl)) (inB_6 _ (List.mem_of_getElem? (i := 10) rfl)) (inB_6 _ (List.mem_of_getElem? (i := 11) rfl)) (inB_1 _ (List.mem_of_getElem? (i := 12) rfl)) (inB_6 _ (List.mem_of_getElem? (i := 12) rfl))) rfl rfl rfl (by decide +kernel) ⟨Nat.le_of_ble_eq_true rfl, Nat.le_of_ble_eq_true rfl⟩) (rv_wall hk hW) hW hS rfl hl.1 rfl (lv_room (Nat.le_of_ble_eq_true rfl)) dX3_remove_4 ⟨Nat.zero_le _, Nat.zero_le _⟩ (fun H locs hW hS => ?_)
  refine lv_aload_n hx hb dX3_remove_7 rfl (lv_at hl 0 rfl) ?_
  refine lv_iload_n hx hb dX3_remove_8 rfl (lv_at hl 1 rfl) ?_
  refine k_cVz (As := [.int (i3 (x1))]) (rest := []) ⟨hx, hb, hml, hown, hts⟩ (mW_isEmpty l G m2 (k) hk x1 hx1 _ rfl) (cwV 1 hts (gbV (inB_8 _ (List.mem_of_getElem? (i := 10) rfl)) (inB_4 _ (List.mem_of_getElem? (i := 22) rfl)) (inB_4 _ (List.mem_of_getElem? (i := 23) rfl)) (inB_1 _ (List.mem_of_getElem? (i := 12) rfl)) (inB_5 _ (List.mem_of_getElem? (i := 0) rfl))) rfl rfl rfl (by decide +kernel) ⟨Nat.le_of_ble_eq_true rfl, Nat.le_of_ble_eq_true rfl⟩) (rv_wall hk hW) hW hS rfl hl.1 rfl (lv_room (Nat.le_of_ble_eq_true rfl)) dX3_remove_9 ⟨Nat.zero_le _, Nat.zero_le _⟩ (fun hv4 H locs hW hS => ?_)
  refine k_if_eq (tgt := 33) hx hb (inR_z hv4) dX3_remove_12 (by decide) (fun hc5 => ?_) (fun hc5 => ?_)
  · rw [if_pos hc5] at hf
    obtain rfl := some_el hf
    exact k_retv hx hb hr hlocks hW hS rfl dX3_remove_33
  · rw [if_neg hc5] at hf
    refine lv_aload_n hx hb dX3_remove_15 rfl (lv_at hl 0 rfl) ?_
    refine va_get (D := G.1) (ci := 3) (v := .ref (gA G (16 + 6 * k))) (C := RX3) (T := TX3) (N := 6) hx hb hts hinX3 hown hW.K hW.P (5 + k) (he_wall hk G m2) rfl 0 (by decide) (hts _ (List.mem_cons_of_mem _ (inB_2 _ (List.mem_of_getElem? (i := 13) rfl)))) (fun _ h9 => h9) rfl dX3_remove_16 ?_
    refine lv_iload_n hx hb dX3_remove_19 rfl (lv_at hl 1 rfl) ?_
    refine k_const hx hb dX3_remove_20 ?_
    obtain ⟨m6, hm6, hf⟩ := bind_el hf
    refine k_cNv (As := [.ref (gA G (16 + 6 * k)), .int (i3 (x1)), .int (i3 (0))]) (rest := []) ⟨hx, hb, hml, hown, hts⟩ (mG_put l G m2 (16 + 6 * k) (by omega) x1 hx1 0 (show inR (0) by decide) m6 hm6) ⟨va_cnB 3 hts (gbC (inB_6 _ (List.mem_of_getElem? (i := 0) rfl))) rfl rfl rfl (hW.N _ (List.mem_of_getElem? (i := 2) rfl)) (hts _ (List.mem_cons_of_mem _ (inB_1 _ (List.mem_of_getElem? (i := 2) rfl)))) (by decide +kernel) ⟨Nat.le_of_ble_eq_true rfl, Nat.le_of_ble_eq_true rfl⟩, (hts _ (List.mem_cons_of_mem _ (inB_5 _ (List.mem_of_getElem? (i := 23) rfl)))), trivial⟩ hW hS rfl hl.1 rfl (lv_room (Nat.le_of_ble_eq_true rfl)) dX3_remove_21 ⟨Nat.zero_le _, Nat.zero_le _⟩ (fun H locs hW hS => ?_)
    refine lv_aload_n hx hb dX3_remove_24 rfl (lv_at hl 0 rfl) ?_
    refine va_get (D := G.1) (ci := 3) (v := .ref (gA G (16 + 6 * k + 2))) (C := RX3) (T := TX3) (N := 6) hx hb hts hinX3 hown hW.K hW.P (5 + k) (he_wall hk G m6) rfl 2 (by decide) (hts _ (List.mem_cons_of_mem _ (inB_2 _ (List.mem_of_getElem? (i := 15) rfl)))) (fun _ h9 => h9) rfl dX3_remove_25 ?_
    refine lv_iload_n hx hb dX3_remove_28 rfl (lv_at hl 1 rfl) ?_
    refine k_const hx hb dX3_remove_29 ?_
    obtain ⟨m8, hm8, hf⟩ := bind_el hf
    refine k_cNv (As := [.ref (gA G (16 + 6 * k + 2)), .int (i3 (x1)), .int (i3 (0))]) (rest := []) ⟨hx, hb, hml, hown, hts⟩ (mG_put l G m6 (16 + 6 * k + 2) (by omega) x1 hx1 0 (show inR (0) by decide) m8 hm8) ⟨va_cnB 3 hts (gbC (inB_6 _ (List.mem_of_getElem? (i := 0) rfl))) rfl rfl rfl (hW.N _ (List.mem_of_getElem? (i := 2) rfl)) (hts _ (List.mem_cons_of_mem _ (inB_1 _ (List.mem_of_getElem? (i := 2) rfl)))) (by decide +kernel) ⟨Nat.le_of_ble_eq_true rfl, Nat.le_of_ble_eq_true rfl⟩, (hts _ (List.mem_cons_of_mem _ (inB_5 _ (List.mem_of_getElem? (i := 23) rfl)))), trivial⟩ hW hS rfl hl.1 rfl (lv_room (Nat.le_of_ble_eq_true rfl)) dX3_remove_30 ⟨Nat.zero_le _, Nat.zero_le _⟩ (fun H locs hW hS => ?_)
    obtain rfl := some_el hf
    exact k_retv hx hb hr hlocks hW hS rfl dX3_remove_33
set_option maxHeartbeats 4000000 in
set_option maxRecDepth 100000 in
theorem mW_sacksIn (l : Launch) (G : gG) (M0 : MemG) (k : Nat) (hk : k < 11) (x1 : Int) (hx1 : inR x1) (r : Int) (hf : fW_sacksIn M0 k x1 = r) : Met l yX3_sacksIn (wb yX3_sacksIn cX3_sacksIn 2 (some .int)) ({ frames := 1, cells := 0, slots := 0, locals := 21 } : Room) (PcG G M0 [.ref (gA G (5 + k)), .int (i3 (x1))]) (QcI G M0 r) 0 0 (PA G) := by
  refine Met.ofW (cc := cX3_sacksIn) (maxL := 2) (ret := (some .int)) (by decide) rfl ?_
  intro p e s m args below meth c s₁ B hml hv0
  obtain ⟨hav, hW⟩ := hv0
  have hx := B.exec
  have hb := B.bytes
  have hr := B.returns
  have hts := atoms_spec (ws := (wb yX3_sacksIn cX3_sacksIn 2 (some .int))) B.pre
  have hown : s.vm.findClass RX3 = some m.cls := findClass_of_methodNamed B.named
  have hlocks := B.notSynchronized
  have hinX3 : ∀ w ∈ u_ws RX3 TX3 6, w ∈ (wb yX3_sacksIn cX3_sacksIn 2 (some .int)) := fun _ h => List.mem_cons_of_mem _ (inlX3 _ h)
  have hW : Wd G M0 s s.heap := hW
  have hS : va_S (PA G) s.heap s.heap [] := va_S.rf
  have hl := lv_entry [.ref (gA G (5 + k)), .int (i3 (x1))] (n := 2) (Nat.le_of_ble_eq_true rfl)
  have hent := lg_entry_eq m [.ref (gA G (5 + k)), .int (i3 (x1))] 2
  rw [← hav] at hent
  rw [hent]
  clear hent
  generalize (lg_sl [.ref (gA G (5 + k)), .int (i3 (x1))] ++ List.replicate (2 - (lg_sl [.ref (gA G (5 + k)), .int (i3 (x1))]).length) Slot.unset).toArray = ls at hl ⊢
  have hl : lv_has ls 2 [(0, .ref (gA G (5 + k))), (1, .int (i3 (x1)))] := hl
  unfold fW_sacksIn at hf
  show W p l e ({ frames := 1, cells := 0, slots := 0, locals := 21 } : Room) s m args below meth c s.heap [] 0 0 (MQ below (QcI G M0 r) args s 0 0 (PA G)) (F0 m 0 ls [])
  refine lv_aload_n hx hb dX3_sacksIn_0 rfl (lv_at hl 0 rfl) ?_
  refine va_get (D := G.1) (ci := 3) (v := .ref (gA G (16 + 6 * k + 1))) (C := RX3) (T := TX3) (N := 6) hx hb hts hinX3 hown hW.K hW.P (5 + k) (he_wall hk G M0) rfl 1 (by decide) (hts _ (List.mem_cons_of_mem _ (inB_2 _ (List.mem_of_getElem? (i := 14) rfl)))) (fun _ h9 => h9) rfl dX3_sacksIn_1 ?_
  refine lv_iload_n hx hb dX3_sacksIn_4 rfl (lv_at hl 1 rfl) ?_
  refine k_cNi (As := [.ref (gA G (16 + 6 * k + 1)), .int (i3 (x1))]) (rest := []) ⟨hx, hb, hml, hown, hts⟩ (mG_at l G M0 (16 + 6 * k + 1) (by omega) x1 hx1 _ rfl) ⟨va_cnB 2 hts (gbC (inB_5 _ (List.mem_of_getElem? (i := 2) rfl))) rfl rfl rfl (hW.N _ (List.mem_of_getElem? (i := 1) rfl)) (hts _ (List.mem_cons_of_mem _ (inB_1 _ (List.mem_of_getElem? (i := 2) rfl)))) (by decide +kernel) ⟨Nat.le_of_ble_eq_true rfl, Nat.le_of_ble_eq_true rfl⟩, (hts _ (List.mem_cons_of_mem _ (inB_5 _ (List.mem_of_getElem? (i := 1) rfl)))), trivial⟩ hW hS rfl hl.1 rfl (lv_room (Nat.le_of_ble_eq_true rfl)) dX3_sacksIn_5 ⟨Nat.zero_le _, Nat.zero_le _⟩ (fun hv1 H locs hW hS => ?_)
  subst hf
  exact k_ret hx hb hr hlocks hW hS rfl hv1 dX3_sacksIn_8
set_option maxHeartbeats 4000000 in
set_option maxRecDepth 100000 in
theorem mW_oldestOfKind (l : Launch) (G : gG) (M0 : MemG) (k : Nat) (hk : k < 11) (x1 : Int) (hx1 : inR x1) (r : Int) (hf : fW_oldestOfKind M0 k x1 = some r) : Met l yX3_oldestOfKind (wb yX3_oldestOfKind cX3_oldestOfKind 4 (some .int)) ({ frames := 2, cells := 0, slots := 0, locals := 42 } : Room) (PcG G M0 [.ref (gA G (5 + k)), .int (i3 (x1))]) (QcI G M0 r) 0 0 (PA G) := by
  refine Met.ofW (cc := cX3_oldestOfKind) (maxL := 4) (ret := (some .int)) (by decide) rfl ?_
  intro p e s m args below meth c s₁ B hml hv0
  obtain ⟨hav, hW⟩ := hv0
  have hx := B.exec
  have hb := B.bytes
  have hr := B.returns
  have hts := atoms_spec (ws := (wb yX3_oldestOfKind cX3_oldestOfKind 4 (some .int))) B.pre
  have hown : s.vm.findClass RX3 = some m.cls := findClass_of_methodNamed B.named
  have hlocks := B.notSynchronized
  have hW : Wd G M0 s s.heap := hW
  have hS : va_S (PA G) s.heap s.heap [] := va_S.rf
  have hl := lv_entry [.ref (gA G (5 + k)), .int (i3 (x1))] (n := 4) (Nat.le_of_ble_eq_true rfl)
  have hent := lg_entry_eq m [.ref (gA G (5 + k)), .int (i3 (x1))] 4
  rw [← hav] at hent
  rw [hent]
  clear hent
  generalize (lg_sl [.ref (gA G (5 + k)), .int (i3 (x1))] ++ List.replicate (4 - (lg_sl [.ref (gA G (5 + k)), .int (i3 (x1))]).length) Slot.unset).toArray = ls at hl ⊢
  have hl : lv_has ls 4 [(0, .ref (gA G (5 + k))), (1, .int (i3 (x1)))] := hl
  unfold fW_oldestOfKind at hf
  show W p l e ({ frames := 2, cells := 0, slots := 0, locals := 42 } : Room) s m args below meth c s.heap [] 0 0 (MQ below (QcI G M0 r) args s 0 0 (PA G)) (F0 m 0 ls [])
  have L13 : ∀ (x1 : Int) (hx1 : inR x1), ∀ (z : (Int × Int)) (q : (Int)), loopN (fW_oldestOfKind_l5 M0 k x1) 200 z = some q → (q = r) → (inR (z.1) → inR (z.2) → ∀ (H : Heap) (locs : List Loc) (ls : Array Slot), Wd G (M0) s H → va_S (PA G) s.heap H locs → lv_has ls 4 [(0, .ref (gA G (5 + k))), (1, .int (i3 (x1))), (2, .int (i3 (z.1))), (3, .int (i3 (z.2)))] → W p l e ({ frames := 2, cells := 0, slots := 0, locals := 42 } : Room) s m args below meth c H locs 0 0 (MQ below (QcI G M0 r) args s 0 0 (PA G)) (F0 m 5 ls [])) := by
    intro x1 hx1 z q hq hex
    refine loop_rule (fW_oldestOfKind_l5 M0 k x1) (fun z => inR (z.1) → inR (z.2) → ∀ (H : Heap) (locs : List Loc) (ls : Array Slot), Wd G (M0) s H → va_S (PA G) s.heap H locs → lv_has ls 4 [(0, .ref (gA G (5 + k))), (1, .int (i3 (x1))), (2, .int (i3 (z.1))), (3, .int (i3 (z.2)))] → W p l e ({ frames := 2, cells := 0, slots := 0, locals := 42 } : Room) s m args below meth c H locs 0 0 (MQ below (QcI G M0 r) args s 0 0 (PA G)) (F0 m 5 ls [])) (fun q => (q = r)) ?_ 200 z q hq hex
    clear hq hex q z
    intro z x hf hK hz2 hz3 H locs ls hW hS hl
    have J4 : ∀ (x2 : Int) (x3 : Int), fW_oldestOfKind_j49 M0 k x1 x2 x3 = some x → inR x2 → inR x3 →  ∀ (H : Heap) (locs : List Loc) (ls : Array Slot), Wd G M0 s H → va_S (PA G) s.heap H locs → lv_has ls 4 [(0, .ref (gA G (5 + k))), (1, .int (i3 (x1))), (2, .int (i3 (x2))), (3, .int (i3 (x3)))] → W p l e ({ frames := 2, cells := 0, slots := 0, locals := 42 } : Room) s m args below meth c H locs 0 0 (MQ below (QcI G M0 r) args s 0 0 (PA G)) (F0 m 49 ls []) := by
      intro x2 x3 hf hx2 hx3 H locs ls hW hS hl
      unfold fW_oldestOfKind_j49 at hf
      obtain ⟨hg5, hf⟩ := gd_el hf
      refine k_iinc (lv' := [(3, .int (i3 (x3 + 1))), (0, .ref (gA G (5 + k))), (1, .int (i3 (x1))), (2, .int (i3 (x2)))]) hx hb dX3_oldestOfKind_49 hl (k := 3) rfl (by decide) rfl (fun ls hl => ?_)
      refine lv_goto (tgt := 5) hx hb dX3_oldestOfKind_52 (by decide) ?_
      obtain rfl := some_el hf
      exact hK hx2 hg5 _ _ _ hW hS (lv_sub hl [1, 2, 3, 0] rfl)
    have J9 : ∀ (x3 : Int), fW_oldestOfKind_j47 M0 k x1 x3 = some x → inR x3 →  ∀ (H : Heap) (locs : List Loc) (ls : Array Slot), Wd G M0 s H → va_S (PA G) s.heap H locs → lv_has ls 4 [(0, .ref (gA G (5 + k))), (1, .int (i3 (x1))), (3, .int (i3 (x3)))] → W p l e ({ frames := 2, cells := 0, slots := 0, locals := 42 } : Room) s m args below meth c H locs 0 0 (MQ below (QcI G M0 r) args s 0 0 (PA G)) (F0 m 47 ls []) := by
      intro x3 hf hx3 H locs ls hW hS hl
      unfold fW_oldestOfKind_j47 at hf
      refine lv_iload_n hx hb dX3_oldestOfKind_47 rfl (lv_at hl 2 rfl) ?_
      refine lv_istore_n (lv' := [(2, .int (i3 (x3))), (0, .ref (gA G (5 + k))), (1, .int (i3 (x1))), (3, .int (i3 (x3)))]) hx hb dX3_oldestOfKind_48 rfl hl (by decide) rfl (fun ls hl => ?_)
      exact J4 (x3) (x3) hf hx3 hx3 _ _ _ hW hS (lv_sub hl [1, 2, 0, 3] rfl)
    unfold fW_oldestOfKind_l5 at hf
    refine lv_iload_n hx hb dX3_oldestOfKind_5 rfl (lv_at hl 3 rfl) ?_
    refine k_bipush hx hb dX3_oldestOfKind_6 (by decide +kernel) ?_
    refine k_icmp_ge (tgt := 55) hx hb hz3 (show inR (32) by decide) dX3_oldestOfKind_8 (by decide) (fun hc1 => ?_) (fun hc1 => ?_)
    · rw [if_neg hc1] at hf
      refine lv_iload_n hx hb dX3_oldestOfKind_55 rfl (lv_at hl 2 rfl) ?_
      obtain rfl := some_el hf
      obtain rfl : z.1 = r := hK
      exact k_ret hx hb hr hlocks hW hS rfl hz2 dX3_oldestOfKind_56
    · rw [if_pos hc1] at hf
      refine lv_aload_n hx hb dX3_oldestOfKind_11 rfl (lv_at hl 0 rfl) ?_
      refine lv_iload_n hx hb dX3_oldestOfKind_12 rfl (lv_at hl 3 rfl) ?_
      refine k_cVz (As := [.int (i3 (z.2))]) (rest := []) ⟨hx, hb, hml, hown, hts⟩ (mW_isEmpty l G M0 (k) hk z.2 hz3 _ rfl) (cwV 1 hts (gbV (inB_8 _ (List.mem_of_getElem? (i := 10) rfl)) (inB_4 _ (List.mem_of_getElem? (i := 22) rfl)) (inB_4 _ (List.mem_of_getElem? (i := 23) rfl)) (inB_1 _ (List.mem_of_getElem? (i := 12) rfl)) (inB_5 _ (List.mem_of_getElem? (i := 0) rfl))) rfl rfl rfl (by decide +kernel) ⟨Nat.le_of_ble_eq_true rfl, Nat.le_of_ble_eq_true rfl⟩) (rv_wall hk hW) hW hS rfl hl.1 rfl (lv_room (Nat.le_of_ble_eq_true rfl)) dX3_oldestOfKind_13 ⟨Nat.zero_le _, Nat.zero_le _⟩ (fun hv2 H locs hW hS => ?_)
      refine k_if_ne (tgt := 49) hx hb (inR_z hv2) dX3_oldestOfKind_16 (by decide) (fun hc3 => ?_) (fun hc3 => ?_)
      · rw [if_neg hc3] at hf
        exact J4 (z.1) (z.2) hf hz2 hz3 _ _ _ hW hS (lv_sub hl [0, 1, 2, 3] rfl)
      · rw [if_pos hc3] at hf
        refine lv_aload_n hx hb dX3_oldestOfKind_19 rfl (lv_at hl 0 rfl) ?_
        refine lv_iload_n hx hb dX3_oldestOfKind_20 rfl (lv_at hl 3 rfl) ?_
        refine k_cVi (As := [.int (i3 (z.2))]) (rest := []) ⟨hx, hb, hml, hown, hts⟩ (mW_kindIn l G M0 (k) hk z.2 hz3 _ rfl) (cwV 1 hts (gbV (inB_9 _ (List.mem_of_getElem? (i := 0) rfl)) (inB_5 _ (List.mem_of_getElem? (i := 4) rfl)) (inB_5 _ (List.mem_of_getElem? (i := 5) rfl)) (inB_1 _ (List.mem_of_getElem? (i := 12) rfl)) (inB_5 _ (List.mem_of_getElem? (i := 6) rfl))) rfl rfl rfl (by decide +kernel) ⟨Nat.le_of_ble_eq_true rfl, Nat.le_of_ble_eq_true rfl⟩) (rv_wall hk hW) hW hS rfl hl.1 rfl (lv_room (Nat.le_of_ble_eq_true rfl)) dX3_oldestOfKind_21 ⟨Nat.zero_le _, Nat.zero_le _⟩ (fun hv6 H locs hW hS => ?_)
        refine lv_iload_n hx hb dX3_oldestOfKind_24 rfl (lv_at hl 1 rfl) ?_
        refine k_icmp_ne (tgt := 49) hx hb hv6 hx1 dX3_oldestOfKind_25 (by decide) (fun hc7 => ?_) (fun hc7 => ?_)
        · rw [if_neg hc7] at hf
          exact J4 (z.1) (z.2) hf hz2 hz3 _ _ _ hW hS (lv_sub hl [0, 1, 2, 3] rfl)
        · rw [if_pos hc7] at hf
          refine lv_iload_n hx hb dX3_oldestOfKind_28 rfl (lv_at hl 2 rfl) ?_
          refine k_bipush hx hb dX3_oldestOfKind_29 (by decide +kernel) ?_
          refine k_icmp_eq (tgt := 47) hx hb hz2 (show inR (-15) by decide) dX3_oldestOfKind_31 (by decide) (fun hc8 => ?_) (fun hc8 => ?_)
          · rw [if_pos hc8] at hf
            exact J9 (z.2) hf hz3 _ _ _ hW hS (lv_sub hl [0, 1, 3] rfl)
          · rw [if_neg hc8] at hf
            refine lv_aload_n hx hb dX3_oldestOfKind_34 rfl (lv_at hl 0 rfl) ?_
            refine lv_iload_n hx hb dX3_oldestOfKind_35 rfl (lv_at hl 3 rfl) ?_
            refine k_cVi (As := [.int (i3 (z.2))]) (rest := []) ⟨hx, hb, hml, hown, hts⟩ (mW_ageIn l G M0 (k) hk z.2 hz3 _ rfl) (cwV 1 hts (gbV (inB_13 _ (List.mem_of_getElem? (i := 5) rfl)) (inB_6 _ (List.mem_of_getElem? (i := 2) rfl)) (inB_6 _ (List.mem_of_getElem? (i := 3) rfl)) (inB_1 _ (List.mem_of_getElem? (i := 12) rfl)) (inB_6 _ (List.mem_of_getElem? (i := 4) rfl))) rfl rfl rfl (by decide +kernel) ⟨Nat.le_of_ble_eq_true rfl, Nat.le_of_ble_eq_true rfl⟩) (rv_wall hk hW) hW hS rfl hl.1 rfl (lv_room (Nat.le_of_ble_eq_true rfl)) dX3_oldestOfKind_36 ⟨Nat.zero_le _, Nat.zero_le _⟩ (fun hv10 H locs hW hS => ?_)
            refine lv_aload_n hx hb dX3_oldestOfKind_39 rfl (lv_at hl 0 rfl) ?_
            refine lv_iload_n hx hb dX3_oldestOfKind_40 rfl (lv_at hl 2 rfl) ?_
            refine k_cVi (As := [.int (i3 (z.1))]) (rest := [.int (i3 ((fW_ageIn M0 (k) z.2)))]) ⟨hx, hb, hml, hown, hts⟩ (mW_ageIn l G M0 (k) hk z.1 hz2 _ rfl) (cwV 1 hts (gbV (inB_13 _ (List.mem_of_getElem? (i := 5) rfl)) (inB_6 _ (List.mem_of_getElem? (i := 2) rfl)) (inB_6 _ (List.mem_of_getElem? (i := 3) rfl)) (inB_1 _ (List.mem_of_getElem? (i := 12) rfl)) (inB_6 _ (List.mem_of_getElem? (i := 4) rfl))) rfl rfl rfl (by decide +kernel) ⟨Nat.le_of_ble_eq_true rfl, Nat.le_of_ble_eq_true rfl⟩) (rv_wall hk hW) hW hS rfl hl.1 rfl (lv_room (Nat.le_of_ble_eq_true rfl)) dX3_oldestOfKind_41 ⟨Nat.zero_le _, Nat.zero_le _⟩ (fun hv11 H locs hW hS => ?_)
            refine k_icmp_le (tgt := 49) hx hb hv10 hv11 dX3_oldestOfKind_44 (by decide) (fun hc12 => ?_) (fun hc12 => ?_)
            · rw [if_neg hc12] at hf
              exact J4 (z.1) (z.2) hf hz2 hz3 _ _ _ hW hS (lv_sub hl [0, 1, 2, 3] rfl)
            · rw [if_pos hc12] at hf
              exact J9 (z.2) hf hz3 _ _ _ hW hS (lv_sub hl [0, 1, 3] rfl)
  refine k_bipush hx hb dX3_oldestOfKind_0 (by decide +kernel) ?_
  refine lv_istore_n (lv' := [(2, .int (i3 ((-15)))), (0, .ref (gA G (5 + k))), (1, .int (i3 (x1)))]) hx hb dX3_oldestOfKind_2 rfl hl (by decide) rfl (fun ls hl => ?_)
  refine k_const hx hb dX3_oldestOfKind_3 ?_
  refine lv_istore_n (lv' := [(3, .int (i3 (0))), (2, .int (i3 ((-15)))), (0, .ref (gA G (5 + k))), (1, .int (i3 (x1)))]) hx hb dX3_oldestOfKind_4 rfl hl (by decide) rfl (fun ls hl => ?_)
  exact L13 (x1) hx1 ((-15), 0) r hf rfl (show inR (-15) by decide) (show inR (0) by decide) _ _ _ hW hS (lv_sub hl [2, 3, 1, 0] rfl)
set_option maxHeartbeats 4000000 in
set_option maxRecDepth 100000 in
theorem mW_sacksOfKind (l : Launch) (G : gG) (M0 : MemG) (k : Nat) (hk : k < 11) (x1 : Int) (hx1 : inR x1) (r : Int) (hf : fW_sacksOfKind M0 k x1 = some r) : Met l yX3_sacksOfKind (wb yX3_sacksOfKind cX3_sacksOfKind 4 (some .int)) ({ frames := 2, cells := 0, slots := 0, locals := 42 } : Room) (PcG G M0 [.ref (gA G (5 + k)), .int (i3 (x1))]) (QcI G M0 r) 0 0 (PA G) := by
  refine Met.ofW (cc := cX3_sacksOfKind) (maxL := 4) (ret := (some .int)) (by decide) rfl ?_
  intro p e s m args below meth c s₁ B hml hv0
  obtain ⟨hav, hW⟩ := hv0
  have hx := B.exec
  have hb := B.bytes
  have hr := B.returns
  have hts := atoms_spec (ws := (wb yX3_sacksOfKind cX3_sacksOfKind 4 (some .int))) B.pre
  have hown : s.vm.findClass RX3 = some m.cls := findClass_of_methodNamed B.named
  have hlocks := B.notSynchronized
  have hW : Wd G M0 s s.heap := hW
  have hS : va_S (PA G) s.heap s.heap [] := va_S.rf
  have hl := lv_entry [.ref (gA G (5 + k)), .int (i3 (x1))] (n := 4) (Nat.le_of_ble_eq_true rfl)
  have hent := lg_entry_eq m [.ref (gA G (5 + k)), .int (i3 (x1))] 4
  rw [← hav] at hent
  rw [hent]
  clear hent
  generalize (lg_sl [.ref (gA G (5 + k)), .int (i3 (x1))] ++ List.replicate (4 - (lg_sl [.ref (gA G (5 + k)), .int (i3 (x1))]).length) Slot.unset).toArray = ls at hl ⊢
  have hl : lv_has ls 4 [(0, .ref (gA G (5 + k))), (1, .int (i3 (x1)))] := hl
  unfold fW_sacksOfKind at hf
  show W p l e ({ frames := 2, cells := 0, slots := 0, locals := 42 } : Room) s m args below meth c s.heap [] 0 0 (MQ below (QcI G M0 r) args s 0 0 (PA G)) (F0 m 0 ls [])
  have L8 : ∀ (x1 : Int) (hx1 : inR x1), ∀ (z : (Int × Int)) (q : (Int)), loopN (fW_sacksOfKind_l4 M0 k x1) 200 z = some q → (q = r) → (inR (z.1) → inR (z.2) → ∀ (H : Heap) (locs : List Loc) (ls : Array Slot), Wd G (M0) s H → va_S (PA G) s.heap H locs → lv_has ls 4 [(0, .ref (gA G (5 + k))), (1, .int (i3 (x1))), (2, .int (i3 (z.1))), (3, .int (i3 (z.2)))] → W p l e ({ frames := 2, cells := 0, slots := 0, locals := 42 } : Room) s m args below meth c H locs 0 0 (MQ below (QcI G M0 r) args s 0 0 (PA G)) (F0 m 4 ls [])) := by
    intro x1 hx1 z q hq hex
    refine loop_rule (fW_sacksOfKind_l4 M0 k x1) (fun z => inR (z.1) → inR (z.2) → ∀ (H : Heap) (locs : List Loc) (ls : Array Slot), Wd G (M0) s H → va_S (PA G) s.heap H locs → lv_has ls 4 [(0, .ref (gA G (5 + k))), (1, .int (i3 (x1))), (2, .int (i3 (z.1))), (3, .int (i3 (z.2)))] → W p l e ({ frames := 2, cells := 0, slots := 0, locals := 42 } : Room) s m args below meth c H locs 0 0 (MQ below (QcI G M0 r) args s 0 0 (PA G)) (F0 m 4 ls [])) (fun q => (q = r)) ?_ 200 z q hq hex
    clear hq hex q z
    intro z x hf hK hz2 hz3 H locs ls hW hS hl
    have J4 : ∀ (x2 : Int) (x3 : Int), fW_sacksOfKind_j27 M0 k x1 x2 x3 = some x → inR x2 → inR x3 →  ∀ (H : Heap) (locs : List Loc) (ls : Array Slot), Wd G M0 s H → va_S (PA G) s.heap H locs → lv_has ls 4 [(0, .ref (gA G (5 + k))), (1, .int (i3 (x1))), (2, .int (i3 (x2))), (3, .int (i3 (x3)))] → W p l e ({ frames := 2, cells := 0, slots := 0, locals := 42 } : Room) s m args below meth c H locs 0 0 (MQ below (QcI G M0 r) args s 0 0 (PA G)) (F0 m 27 ls []) := by
      intro x2 x3 hf hx2 hx3 H locs ls hW hS hl
      unfold fW_sacksOfKind_j27 at hf
      obtain ⟨hg5, hf⟩ := gd_el hf
      refine k_iinc (lv' := [(3, .int (i3 (x3 + 1))), (0, .ref (gA G (5 + k))), (1, .int (i3 (x1))), (2, .int (i3 (x2)))]) hx hb dX3_sacksOfKind_27 hl (k := 3) rfl (by decide) rfl (fun ls hl => ?_)
      refine lv_goto (tgt := 4) hx hb dX3_sacksOfKind_30 (by decide) ?_
      obtain rfl := some_el hf
      exact hK hx2 hg5 _ _ _ hW hS (lv_sub hl [1, 2, 3, 0] rfl)
    unfold fW_sacksOfKind_l4 at hf
    refine lv_iload_n hx hb dX3_sacksOfKind_4 rfl (lv_at hl 3 rfl) ?_
    refine k_bipush hx hb dX3_sacksOfKind_5 (by decide +kernel) ?_
    refine k_icmp_ge (tgt := 33) hx hb hz3 (show inR (32) by decide) dX3_sacksOfKind_7 (by decide) (fun hc1 => ?_) (fun hc1 => ?_)
    · rw [if_neg hc1] at hf
      refine lv_iload_n hx hb dX3_sacksOfKind_33 rfl (lv_at hl 2 rfl) ?_
      obtain rfl := some_el hf
      obtain rfl : z.1 = r := hK
      exact k_ret hx hb hr hlocks hW hS rfl hz2 dX3_sacksOfKind_34
    · rw [if_pos hc1] at hf
      refine lv_aload_n hx hb dX3_sacksOfKind_10 rfl (lv_at hl 0 rfl) ?_
      refine lv_iload_n hx hb dX3_sacksOfKind_11 rfl (lv_at hl 3 rfl) ?_
      refine k_cVi (As := [.int (i3 (z.2))]) (rest := []) ⟨hx, hb, hml, hown, hts⟩ (mW_kindIn l G M0 (k) hk z.2 hz3 _ rfl) (cwV 1 hts (gbV (inB_9 _ (List.mem_of_getElem? (i := 0) rfl)) (inB_5 _ (List.mem_of_getElem? (i := 4) rfl)) (inB_5 _ (List.mem_of_getElem? (i := 5) rfl)) (inB_1 _ (List.mem_of_getElem? (i := 12) rfl)) (inB_5 _ (List.mem_of_getElem? (i := 6) rfl))) rfl rfl rfl (by decide +kernel) ⟨Nat.le_of_ble_eq_true rfl, Nat.le_of_ble_eq_true rfl⟩) (rv_wall hk hW) hW hS rfl hl.1 rfl (lv_room (Nat.le_of_ble_eq_true rfl)) dX3_sacksOfKind_12 ⟨Nat.zero_le _, Nat.zero_le _⟩ (fun hv2 H locs hW hS => ?_)
      refine lv_iload_n hx hb dX3_sacksOfKind_15 rfl (lv_at hl 1 rfl) ?_
      refine k_icmp_ne (tgt := 27) hx hb hv2 hx1 dX3_sacksOfKind_16 (by decide) (fun hc3 => ?_) (fun hc3 => ?_)
      · rw [if_neg hc3] at hf
        exact J4 (z.1) (z.2) hf hz2 hz3 _ _ _ hW hS (lv_sub hl [0, 1, 2, 3] rfl)
      · rw [if_pos hc3] at hf
        refine lv_iload_n hx hb dX3_sacksOfKind_19 rfl (lv_at hl 2 rfl) ?_
        refine lv_aload_n hx hb dX3_sacksOfKind_20 rfl (lv_at hl 0 rfl) ?_
        refine lv_iload_n hx hb dX3_sacksOfKind_21 rfl (lv_at hl 3 rfl) ?_
        refine k_cVi (As := [.int (i3 (z.2))]) (rest := [.int (i3 (z.1))]) ⟨hx, hb, hml, hown, hts⟩ (mW_sacksIn l G M0 (k) hk z.2 hz3 _ rfl) (cwV 1 hts (gbV (inB_8 _ (List.mem_of_getElem? (i := 19) rfl)) (inB_5 _ (List.mem_of_getElem? (i := 8) rfl)) (inB_5 _ (List.mem_of_getElem? (i := 9) rfl)) (inB_1 _ (List.mem_of_getElem? (i := 12) rfl)) (inB_5 _ (List.mem_of_getElem? (i := 10) rfl))) rfl rfl rfl (by decide +kernel) ⟨Nat.le_of_ble_eq_true rfl, Nat.le_of_ble_eq_true rfl⟩) (rv_wall hk hW) hW hS rfl hl.1 rfl (lv_room (Nat.le_of_ble_eq_true rfl)) dX3_sacksOfKind_22 ⟨Nat.zero_le _, Nat.zero_le _⟩ (fun hv6 H locs hW hS => ?_)
        refine k_add hx hb dX3_sacksOfKind_25 ?_
        obtain ⟨hg7, hf⟩ := gd_el hf
        refine lv_istore_n (lv' := [(2, .int (i3 (z.1 + ((fW_sacksIn M0 (k) z.2))))), (0, .ref (gA G (5 + k))), (1, .int (i3 (x1))), (3, .int (i3 (z.2)))]) hx hb dX3_sacksOfKind_26 rfl hl (by decide) rfl (fun ls hl => ?_)
        exact J4 (z.1 + ((fW_sacksIn M0 (k) z.2))) (z.2) hf hg7 hz3 _ _ _ hW hS (lv_sub hl [1, 2, 0, 3] rfl)
  refine k_const hx hb dX3_sacksOfKind_0 ?_
  refine lv_istore_n (lv' := [(2, .int (i3 (0))), (0, .ref (gA G (5 + k))), (1, .int (i3 (x1)))]) hx hb dX3_sacksOfKind_1 rfl hl (by decide) rfl (fun ls hl => ?_)
  refine k_const hx hb dX3_sacksOfKind_2 ?_
  refine lv_istore_n (lv' := [(3, .int (i3 (0))), (2, .int (i3 (0))), (0, .ref (gA G (5 + k))), (1, .int (i3 (x1)))]) hx hb dX3_sacksOfKind_3 rfl hl (by decide) rfl (fun ls hl => ?_)
  exact L8 (x1) hx1 (0, 0) r hf rfl (show inR (0) by decide) (show inR (0) by decide) _ _ _ hW hS (lv_sub hl [2, 3, 1, 0] rfl)
set_option maxHeartbeats 4000000 in
set_option maxRecDepth 100000 in
theorem mW_spoilingAt (l : Launch) (G : gG) (M0 : MemG) (k : Nat) (hk : k < 11) (x1 : Int) (hx1 : inR x1) (x2 : Int) (hx2 : inR x2) (r : Int) (hf : fW_spoilingAt M0 k x1 x2 = some r) : Met l yX3_spoilingAt (wb yX3_spoilingAt cX3_spoilingAt 3 (some .int)) ({ frames := 2, cells := 0, slots := 0, locals := 42 } : Room) (PcG G M0 [.ref (gA G (5 + k)), .int (i3 (x1)), .int (i3 (x2))]) (QcI G M0 r) 0 0 (PA G) := by
  refine Met.ofW (cc := cX3_spoilingAt) (maxL := 3) (ret := (some .int)) (by decide) rfl ?_
  intro p e s m args below meth c s₁ B hml hv0
  obtain ⟨hav, hW⟩ := hv0
  have hx := B.exec
  have hb := B.bytes
  have hr := B.returns
  have hts := atoms_spec (ws := (wb yX3_spoilingAt cX3_spoilingAt 3 (some .int))) B.pre
  have hown : s.vm.findClass RX3 = some m.cls := findClass_of_methodNamed B.named
  have hlocks := B.notSynchronized
  have hW : Wd G M0 s s.heap := hW
  have hS : va_S (PA G) s.heap s.heap [] := va_S.rf
  have hl := lv_entry [.ref (gA G (5 + k)), .int (i3 (x1)), .int (i3 (x2))] (n := 3) (Nat.le_of_ble_eq_true rfl)
  have hent := lg_entry_eq m [.ref (gA G (5 + k)), .int (i3 (x1)), .int (i3 (x2))] 3
  rw [← hav] at hent
  rw [hent]
  clear hent
  generalize (lg_sl [.ref (gA G (5 + k)), .int (i3 (x1)), .int (i3 (x2))] ++ List.replicate (3 - (lg_sl [.ref (gA G (5 + k)), .int (i3 (x1)), .int (i3 (x2))]).length) Slot.unset).toArray = ls at hl ⊢
  have hl : lv_has ls 3 [(0, .ref (gA G (5 + k))), (1, .int (i3 (x1))), (2, .int (i3 (x2)))] := hl
  unfold fW_spoilingAt at hf
  show W p l e ({ frames := 2, cells := 0, slots := 0, locals := 42 } : Room) s m args below meth c s.heap [] 0 0 (MQ below (QcI G M0 r) args s 0 0 (PA G)) (F0 m 0 ls [])
  refine lv_iload_n hx hb dX3_spoilingAt_0 rfl (lv_at hl 2 rfl) ?_
  refine k_getsN hx hb hW.S.1.1 hown (va_Nw.use rfl (hW.N _ (List.mem_of_getElem? (i := 5) rfl))) dX3_spoilingAt_1 ?_
  refine lv_aload_n hx hb dX3_spoilingAt_4 rfl (lv_at hl 0 rfl) ?_
  refine lv_iload_n hx hb dX3_spoilingAt_5 rfl (lv_at hl 1 rfl) ?_
  refine k_cVi (As := [.int (i3 (x1))]) (rest := [.ref (gA G (86)), .int (i3 (x2))]) ⟨hx, hb, hml, hown, hts⟩ (mW_kindIn l G M0 (k) hk x1 hx1 _ rfl) (cwV 1 hts (gbV (inB_9 _ (List.mem_of_getElem? (i := 0) rfl)) (inB_5 _ (List.mem_of_getElem? (i := 4) rfl)) (inB_5 _ (List.mem_of_getElem? (i := 5) rfl)) (inB_1 _ (List.mem_of_getElem? (i := 12) rfl)) (inB_5 _ (List.mem_of_getElem? (i := 6) rfl))) rfl rfl rfl (by decide +kernel) ⟨Nat.le_of_ble_eq_true rfl, Nat.le_of_ble_eq_true rfl⟩) (rv_wall hk hW) hW hS rfl hl.1 rfl (lv_room (Nat.le_of_ble_eq_true rfl)) dX3_spoilingAt_6 ⟨Nat.zero_le _, Nat.zero_le _⟩ (fun hv1 H locs hW hS => ?_)
  refine k_cNi (As := [.ref (gA G (86)), .int (i3 ((fW_kindIn M0 (k) x1)))]) (rest := [.int (i3 (x2))]) ⟨hx, hb, hml, hown, hts⟩ (mG_atS l G M0 86 (fun U H h => h.1.2) ((fW_kindIn M0 (k) x1)) hv1 _ rfl) ⟨va_cnB 2 hts (gbC (inB_5 _ (List.mem_of_getElem? (i := 2) rfl))) rfl rfl rfl (hW.N _ (List.mem_of_getElem? (i := 1) rfl)) (hts _ (List.mem_cons_of_mem _ (inB_1 _ (List.mem_of_getElem? (i := 2) rfl)))) (by decide +kernel) ⟨Nat.le_of_ble_eq_true rfl, Nat.le_of_ble_eq_true rfl⟩, (hts _ (List.mem_cons_of_mem _ (inB_5 _ (List.mem_of_getElem? (i := 1) rfl)))), trivial⟩ hW hS rfl hl.1 rfl (lv_room (Nat.le_of_ble_eq_true rfl)) dX3_spoilingAt_9 ⟨Nat.zero_le _, Nat.zero_le _⟩ (fun hv2 H locs hW hS => ?_)
  refine k_icmp_le (tgt := 29) hx hb hx2 hv2 dX3_spoilingAt_12 (by decide) (fun hc3 => ?_) (fun hc3 => ?_)
  · rw [if_neg hc3] at hf
    refine k_const hx hb dX3_spoilingAt_29 ?_
    obtain rfl := some_el hf
    exact k_ret hx hb hr hlocks hW hS rfl (show inR (0) by decide) dX3_spoilingAt_30
  · rw [if_pos hc3] at hf
    refine lv_aload_n hx hb dX3_spoilingAt_15 rfl (lv_at hl 0 rfl) ?_
    refine lv_iload_n hx hb dX3_spoilingAt_16 rfl (lv_at hl 1 rfl) ?_
    refine k_cVi (As := [.int (i3 (x1))]) (rest := []) ⟨hx, hb, hml, hown, hts⟩ (mW_sacksIn l G M0 (k) hk x1 hx1 _ rfl) (cwV 1 hts (gbV (inB_8 _ (List.mem_of_getElem? (i := 19) rfl)) (inB_5 _ (List.mem_of_getElem? (i := 8) rfl)) (inB_5 _ (List.mem_of_getElem? (i := 9) rfl)) (inB_1 _ (List.mem_of_getElem? (i := 12) rfl)) (inB_5 _ (List.mem_of_getElem? (i := 10) rfl))) rfl rfl rfl (by decide +kernel) ⟨Nat.le_of_ble_eq_true rfl, Nat.le_of_ble_eq_true rfl⟩) (rv_wall hk hW) hW hS rfl hl.1 rfl (lv_room (Nat.le_of_ble_eq_true rfl)) dX3_spoilingAt_17 ⟨Nat.zero_le _, Nat.zero_le _⟩ (fun hv4 H locs hW hS => ?_)
    refine k_bipush hx hb dX3_spoilingAt_20 (by decide +kernel) ?_
    refine k_add hx hb dX3_spoilingAt_22 ?_
    refine k_bipush hx hb dX3_spoilingAt_23 (by decide +kernel) ?_
    obtain ⟨hg5, hf⟩ := gd_el hf
    obtain ⟨hg6, hf⟩ := gq_el hf
    refine k_div hx hb dX3_spoilingAt_25 hg5 (show inR (10) by decide) hg6 ?_
    refine lv_goto (tgt := 30) hx hb dX3_spoilingAt_26 (by decide) ?_
    obtain rfl := some_el hf
    exact k_ret hx hb hr hlocks hW hS rfl (inR_div hg5 hg6.1 hg6.2) dX3_spoilingAt_30
set_option maxHeartbeats 4000000 in
set_option maxRecDepth 100000 in
theorem mW_growOlder (l : Launch) (G : gG) (M0 : MemG) (k : Nat) (hk : k < 11) (r : MemG × Int) (hf : fW_growOlder M0 k = some r) : Met l yX3_growOlder (wb yX3_growOlder cX3_growOlder 4 (some .int)) ({ frames := 3, cells := 0, slots := 0, locals := 68 } : Room) (PcG G M0 [.ref (gA G (5 + k))]) (QcI G r.1 r.2) 0 0 (PA G) := by
  refine Met.ofW (cc := cX3_growOlder) (maxL := 4) (ret := (some .int)) (by decide) rfl ?_
  intro p e s m args below meth c s₁ B hml hv0
  obtain ⟨hav, hW⟩ := hv0
  have hx := B.exec
  have hb := B.bytes
  have hr := B.returns
  have hts := atoms_spec (ws := (wb yX3_growOlder cX3_growOlder 4 (some .int))) B.pre
  have hown : s.vm.findClass RX3 = some m.cls := findClass_of_methodNamed B.named
  have hlocks := B.notSynchronized
  have hinX3 : ∀ w ∈ u_ws RX3 TX3 6, w ∈ (wb yX3_growOlder cX3_growOlder 4 (some .int)) := fun _ h => List.mem_cons_of_mem _ (inlX3 _ h)
  have hW : Wd G M0 s s.heap := hW
  have hS : va_S (PA G) s.heap s.heap [] := va_S.rf
  have hl := lv_entry [.ref (gA G (5 + k))] (n := 4) (Nat.le_of_ble_eq_true rfl)
  have hent := lg_entry_eq m [.ref (gA G (5 + k))] 4
  rw [← hav] at hent
  rw [hent]
  clear hent
  generalize (lg_sl [.ref (gA G (5 + k))] ++ List.replicate (4 - (lg_sl [.ref (gA G (5 + k))]).length) Slot.unset).toArray = ls at hl ⊢
  have hl : lv_has ls 4 [(0, .ref (gA G (5 + k)))] := hl
  unfold fW_growOlder at hf
  show W p l e ({ frames := 3, cells := 0, slots := 0, locals := 68 } : Room) s m args below meth c s.heap [] 0 0 (MQ below (QcI G r.1 r.2) args s 0 0 (PA G)) (F0 m 0 ls [])
  have L16 : ∀ (z : (Int × Int × MemG)) (q : (MemG × Int)), loopN (fW_growOlder_l4 k) 200 z = some q → (q = r) → (inR (z.1) → inR (z.2.1) → ∀ (H : Heap) (locs : List Loc) (ls : Array Slot), Wd G (z.2.2) s H → va_S (PA G) s.heap H locs → lv_has ls 4 [(0, .ref (gA G (5 + k))), (1, .int (i3 (z.1))), (2, .int (i3 (z.2.1)))] → W p l e ({ frames := 3, cells := 0, slots := 0, locals := 68 } : Room) s m args below meth c H locs 0 0 (MQ below (QcI G r.1 r.2) args s 0 0 (PA G)) (F0 m 4 ls [])) := by
    intro z q hq hex
    refine loop_rule (fW_growOlder_l4 k) (fun z => inR (z.1) → inR (z.2.1) → ∀ (H : Heap) (locs : List Loc) (ls : Array Slot), Wd G (z.2.2) s H → va_S (PA G) s.heap H locs → lv_has ls 4 [(0, .ref (gA G (5 + k))), (1, .int (i3 (z.1))), (2, .int (i3 (z.2.1)))] → W p l e ({ frames := 3, cells := 0, slots := 0, locals := 68 } : Room) s m args below meth c H locs 0 0 (MQ below (QcI G r.1 r.2) args s 0 0 (PA G)) (F0 m 4 ls [])) (fun q => (q = r)) ?_ 200 z q hq hex
    clear hq hex q z
    intro z x hf hK hz1 hz2 H locs ls hW hS hl
    have J4 : ∀ (M : MemG) (x1 : Int) (x2 : Int), fW_growOlder_j54 M k x1 x2 = some x → inR x1 → inR x2 →  ∀ (H : Heap) (locs : List Loc) (ls : Array Slot), Wd G M s H → va_S (PA G) s.heap H locs → lv_has ls 4 [(0, .ref (gA G (5 + k))), (1, .int (i3 (x1))), (2, .int (i3 (x2)))] → W p l e ({ frames := 3, cells := 0, slots := 0, locals := 68 } : Room) s m args below meth c H locs 0 0 (MQ below (QcI G r.1 r.2) args s 0 0 (PA G)) (F0 m 54 ls []) := by
      intro M x1 x2 hf hx1 hx2 H locs ls hW hS hl
      unfold fW_growOlder_j54 at hf
      obtain ⟨hg5, hf⟩ := gd_el hf
      refine k_iinc (lv' := [(2, .int (i3 (x2 + 1))), (0, .ref (gA G (5 + k))), (1, .int (i3 (x1)))]) hx hb dX3_growOlder_54 hl (k := 2) rfl (by decide) rfl (fun ls hl => ?_)
      refine lv_goto (tgt := 4) hx hb dX3_growOlder_57 (by decide) ?_
      obtain rfl := some_el hf
      exact hK hx1 hg5 _ _ _ hW hS (lv_sub hl [1, 2, 0] rfl)
    unfold fW_growOlder_l4 at hf
    refine lv_iload_n hx hb dX3_growOlder_4 rfl (lv_at hl 2 rfl) ?_
    refine k_bipush hx hb dX3_growOlder_5 (by decide +kernel) ?_
    refine k_icmp_ge (tgt := 60) hx hb hz2 (show inR (32) by decide) dX3_growOlder_7 (by decide) (fun hc1 => ?_) (fun hc1 => ?_)
    · rw [if_neg hc1] at hf
      refine lv_iload_n hx hb dX3_growOlder_60 rfl (lv_at hl 1 rfl) ?_
      obtain rfl := some_el hf
      obtain rfl : (z.2.2, z.1) = r := hK
      exact k_ret hx hb hr hlocks hW hS rfl hz1 dX3_growOlder_61
    · rw [if_pos hc1] at hf
      refine lv_aload_n hx hb dX3_growOlder_10 rfl (lv_at hl 0 rfl) ?_
      refine lv_iload_n hx hb dX3_growOlder_11 rfl (lv_at hl 2 rfl) ?_
      refine k_cVz (As := [.int (i3 (z.2.1))]) (rest := []) ⟨hx, hb, hml, hown, hts⟩ (mW_isEmpty l G z.2.2 (k) hk z.2.1 hz2 _ rfl) (cwV 1 hts (gbV (inB_8 _ (List.mem_of_getElem? (i := 10) rfl)) (inB_4 _ (List.mem_of_getElem? (i := 22) rfl)) (inB_4 _ (List.mem_of_getElem? (i := 23) rfl)) (inB_1 _ (List.mem_of_getElem? (i := 12) rfl)) (inB_5 _ (List.mem_of_getElem? (i := 0) rfl))) rfl rfl rfl (by decide +kernel) ⟨Nat.le_of_ble_eq_true rfl, Nat.le_of_ble_eq_true rfl⟩) (rv_wall hk hW) hW hS rfl hl.1 rfl (lv_room (Nat.le_of_ble_eq_true rfl)) dX3_growOlder_12 ⟨Nat.zero_le _, Nat.zero_le _⟩ (fun hv2 H locs hW hS => ?_)
      refine k_if_ne (tgt := 54) hx hb (inR_z hv2) dX3_growOlder_15 (by decide) (fun hc3 => ?_) (fun hc3 => ?_)
      · rw [if_neg hc3] at hf
        exact J4 (z.2.2) (z.1) (z.2.1) hf hz1 hz2 _ _ _ hW hS (lv_sub hl [0, 1, 2] rfl)
      · rw [if_pos hc3] at hf
        refine lv_aload_n hx hb dX3_growOlder_18 rfl (lv_at hl 0 rfl) ?_
        refine va_get (D := G.1) (ci := 3) (v := .ref (gA G (16 + 6 * k + 2))) (C := RX3) (T := TX3) (N := 6) hx hb hts hinX3 hown hW.K hW.P (5 + k) (he_wall hk G z.2.2) rfl 2 (by decide) (hts _ (List.mem_cons_of_mem _ (inB_2 _ (List.mem_of_getElem? (i := 15) rfl)))) (fun _ h9 => h9) rfl dX3_growOlder_19 ?_
        refine lv_iload_n hx hb dX3_growOlder_22 rfl (lv_at hl 2 rfl) ?_
        refine lv_aload_n hx hb dX3_growOlder_23 rfl (lv_at hl 0 rfl) ?_
        refine lv_iload_n hx hb dX3_growOlder_24 rfl (lv_at hl 2 rfl) ?_
        refine k_cVi (As := [.int (i3 (z.2.1))]) (rest := [.int (i3 (z.2.1)), .ref (gA G (16 + 6 * k + 2))]) ⟨hx, hb, hml, hown, hts⟩ (mW_ageIn l G z.2.2 (k) hk z.2.1 hz2 _ rfl) (cwV 1 hts (gbV (inB_13 _ (List.mem_of_getElem? (i := 5) rfl)) (inB_6 _ (List.mem_of_getElem? (i := 2) rfl)) (inB_6 _ (List.mem_of_getElem? (i := 3) rfl)) (inB_1 _ (List.mem_of_getElem? (i := 12) rfl)) (inB_6 _ (List.mem_of_getElem? (i := 4) rfl))) rfl rfl rfl (by decide +kernel) ⟨Nat.le_of_ble_eq_true rfl, Nat.le_of_ble_eq_true rfl⟩) (rv_wall hk hW) hW hS rfl hl.1 rfl (lv_room (Nat.le_of_ble_eq_true rfl)) dX3_growOlder_25 ⟨Nat.zero_le _, Nat.zero_le _⟩ (fun hv6 H locs hW hS => ?_)
        refine k_const hx hb dX3_growOlder_28 ?_
        refine k_add hx hb dX3_growOlder_29 ?_
        obtain ⟨hg7, hf⟩ := gd_el hf
        obtain ⟨m8, hm8, hf⟩ := bind_el hf
        refine k_cNv (As := [.ref (gA G (16 + 6 * k + 2)), .int (i3 (z.2.1)), .int (i3 (((fW_ageIn z.2.2 (k) z.2.1)) + 1))]) (rest := []) ⟨hx, hb, hml, hown, hts⟩ (mG_put l G z.2.2 (16 + 6 * k + 2) (by omega) z.2.1 hz2 (((fW_ageIn z.2.2 (k) z.2.1)) + 1) hg7 m8 hm8) ⟨va_cnB 3 hts (gbC (inB_6 _ (List.mem_of_getElem? (i := 0) rfl))) rfl rfl rfl (hW.N _ (List.mem_of_getElem? (i := 2) rfl)) (hts _ (List.mem_cons_of_mem _ (inB_1 _ (List.mem_of_getElem? (i := 2) rfl)))) (by decide +kernel) ⟨Nat.le_of_ble_eq_true rfl, Nat.le_of_ble_eq_true rfl⟩, (hts _ (List.mem_cons_of_mem _ (inB_5 _ (List.mem_of_getElem? (i := 23) rfl)))), trivial⟩ hW hS rfl hl.1 rfl (lv_room (Nat.le_of_ble_eq_true rfl)) dX3_growOlder_30 ⟨Nat.zero_le _, Nat.zero_le _⟩ (fun H locs hW hS => ?_)
        refine lv_aload_n hx hb dX3_growOlder_33 rfl (lv_at hl 0 rfl) ?_
        refine lv_iload_n hx hb dX3_growOlder_34 rfl (lv_at hl 2 rfl) ?_
        refine lv_aload_n hx hb dX3_growOlder_35 rfl (lv_at hl 0 rfl) ?_
        refine lv_iload_n hx hb dX3_growOlder_36 rfl (lv_at hl 2 rfl) ?_
        refine k_cVi (As := [.int (i3 (z.2.1))]) (rest := [.int (i3 (z.2.1)), .ref (gA G (5 + k))]) ⟨hx, hb, hml, hown, hts⟩ (mW_ageIn l G m8 (k) hk z.2.1 hz2 _ rfl) (cwV 1 hts (gbV (inB_13 _ (List.mem_of_getElem? (i := 5) rfl)) (inB_6 _ (List.mem_of_getElem? (i := 2) rfl)) (inB_6 _ (List.mem_of_getElem? (i := 3) rfl)) (inB_1 _ (List.mem_of_getElem? (i := 12) rfl)) (inB_6 _ (List.mem_of_getElem? (i := 4) rfl))) rfl rfl rfl (by decide +kernel) ⟨Nat.le_of_ble_eq_true rfl, Nat.le_of_ble_eq_true rfl⟩) (rv_wall hk hW) hW hS rfl hl.1 rfl (lv_room (Nat.le_of_ble_eq_true rfl)) dX3_growOlder_37 ⟨Nat.zero_le _, Nat.zero_le _⟩ (fun hv10 H locs hW hS => ?_)
        obtain ⟨q11, hq11, hf⟩ := bind_el hf
        refine k_cVi (As := [.int (i3 (z.2.1)), .int (i3 ((fW_ageIn m8 (k) z.2.1)))]) (rest := []) ⟨hx, hb, hml, hown, hts⟩ (mW_spoilingAt l G m8 (k) hk z.2.1 hz2 ((fW_ageIn m8 (k) z.2.1)) hv10 q11 hq11) (cwV 2 hts (gbV (inB_14 _ (List.mem_of_getElem? (i := 9) rfl)) (inB_9 _ (List.mem_of_getElem? (i := 22) rfl)) (inB_9 _ (List.mem_of_getElem? (i := 23) rfl)) (inB_1 _ (List.mem_of_getElem? (i := 12) rfl)) (inB_10 _ (List.mem_of_getElem? (i := 0) rfl))) rfl rfl rfl (by decide +kernel) ⟨Nat.le_of_ble_eq_true rfl, Nat.le_of_ble_eq_true rfl⟩) (rv_wall hk hW) hW hS rfl hl.1 rfl (lv_room (Nat.le_of_ble_eq_true rfl)) dX3_growOlder_40 ⟨Nat.zero_le _, Nat.zero_le _⟩ (fun hv12 H locs hW hS => ?_)
        refine lv_istore_n (lv' := [(3, .int (i3 (q11))), (0, .ref (gA G (5 + k))), (1, .int (i3 (z.1))), (2, .int (i3 (z.2.1)))]) hx hb dX3_growOlder_43 rfl hl (by decide) rfl (fun ls hl => ?_)
        refine lv_aload_n hx hb dX3_growOlder_44 rfl (lv_at hl 1 rfl) ?_
        refine lv_iload_n hx hb dX3_growOlder_45 rfl (lv_at hl 3 rfl) ?_
        refine lv_iload_n hx hb dX3_growOlder_46 rfl (lv_at hl 0 rfl) ?_
        obtain ⟨m13, hm13, hf⟩ := bind_el hf
        refine k_cVv (As := [.int (i3 (z.2.1)), .int (i3 (q11))]) (rest := []) ⟨hx, hb, hml, hown, hts⟩ (mW_remove l G m8 (k) hk z.2.1 hz2 q11 hv12 m13 hm13) (cwV 2 hts (gbV (inB_14 _ (List.mem_of_getElem? (i := 10) rfl)) (inB_12 _ (List.mem_of_getElem? (i := 4) rfl)) (inB_12 _ (List.mem_of_getElem? (i := 5) rfl)) (inB_1 _ (List.mem_of_getElem? (i := 12) rfl)) (inB_12 _ (List.mem_of_getElem? (i := 6) rfl))) rfl rfl rfl (by decide +kernel) ⟨Nat.le_of_ble_eq_true rfl, Nat.le_of_ble_eq_true rfl⟩) (rv_wall hk hW) hW hS rfl hl.1 rfl (lv_room (Nat.le_of_ble_eq_true rfl)) dX3_growOlder_47 ⟨Nat.zero_le _, Nat.zero_le _⟩ (fun H locs hW hS => ?_)
        refine lv_iload_n hx hb dX3_growOlder_50 rfl (lv_at hl 2 rfl) ?_
        refine lv_iload_n hx hb dX3_growOlder_51 rfl (lv_at hl 0 rfl) ?_
        refine k_add hx hb dX3_growOlder_52 ?_
        obtain ⟨hg15, hf⟩ := gd_el hf
        refine lv_istore_n (lv' := [(1, .int (i3 (z.1 + q11))), (3, .int (i3 (q11))), (0, .ref (gA G (5 + k))), (2, .int (i3 (z.2.1)))]) hx hb dX3_growOlder_53 rfl hl (by decide) rfl (fun ls hl => ?_)
        exact J4 (m13) (z.1 + q11) (z.2.1) hf hg15 hz2 _ _ _ hW hS (lv_sub hl [2, 0, 3] rfl)
  refine k_const hx hb dX3_growOlder_0 ?_
  refine lv_istore_n (lv' := [(1, .int (i3 (0))), (0, .ref (gA G (5 + k)))]) hx hb dX3_growOlder_1 rfl hl (by decide) rfl (fun ls hl => ?_)
  refine k_const hx hb dX3_growOlder_2 ?_
  refine lv_istore_n (lv' := [(2, .int (i3 (0))), (1, .int (i3 (0))), (0, .ref (gA G (5 + k)))]) hx hb dX3_growOlder_3 rfl hl (by decide) rfl (fun ls hl => ?_)
  exact L16  (0, 0, M0) r hf rfl (show inR (0) by decide) (show inR (0) by decide) _ _ _ hW hS (lv_sub hl [2, 1, 0] rfl)
set_option maxHeartbeats 4000000 in
set_option maxRecDepth 100000 in
theorem mW_sumByBays (l : Launch) (G : gG) (M0 : MemG) (k : Nat) (hk : k < 11) (x1 : Int) (hx1 : inR x1) (x2 : Int) (hx2 : inR x2) (r : Int) (hf : fW_sumByBays M0 k x1 x2 = some r) : Met l yX3_sumByBays (wb yX3_sumByBays cX3_sumByBays 5 (some .int)) ({ frames := 2, cells := 0, slots := 0, locals := 42 } : Room) (PcG G M0 [.ref (gA G (5 + k)), .int (i3 (x1)), .int (i3 (x2))]) (QcI G M0 r) 0 0 (PA G) := by
  refine Met.ofW (cc := cX3_sumByBays) (maxL := 5) (ret := (some .int)) (by decide) rfl ?_
  intro p e s m args below meth c s₁ B hml hv0
  obtain ⟨hav, hW⟩ := hv0
  have hx := B.exec
  have hb := B.bytes
  have hr := B.returns
  have hts := atoms_spec (ws := (wb yX3_sumByBays cX3_sumByBays 5 (some .int))) B.pre
  have hown : s.vm.findClass RX3 = some m.cls := findClass_of_methodNamed B.named
  have hlocks := B.notSynchronized
  have hW : Wd G M0 s s.heap := hW
  have hS : va_S (PA G) s.heap s.heap [] := va_S.rf
  have hl := lv_entry [.ref (gA G (5 + k)), .int (i3 (x1)), .int (i3 (x2))] (n := 5) (Nat.le_of_ble_eq_true rfl)
  have hent := lg_entry_eq m [.ref (gA G (5 + k)), .int (i3 (x1)), .int (i3 (x2))] 5
  rw [← hav] at hent
  rw [hent]
  clear hent
  generalize (lg_sl [.ref (gA G (5 + k)), .int (i3 (x1)), .int (i3 (x2))] ++ List.replicate (5 - (lg_sl [.ref (gA G (5 + k)), .int (i3 (x1)), .int (i3 (x2))]).length) Slot.unset).toArray = ls at hl ⊢
  have hl : lv_has ls 5 [(0, .ref (gA G (5 + k))), (1, .int (i3 (x1))), (2, .int (i3 (x2)))] := hl
  unfold fW_sumByBays at hf
  show W p l e ({ frames := 2, cells := 0, slots := 0, locals := 42 } : Room) s m args below meth c s.heap [] 0 0 (MQ below (QcI G M0 r) args s 0 0 (PA G)) (F0 m 0 ls [])
  have L8 : ∀ (x1 : Int) (hx1 : inR x1) (x2 : Int) (hx2 : inR x2), ∀ (z : (Int × Int)) (q : (Int)), loopN (fW_sumByBays_l5 M0 k x1 x2) 200 z = some q → (q = r) → (inR (z.1) → inR (z.2) → ∀ (H : Heap) (locs : List Loc) (ls : Array Slot), Wd G (M0) s H → va_S (PA G) s.heap H locs → lv_has ls 5 [(0, .ref (gA G (5 + k))), (1, .int (i3 (x1))), (2, .int (i3 (x2))), (3, .int (i3 (z.1))), (4, .int (i3 (z.2)))] → W p l e ({ frames := 2, cells := 0, slots := 0, locals := 42 } : Room) s m args below meth c H locs 0 0 (MQ below (QcI G M0 r) args s 0 0 (PA G)) (F0 m 5 ls [])) := by
    intro x1 hx1 x2 hx2 z q hq hex
    refine loop_rule (fW_sumByBays_l5 M0 k x1 x2) (fun z => inR (z.1) → inR (z.2) → ∀ (H : Heap) (locs : List Loc) (ls : Array Slot), Wd G (M0) s H → va_S (PA G) s.heap H locs → lv_has ls 5 [(0, .ref (gA G (5 + k))), (1, .int (i3 (x1))), (2, .int (i3 (x2))), (3, .int (i3 (z.1))), (4, .int (i3 (z.2)))] → W p l e ({ frames := 2, cells := 0, slots := 0, locals := 42 } : Room) s m args below meth c H locs 0 0 (MQ below (QcI G M0 r) args s 0 0 (PA G)) (F0 m 5 ls [])) (fun q => (q = r)) ?_ 200 z q hq hex
    clear hq hex q z
    intro z x hf hK hz3 hz4 H locs ls hW hS hl
    have J3 : ∀ (x3 : Int) (x4 : Int), fW_sumByBays_j33 M0 k x1 x2 x3 x4 = some x → inR x3 → inR x4 →  ∀ (H : Heap) (locs : List Loc) (ls : Array Slot), Wd G M0 s H → va_S (PA G) s.heap H locs → lv_has ls 5 [(0, .ref (gA G (5 + k))), (1, .int (i3 (x1))), (2, .int (i3 (x2))), (3, .int (i3 (x3))), (4, .int (i3 (x4)))] → W p l e ({ frames := 2, cells := 0, slots := 0, locals := 42 } : Room) s m args below meth c H locs 0 0 (MQ below (QcI G M0 r) args s 0 0 (PA G)) (F0 m 33 ls []) := by
      intro x3 x4 hf hx3 hx4 H locs ls hW hS hl
      unfold fW_sumByBays_j33 at hf
      obtain ⟨hg4, hf⟩ := gd_el hf
      refine k_iinc (lv' := [(4, .int (i3 (x4 + 1))), (0, .ref (gA G (5 + k))), (1, .int (i3 (x1))), (2, .int (i3 (x2))), (3, .int (i3 (x3)))]) hx hb dX3_sumByBays_33 hl (k := 4) rfl (by decide) rfl (fun ls hl => ?_)
      refine lv_goto (tgt := 5) hx hb dX3_sumByBays_36 (by decide) ?_
      obtain rfl := some_el hf
      exact hK hx3 hg4 _ _ _ hW hS (lv_sub hl [1, 2, 3, 4, 0] rfl)
    unfold fW_sumByBays_l5 at hf
    refine lv_iload hx hb dX3_sumByBays_5 (lv_at hl 4 rfl) ?_
    refine k_bipush hx hb dX3_sumByBays_7 (by decide +kernel) ?_
    refine k_icmp_ge (tgt := 39) hx hb hz4 (show inR (32) by decide) dX3_sumByBays_9 (by decide) (fun hc1 => ?_) (fun hc1 => ?_)
    · rw [if_neg hc1] at hf
      refine lv_iload_n hx hb dX3_sumByBays_39 rfl (lv_at hl 3 rfl) ?_
      obtain rfl := some_el hf
      obtain rfl : z.1 = r := hK
      exact k_ret hx hb hr hlocks hW hS rfl hz3 dX3_sumByBays_40
    · rw [if_pos hc1] at hf
      refine lv_iload hx hb dX3_sumByBays_12 (lv_at hl 4 rfl) ?_
      refine lv_iload_n hx hb dX3_sumByBays_14 rfl (lv_at hl 1 rfl) ?_
      refine k_icmp_lt (tgt := 33) hx hb hz4 hx1 dX3_sumByBays_15 (by decide) (fun hc2 => ?_) (fun hc2 => ?_)
      · rw [if_pos hc2] at hf
        exact J3 (z.1) (z.2) hf hz3 hz4 _ _ _ hW hS (lv_sub hl [0, 1, 2, 3, 4] rfl)
      · rw [if_neg hc2] at hf
        refine lv_iload hx hb dX3_sumByBays_18 (lv_at hl 4 rfl) ?_
        refine lv_iload_n hx hb dX3_sumByBays_20 rfl (lv_at hl 2 rfl) ?_
        refine k_icmp_gt (tgt := 33) hx hb hz4 hx2 dX3_sumByBays_21 (by decide) (fun hc5 => ?_) (fun hc5 => ?_)
        · rw [if_pos hc5] at hf
          exact J3 (z.1) (z.2) hf hz3 hz4 _ _ _ hW hS (lv_sub hl [0, 1, 2, 3, 4] rfl)
        · rw [if_neg hc5] at hf
          refine lv_iload_n hx hb dX3_sumByBays_24 rfl (lv_at hl 3 rfl) ?_
          refine lv_aload_n hx hb dX3_sumByBays_25 rfl (lv_at hl 0 rfl) ?_
          refine lv_iload hx hb dX3_sumByBays_26 (lv_at hl 4 rfl) ?_
          refine k_cVi (As := [.int (i3 (z.2))]) (rest := [.int (i3 (z.1))]) ⟨hx, hb, hml, hown, hts⟩ (mW_sacksIn l G M0 (k) hk z.2 hz4 _ rfl) (cwV 1 hts (gbV (inB_8 _ (List.mem_of_getElem? (i := 19) rfl)) (inB_5 _ (List.mem_of_getElem? (i := 8) rfl)) (inB_5 _ (List.mem_of_getElem? (i := 9) rfl)) (inB_1 _ (List.mem_of_getElem? (i := 12) rfl)) (inB_5 _ (List.mem_of_getElem? (i := 10) rfl))) rfl rfl rfl (by decide +kernel) ⟨Nat.le_of_ble_eq_true rfl, Nat.le_of_ble_eq_true rfl⟩) (rv_wall hk hW) hW hS rfl hl.1 rfl (lv_room (Nat.le_of_ble_eq_true rfl)) dX3_sumByBays_28 ⟨Nat.zero_le _, Nat.zero_le _⟩ (fun hv6 H locs hW hS => ?_)
          refine k_add hx hb dX3_sumByBays_31 ?_
          obtain ⟨hg7, hf⟩ := gd_el hf
          refine lv_istore_n (lv' := [(3, .int (i3 (z.1 + ((fW_sacksIn M0 (k) z.2))))), (0, .ref (gA G (5 + k))), (1, .int (i3 (x1))), (2, .int (i3 (x2))), (4, .int (i3 (z.2)))]) hx hb dX3_sumByBays_32 rfl hl (by decide) rfl (fun ls hl => ?_)
          exact J3 (z.1 + ((fW_sacksIn M0 (k) z.2))) (z.2) hf hg7 hz4 _ _ _ hW hS (lv_sub hl [1, 2, 3, 0, 4] rfl)
  refine k_const hx hb dX3_sumByBays_0 ?_
  refine lv_istore_n (lv' := [(3, .int (i3 (0))), (0, .ref (gA G (5 + k))), (1, .int (i3 (x1))), (2, .int (i3 (x2)))]) hx hb dX3_sumByBays_1 rfl hl (by decide) rfl (fun ls hl => ?_)
  refine k_const hx hb dX3_sumByBays_2 ?_
  refine lv_istore (lv' := [(4, .int (i3 (0))), (3, .int (i3 (0))), (0, .ref (gA G (5 + k))), (1, .int (i3 (x1))), (2, .int (i3 (x2)))]) hx hb dX3_sumByBays_3 hl (by decide) rfl (fun ls hl => ?_)
  exact L8 (x1) hx1 (x2) hx2 (0, 0) r hf rfl (show inR (0) by decide) (show inR (0) by decide) _ _ _ hW hS (lv_sub hl [2, 3, 4, 1, 0] rfl)
set_option maxHeartbeats 4000000 in
set_option maxRecDepth 100000 in
theorem mW_allSacks (l : Launch) (G : gG) (M0 : MemG) (k : Nat) (hk : k < 11) (r : Int) (hf : fW_allSacks M0 k = some r) : Met l yX3_allSacks (wb yX3_allSacks cX3_allSacks 1 (some .int)) ({ frames := 3, cells := 0, slots := 0, locals := 66 } : Room) (PcG G M0 [.ref (gA G (5 + k))]) (QcI G M0 r) 0 0 (PA G) := by
  refine Met.ofW (cc := cX3_allSacks) (maxL := 1) (ret := (some .int)) (by decide) rfl ?_
  intro p e s m args below meth c s₁ B hml hv0
  obtain ⟨hav, hW⟩ := hv0
  have hx := B.exec
  have hb := B.bytes
  have hr := B.returns
  have hts := atoms_spec (ws := (wb yX3_allSacks cX3_allSacks 1 (some .int))) B.pre
  have hown : s.vm.findClass RX3 = some m.cls := findClass_of_methodNamed B.named
  have hlocks := B.notSynchronized
  have hW : Wd G M0 s s.heap := hW
  have hS : va_S (PA G) s.heap s.heap [] := va_S.rf
  have hl := lv_entry [.ref (gA G (5 + k))] (n := 1) (Nat.le_of_ble_eq_true rfl)
  have hent := lg_entry_eq m [.ref (gA G (5 + k))] 1
  rw [← hav] at hent
  rw [hent]
  clear hent
  generalize (lg_sl [.ref (gA G (5 + k))] ++ List.replicate (1 - (lg_sl [.ref (gA G (5 + k))]).length) Slot.unset).toArray = ls at hl ⊢
  have hl : lv_has ls 1 [(0, .ref (gA G (5 + k)))] := hl
  unfold fW_allSacks at hf
  show W p l e ({ frames := 3, cells := 0, slots := 0, locals := 66 } : Room) s m args below meth c s.heap [] 0 0 (MQ below (QcI G M0 r) args s 0 0 (PA G)) (F0 m 0 ls [])
  refine lv_aload_n hx hb dX3_allSacks_0 rfl (lv_at hl 0 rfl) ?_
  refine k_const hx hb dX3_allSacks_1 ?_
  refine k_bipush hx hb dX3_allSacks_2 (by decide +kernel) ?_
  obtain ⟨q1, hq1, hf⟩ := bind_el hf
  refine k_cVi (As := [.int (i3 (0)), .int (i3 (31))]) (rest := []) ⟨hx, hb, hml, hown, hts⟩ (mW_sumByBays l G M0 (k) hk 0 (show inR (0) by decide) 31 (show inR (31) by decide) q1 hq1) (cwV 2 hts (gbV (inB_8 _ (List.mem_of_getElem? (i := 15) rfl)) (inB_8 _ (List.mem_of_getElem? (i := 16) rfl)) (inB_8 _ (List.mem_of_getElem? (i := 17) rfl)) (inB_1 _ (List.mem_of_getElem? (i := 12) rfl)) (inB_8 _ (List.mem_of_getElem? (i := 18) rfl))) rfl rfl rfl (by decide +kernel) ⟨Nat.le_of_ble_eq_true rfl, Nat.le_of_ble_eq_true rfl⟩) (rv_wall hk hW) hW hS rfl hl.1 rfl (lv_room (Nat.le_of_ble_eq_true rfl)) dX3_allSacks_4 ⟨Nat.zero_le _, Nat.zero_le _⟩ (fun hv2 H locs hW hS => ?_)
  obtain rfl := some_el hf
  exact k_ret hx hb hr hlocks hW hS rfl hv2 dX3_allSacks_7
set_option maxHeartbeats 4000000 in
set_option maxRecDepth 100000 in
theorem mW_crackedRungs (l : Launch) (G : gG) (M0 : MemG) (k : Nat) (hk : k < 11) (r : Int) (hf : fW_crackedRungs M0 k = some r) : Met l yX3_crackedRungs (wb yX3_crackedRungs cX3_crackedRungs 3 (some .int)) ({ frames := 2, cells := 0, slots := 0, locals := 42 } : Room) (PcG G M0 [.ref (gA G (5 + k))]) (QcI G M0 r) 0 0 (PA G) := by
  refine Met.ofW (cc := cX3_crackedRungs) (maxL := 3) (ret := (some .int)) (by decide) rfl ?_
  intro p e s m args below meth c s₁ B hml hv0
  obtain ⟨hav, hW⟩ := hv0
  have hx := B.exec
  have hb := B.bytes
  have hr := B.returns
  have hts := atoms_spec (ws := (wb yX3_crackedRungs cX3_crackedRungs 3 (some .int))) B.pre
  have hown : s.vm.findClass RX3 = some m.cls := findClass_of_methodNamed B.named
  have hlocks := B.notSynchronized
  have hW : Wd G M0 s s.heap := hW
  have hS : va_S (PA G) s.heap s.heap [] := va_S.rf
  have hl := lv_entry [.ref (gA G (5 + k))] (n := 3) (Nat.le_of_ble_eq_true rfl)
  have hent := lg_entry_eq m [.ref (gA G (5 + k))] 3
  rw [← hav] at hent
  rw [hent]
  clear hent
  generalize (lg_sl [.ref (gA G (5 + k))] ++ List.replicate (3 - (lg_sl [.ref (gA G (5 + k))]).length) Slot.unset).toArray = ls at hl ⊢
  have hl : lv_has ls 3 [(0, .ref (gA G (5 + k)))] := hl
  unfold fW_crackedRungs at hf
  show W p l e ({ frames := 2, cells := 0, slots := 0, locals := 42 } : Room) s m args below meth c s.heap [] 0 0 (MQ below (QcI G M0 r) args s 0 0 (PA G)) (F0 m 0 ls [])
  have L7 : ∀ (z : (Int × Int)) (q : (Int)), loopN (fW_crackedRungs_l4 M0 k) 200 z = some q → (q = r) → (inR (z.1) → inR (z.2) → ∀ (H : Heap) (locs : List Loc) (ls : Array Slot), Wd G (M0) s H → va_S (PA G) s.heap H locs → lv_has ls 3 [(0, .ref (gA G (5 + k))), (1, .int (i3 (z.1))), (2, .int (i3 (z.2)))] → W p l e ({ frames := 2, cells := 0, slots := 0, locals := 42 } : Room) s m args below meth c H locs 0 0 (MQ below (QcI G M0 r) args s 0 0 (PA G)) (F0 m 4 ls [])) := by
    intro z q hq hex
    refine loop_rule (fW_crackedRungs_l4 M0 k) (fun z => inR (z.1) → inR (z.2) → ∀ (H : Heap) (locs : List Loc) (ls : Array Slot), Wd G (M0) s H → va_S (PA G) s.heap H locs → lv_has ls 3 [(0, .ref (gA G (5 + k))), (1, .int (i3 (z.1))), (2, .int (i3 (z.2)))] → W p l e ({ frames := 2, cells := 0, slots := 0, locals := 42 } : Room) s m args below meth c H locs 0 0 (MQ below (QcI G M0 r) args s 0 0 (PA G)) (F0 m 4 ls [])) (fun q => (q = r)) ?_ 200 z q hq hex
    clear hq hex q z
    intro z x hf hK hz1 hz2 H locs ls hW hS hl
    have J4 : ∀ (x1 : Int) (x2 : Int), fW_crackedRungs_j21 M0 k x1 x2 = some x → inR x1 → inR x2 →  ∀ (H : Heap) (locs : List Loc) (ls : Array Slot), Wd G M0 s H → va_S (PA G) s.heap H locs → lv_has ls 3 [(0, .ref (gA G (5 + k))), (1, .int (i3 (x1))), (2, .int (i3 (x2)))] → W p l e ({ frames := 2, cells := 0, slots := 0, locals := 42 } : Room) s m args below meth c H locs 0 0 (MQ below (QcI G M0 r) args s 0 0 (PA G)) (F0 m 21 ls []) := by
      intro x1 x2 hf hx1 hx2 H locs ls hW hS hl
      unfold fW_crackedRungs_j21 at hf
      obtain ⟨hg5, hf⟩ := gd_el hf
      refine k_iinc (lv' := [(2, .int (i3 (x2 + 1))), (0, .ref (gA G (5 + k))), (1, .int (i3 (x1)))]) hx hb dX3_crackedRungs_21 hl (k := 2) rfl (by decide) rfl (fun ls hl => ?_)
      refine lv_goto (tgt := 4) hx hb dX3_crackedRungs_24 (by decide) ?_
      obtain rfl := some_el hf
      exact hK hx1 hg5 _ _ _ hW hS (lv_sub hl [1, 2, 0] rfl)
    unfold fW_crackedRungs_l4 at hf
    refine lv_iload_n hx hb dX3_crackedRungs_4 rfl (lv_at hl 2 rfl) ?_
    refine k_bipush hx hb dX3_crackedRungs_5 (by decide +kernel) ?_
    refine k_icmp_gt (tgt := 27) hx hb hz2 (show inR (32) by decide) dX3_crackedRungs_7 (by decide) (fun hc1 => ?_) (fun hc1 => ?_)
    · rw [if_pos hc1] at hf
      refine lv_iload_n hx hb dX3_crackedRungs_27 rfl (lv_at hl 1 rfl) ?_
      obtain rfl := some_el hf
      obtain rfl : z.1 = r := hK
      exact k_ret hx hb hr hlocks hW hS rfl hz1 dX3_crackedRungs_28
    · rw [if_neg hc1] at hf
      refine lv_aload_n hx hb dX3_crackedRungs_10 rfl (lv_at hl 0 rfl) ?_
      refine lv_iload_n hx hb dX3_crackedRungs_11 rfl (lv_at hl 2 rfl) ?_
      refine k_cVz (As := [.int (i3 (z.2))]) (rest := []) ⟨hx, hb, hml, hown, hts⟩ (mW_isCracked l G M0 (k) hk z.2 hz2 _ rfl) (cwV 1 hts (gbV (inB_6 _ (List.mem_of_getElem? (i := 19) rfl)) (inB_6 _ (List.mem_of_getElem? (i := 20) rfl)) (inB_6 _ (List.mem_of_getElem? (i := 21) rfl)) (inB_1 _ (List.mem_of_getElem? (i := 12) rfl)) (inB_6 _ (List.mem_of_getElem? (i := 22) rfl))) rfl rfl rfl (by decide +kernel) ⟨Nat.le_of_ble_eq_true rfl, Nat.le_of_ble_eq_true rfl⟩) (rv_wall hk hW) hW hS rfl hl.1 rfl (lv_room (Nat.le_of_ble_eq_true rfl)) dX3_crackedRungs_12 ⟨Nat.zero_le _, Nat.zero_le _⟩ (fun hv2 H locs hW hS => ?_)
      refine k_if_eq (tgt := 21) hx hb (inR_z hv2) dX3_crackedRungs_15 (by decide) (fun hc3 => ?_) (fun hc3 => ?_)
      · rw [if_pos hc3] at hf
        exact J4 (z.1) (z.2) hf hz1 hz2 _ _ _ hW hS (lv_sub hl [0, 1, 2] rfl)
      · rw [if_neg hc3] at hf
        obtain ⟨hg6, hf⟩ := gd_el hf
        refine k_iinc (lv' := [(1, .int (i3 (z.1 + 1))), (0, .ref (gA G (5 + k))), (2, .int (i3 (z.2)))]) hx hb dX3_crackedRungs_18 hl (k := 1) rfl (by decide) rfl (fun ls hl => ?_)
        exact J4 (z.1 + 1) (z.2) hf hg6 hz2 _ _ _ hW hS (lv_sub hl [1, 0, 2] rfl)
  refine k_const hx hb dX3_crackedRungs_0 ?_
  refine lv_istore_n (lv' := [(1, .int (i3 (0))), (0, .ref (gA G (5 + k)))]) hx hb dX3_crackedRungs_1 rfl hl (by decide) rfl (fun ls hl => ?_)
  refine k_const hx hb dX3_crackedRungs_2 ?_
  refine lv_istore_n (lv' := [(2, .int (i3 (1))), (1, .int (i3 (0))), (0, .ref (gA G (5 + k)))]) hx hb dX3_crackedRungs_3 rfl hl (by decide) rfl (fun ls hl => ?_)
  exact L7  (0, 1) r hf rfl (show inR (0) by decide) (show inR (1) by decide) _ _ _ hW hS (lv_sub hl [2, 1, 0] rfl)
set_option maxHeartbeats 4000000 in
set_option maxRecDepth 100000 in
theorem mW_filledBays (l : Launch) (G : gG) (M0 : MemG) (k : Nat) (hk : k < 11) (r : Int) (hf : fW_filledBays M0 k = some r) : Met l yX3_filledBays (wb yX3_filledBays cX3_filledBays 3 (some .int)) ({ frames := 2, cells := 0, slots := 0, locals := 42 } : Room) (PcG G M0 [.ref (gA G (5 + k))]) (QcI G M0 r) 0 0 (PA G) := by
  refine Met.ofW (cc := cX3_filledBays) (maxL := 3) (ret := (some .int)) (by decide) rfl ?_
  intro p e s m args below meth c s₁ B hml hv0
  obtain ⟨hav, hW⟩ := hv0
  have hx := B.exec
  have hb := B.bytes
  have hr := B.returns
  have hts := atoms_spec (ws := (wb yX3_filledBays cX3_filledBays 3 (some .int))) B.pre
  have hown : s.vm.findClass RX3 = some m.cls := findClass_of_methodNamed B.named
  have hlocks := B.notSynchronized
  have hW : Wd G M0 s s.heap := hW
  have hS : va_S (PA G) s.heap s.heap [] := va_S.rf
  have hl := lv_entry [.ref (gA G (5 + k))] (n := 3) (Nat.le_of_ble_eq_true rfl)
  have hent := lg_entry_eq m [.ref (gA G (5 + k))] 3
  rw [← hav] at hent
  rw [hent]
  clear hent
  generalize (lg_sl [.ref (gA G (5 + k))] ++ List.replicate (3 - (lg_sl [.ref (gA G (5 + k))]).length) Slot.unset).toArray = ls at hl ⊢
  have hl : lv_has ls 3 [(0, .ref (gA G (5 + k)))] := hl
  unfold fW_filledBays at hf
  show W p l e ({ frames := 2, cells := 0, slots := 0, locals := 42 } : Room) s m args below meth c s.heap [] 0 0 (MQ below (QcI G M0 r) args s 0 0 (PA G)) (F0 m 0 ls [])
  have L7 : ∀ (z : (Int × Int)) (q : (Int)), loopN (fW_filledBays_l4 M0 k) 200 z = some q → (q = r) → (inR (z.1) → inR (z.2) → ∀ (H : Heap) (locs : List Loc) (ls : Array Slot), Wd G (M0) s H → va_S (PA G) s.heap H locs → lv_has ls 3 [(0, .ref (gA G (5 + k))), (1, .int (i3 (z.1))), (2, .int (i3 (z.2)))] → W p l e ({ frames := 2, cells := 0, slots := 0, locals := 42 } : Room) s m args below meth c H locs 0 0 (MQ below (QcI G M0 r) args s 0 0 (PA G)) (F0 m 4 ls [])) := by
    intro z q hq hex
    refine loop_rule (fW_filledBays_l4 M0 k) (fun z => inR (z.1) → inR (z.2) → ∀ (H : Heap) (locs : List Loc) (ls : Array Slot), Wd G (M0) s H → va_S (PA G) s.heap H locs → lv_has ls 3 [(0, .ref (gA G (5 + k))), (1, .int (i3 (z.1))), (2, .int (i3 (z.2)))] → W p l e ({ frames := 2, cells := 0, slots := 0, locals := 42 } : Room) s m args below meth c H locs 0 0 (MQ below (QcI G M0 r) args s 0 0 (PA G)) (F0 m 4 ls [])) (fun q => (q = r)) ?_ 200 z q hq hex
    clear hq hex q z
    intro z x hf hK hz1 hz2 H locs ls hW hS hl
    have J4 : ∀ (x1 : Int) (x2 : Int), fW_filledBays_j21 M0 k x1 x2 = some x → inR x1 → inR x2 →  ∀ (H : Heap) (locs : List Loc) (ls : Array Slot), Wd G M0 s H → va_S (PA G) s.heap H locs → lv_has ls 3 [(0, .ref (gA G (5 + k))), (1, .int (i3 (x1))), (2, .int (i3 (x2)))] → W p l e ({ frames := 2, cells := 0, slots := 0, locals := 42 } : Room) s m args below meth c H locs 0 0 (MQ below (QcI G M0 r) args s 0 0 (PA G)) (F0 m 21 ls []) := by
      intro x1 x2 hf hx1 hx2 H locs ls hW hS hl
      unfold fW_filledBays_j21 at hf
      obtain ⟨hg5, hf⟩ := gd_el hf
      refine k_iinc (lv' := [(2, .int (i3 (x2 + 1))), (0, .ref (gA G (5 + k))), (1, .int (i3 (x1)))]) hx hb dX3_filledBays_21 hl (k := 2) rfl (by decide) rfl (fun ls hl => ?_)
      refine lv_goto (tgt := 4) hx hb dX3_filledBays_24 (by decide) ?_
      obtain rfl := some_el hf
      exact hK hx1 hg5 _ _ _ hW hS (lv_sub hl [1, 2, 0] rfl)
    unfold fW_filledBays_l4 at hf
    refine lv_iload_n hx hb dX3_filledBays_4 rfl (lv_at hl 2 rfl) ?_
    refine k_bipush hx hb dX3_filledBays_5 (by decide +kernel) ?_
    refine k_icmp_ge (tgt := 27) hx hb hz2 (show inR (32) by decide) dX3_filledBays_7 (by decide) (fun hc1 => ?_) (fun hc1 => ?_)
    · rw [if_neg hc1] at hf
      refine lv_iload_n hx hb dX3_filledBays_27 rfl (lv_at hl 1 rfl) ?_
      obtain rfl := some_el hf
      obtain rfl : z.1 = r := hK
      exact k_ret hx hb hr hlocks hW hS rfl hz1 dX3_filledBays_28
    · rw [if_pos hc1] at hf
      refine lv_aload_n hx hb dX3_filledBays_10 rfl (lv_at hl 0 rfl) ?_
      refine lv_iload_n hx hb dX3_filledBays_11 rfl (lv_at hl 2 rfl) ?_
      refine k_cVz (As := [.int (i3 (z.2))]) (rest := []) ⟨hx, hb, hml, hown, hts⟩ (mW_isEmpty l G M0 (k) hk z.2 hz2 _ rfl) (cwV 1 hts (gbV (inB_8 _ (List.mem_of_getElem? (i := 10) rfl)) (inB_4 _ (List.mem_of_getElem? (i := 22) rfl)) (inB_4 _ (List.mem_of_getElem? (i := 23) rfl)) (inB_1 _ (List.mem_of_getElem? (i := 12) rfl)) (inB_5 _ (List.mem_of_getElem? (i := 0) rfl))) rfl rfl rfl (by decide +kernel) ⟨Nat.le_of_ble_eq_true rfl, Nat.le_of_ble_eq_true rfl⟩) (rv_wall hk hW) hW hS rfl hl.1 rfl (lv_room (Nat.le_of_ble_eq_true rfl)) dX3_filledBays_12 ⟨Nat.zero_le _, Nat.zero_le _⟩ (fun hv2 H locs hW hS => ?_)
      refine k_if_ne (tgt := 21) hx hb (inR_z hv2) dX3_filledBays_15 (by decide) (fun hc3 => ?_) (fun hc3 => ?_)
      · rw [if_neg hc3] at hf
        exact J4 (z.1) (z.2) hf hz1 hz2 _ _ _ hW hS (lv_sub hl [0, 1, 2] rfl)
      · rw [if_pos hc3] at hf
        obtain ⟨hg6, hf⟩ := gd_el hf
        refine k_iinc (lv' := [(1, .int (i3 (z.1 + 1))), (0, .ref (gA G (5 + k))), (2, .int (i3 (z.2)))]) hx hb dX3_filledBays_18 hl (k := 1) rfl (by decide) rfl (fun ls hl => ?_)
        exact J4 (z.1 + 1) (z.2) hf hg6 hz2 _ _ _ hW hS (lv_sub hl [1, 0, 2] rfl)
  refine k_const hx hb dX3_filledBays_0 ?_
  refine lv_istore_n (lv' := [(1, .int (i3 (0))), (0, .ref (gA G (5 + k)))]) hx hb dX3_filledBays_1 rfl hl (by decide) rfl (fun ls hl => ?_)
  refine k_const hx hb dX3_filledBays_2 ?_
  refine lv_istore_n (lv' := [(2, .int (i3 (0))), (1, .int (i3 (0))), (0, .ref (gA G (5 + k)))]) hx hb dX3_filledBays_3 rfl hl (by decide) rfl (fun ls hl => ?_)
  exact L7  (0, 0) r hf rfl (show inR (0) by decide) (show inR (0) by decide) _ _ _ hW hS (lv_sub hl [2, 1, 0] rfl)
set_option maxHeartbeats 4000000 in
set_option maxRecDepth 100000 in
theorem mW_crackedOver (l : Launch) (G : gG) (M0 : MemG) (k : Nat) (hk : k < 11) (x1 : Int) (hx1 : inR x1) (r : Int) (hf : fW_crackedOver M0 k x1 = some r) : Met l yX3_crackedOver (wb yX3_crackedOver cX3_crackedOver 5 (some .int)) ({ frames := 2, cells := 0, slots := 0, locals := 42 } : Room) (PcG G M0 [.ref (gA G (5 + k)), .int (i3 (x1))]) (QcI G M0 r) 0 0 (PA G) := by
  refine Met.ofW (cc := cX3_crackedOver) (maxL := 5) (ret := (some .int)) (by decide) rfl ?_
  intro p e s m args below meth c s₁ B hml hv0
  obtain ⟨hav, hW⟩ := hv0
  have hx := B.exec
  have hb := B.bytes
  have hr := B.returns
  have hts := atoms_spec (ws := (wb yX3_crackedOver cX3_crackedOver 5 (some .int))) B.pre
  have hown : s.vm.findClass RX3 = some m.cls := findClass_of_methodNamed B.named
  have hlocks := B.notSynchronized
  have hW : Wd G M0 s s.heap := hW
  have hS : va_S (PA G) s.heap s.heap [] := va_S.rf
  have hl := lv_entry [.ref (gA G (5 + k)), .int (i3 (x1))] (n := 5) (Nat.le_of_ble_eq_true rfl)
  have hent := lg_entry_eq m [.ref (gA G (5 + k)), .int (i3 (x1))] 5
  rw [← hav] at hent
  rw [hent]
  clear hent
  generalize (lg_sl [.ref (gA G (5 + k)), .int (i3 (x1))] ++ List.replicate (5 - (lg_sl [.ref (gA G (5 + k)), .int (i3 (x1))]).length) Slot.unset).toArray = ls at hl ⊢
  have hl : lv_has ls 5 [(0, .ref (gA G (5 + k))), (1, .int (i3 (x1)))] := hl
  unfold fW_crackedOver at hf
  show W p l e ({ frames := 2, cells := 0, slots := 0, locals := 42 } : Room) s m args below meth c s.heap [] 0 0 (MQ below (QcI G M0 r) args s 0 0 (PA G)) (F0 m 0 ls [])
  have L12 : ∀ (z : (Int × Int × Int)) (q : (Int)), loopN (fW_crackedOver_l9 M0 k) 200 z = some q → (q = r) → (inR (z.1) → inR (z.2.1) → inR (z.2.2) → ∀ (H : Heap) (locs : List Loc) (ls : Array Slot), Wd G (M0) s H → va_S (PA G) s.heap H locs → lv_has ls 5 [(0, .ref (gA G (5 + k))), (2, .int (i3 (z.1))), (3, .int (i3 (z.2.1))), (4, .int (i3 (z.2.2)))] → W p l e ({ frames := 2, cells := 0, slots := 0, locals := 42 } : Room) s m args below meth c H locs 0 0 (MQ below (QcI G M0 r) args s 0 0 (PA G)) (F0 m 9 ls [])) := by
    intro z q hq hex
    refine loop_rule (fW_crackedOver_l9 M0 k) (fun z => inR (z.1) → inR (z.2.1) → inR (z.2.2) → ∀ (H : Heap) (locs : List Loc) (ls : Array Slot), Wd G (M0) s H → va_S (PA G) s.heap H locs → lv_has ls 5 [(0, .ref (gA G (5 + k))), (2, .int (i3 (z.1))), (3, .int (i3 (z.2.1))), (4, .int (i3 (z.2.2)))] → W p l e ({ frames := 2, cells := 0, slots := 0, locals := 42 } : Room) s m args below meth c H locs 0 0 (MQ below (QcI G M0 r) args s 0 0 (PA G)) (F0 m 9 ls [])) (fun q => (q = r)) ?_ 200 z q hq hex
    clear hq hex q z
    intro z x hf hK hz2 hz3 hz4 H locs ls hW hS hl
    have J6 : ∀ (x2 : Int) (x3 : Int) (x4 : Int), fW_crackedOver_j37 M0 k x2 x3 x4 = some x → inR x2 → inR x3 → inR x4 →  ∀ (H : Heap) (locs : List Loc) (ls : Array Slot), Wd G M0 s H → va_S (PA G) s.heap H locs → lv_has ls 5 [(0, .ref (gA G (5 + k))), (2, .int (i3 (x2))), (3, .int (i3 (x3))), (4, .int (i3 (x4)))] → W p l e ({ frames := 2, cells := 0, slots := 0, locals := 42 } : Room) s m args below meth c H locs 0 0 (MQ below (QcI G M0 r) args s 0 0 (PA G)) (F0 m 37 ls []) := by
      intro x2 x3 x4 hf hx2 hx3 hx4 H locs ls hW hS hl
      unfold fW_crackedOver_j37 at hf
      refine lv_iload_n hx hb dX3_crackedOver_37 rfl (lv_at hl 2 rfl) ?_
      refine lv_iload_n hx hb dX3_crackedOver_38 rfl (lv_at hl 2 rfl) ?_
      refine k_cNi (As := [.int (i3 (x3))]) (rest := [.int (i3 (x3))]) ⟨hx, hb, hml, hown, hts⟩ (mG_sizeOf l G M0 x3 hx3 _ rfl) ⟨va_cnB 1 hts (gbC (inB_6 _ (List.mem_of_getElem? (i := 14) rfl))) rfl rfl rfl (hW.N _ (List.mem_of_getElem? (i := 3) rfl)) (hts _ (List.mem_cons_of_mem _ (inB_1 _ (List.mem_of_getElem? (i := 2) rfl)))) (by decide +kernel) ⟨Nat.le_of_ble_eq_true rfl, Nat.le_of_ble_eq_true rfl⟩, (hts _ (List.mem_cons_of_mem _ (inB_6 _ (List.mem_of_getElem? (i := 13) rfl)))), trivial⟩ hW hS rfl hl.1 rfl (lv_room (Nat.le_of_ble_eq_true rfl)) dX3_crackedOver_39 ⟨Nat.zero_le _, Nat.zero_le _⟩ (fun hv7 H locs hW hS => ?_)
      refine k_add hx hb dX3_crackedOver_42 ?_
      obtain ⟨hg8, hf⟩ := gd_el hf
      refine lv_istore_n (lv' := [(3, .int (i3 (x3 + ((fG_sizeOf x3))))), (0, .ref (gA G (5 + k))), (2, .int (i3 (x2))), (4, .int (i3 (x4)))]) hx hb dX3_crackedOver_43 rfl hl (by decide) rfl (fun ls hl => ?_)
      obtain ⟨hg9, hf⟩ := gd_el hf
      refine k_iinc (lv' := [(4, .int (i3 (x4 + 1))), (3, .int (i3 (x3 + ((fG_sizeOf x3))))), (0, .ref (gA G (5 + k))), (2, .int (i3 (x2)))]) hx hb dX3_crackedOver_44 hl (k := 3) rfl (by decide) rfl (fun ls hl => ?_)
      refine lv_goto (tgt := 9) hx hb dX3_crackedOver_47 (by decide) ?_
      obtain rfl := some_el hf
      exact hK hx2 hg8 hg9 _ _ _ hW hS (lv_sub hl [2, 3, 1, 0] rfl)
    unfold fW_crackedOver_l9 at hf
    refine lv_iload hx hb dX3_crackedOver_9 (lv_at hl 3 rfl) ?_
    refine k_bipush hx hb dX3_crackedOver_11 (by decide +kernel) ?_
    refine k_icmp_ge (tgt := 50) hx hb hz4 (show inR (32) by decide) dX3_crackedOver_13 (by decide) (fun hc2 => ?_) (fun hc2 => ?_)
    · rw [if_neg hc2] at hf
      refine lv_iload_n hx hb dX3_crackedOver_50 rfl (lv_at hl 1 rfl) ?_
      obtain rfl := some_el hf
      obtain rfl : z.1 = r := hK
      exact k_ret hx hb hr hlocks hW hS rfl hz2 dX3_crackedOver_51
    · rw [if_pos hc2] at hf
      refine lv_iload_n hx hb dX3_crackedOver_16 rfl (lv_at hl 2 rfl) ?_
      refine k_bipush hx hb dX3_crackedOver_17 (by decide +kernel) ?_
      refine k_icmp_gt (tgt := 50) hx hb hz3 (show inR (32) by decide) dX3_crackedOver_19 (by decide) (fun hc3 => ?_) (fun hc3 => ?_)
      · rw [if_pos hc3] at hf
        refine lv_iload_n hx hb dX3_crackedOver_50 rfl (lv_at hl 1 rfl) ?_
        obtain rfl := some_el hf
        obtain rfl : z.1 = r := hK
        exact k_ret hx hb hr hlocks hW hS rfl hz2 dX3_crackedOver_51
      · rw [if_neg hc3] at hf
        refine lv_aload_n hx hb dX3_crackedOver_22 rfl (lv_at hl 0 rfl) ?_
        refine lv_iload_n hx hb dX3_crackedOver_23 rfl (lv_at hl 2 rfl) ?_
        refine k_cVz (As := [.int (i3 (z.2.1))]) (rest := []) ⟨hx, hb, hml, hown, hts⟩ (mW_isCracked l G M0 (k) hk z.2.1 hz3 _ rfl) (cwV 1 hts (gbV (inB_6 _ (List.mem_of_getElem? (i := 19) rfl)) (inB_6 _ (List.mem_of_getElem? (i := 20) rfl)) (inB_6 _ (List.mem_of_getElem? (i := 21) rfl)) (inB_1 _ (List.mem_of_getElem? (i := 12) rfl)) (inB_6 _ (List.mem_of_getElem? (i := 22) rfl))) rfl rfl rfl (by decide +kernel) ⟨Nat.le_of_ble_eq_true rfl, Nat.le_of_ble_eq_true rfl⟩) (rv_wall hk hW) hW hS rfl hl.1 rfl (lv_room (Nat.le_of_ble_eq_true rfl)) dX3_crackedOver_24 ⟨Nat.zero_le _, Nat.zero_le _⟩ (fun hv4 H locs hW hS => ?_)
        refine k_if_eq (tgt := 37) hx hb (inR_z hv4) dX3_crackedOver_27 (by decide) (fun hc5 => ?_) (fun hc5 => ?_)
        · rw [if_pos hc5] at hf
          exact J6 (z.1) (z.2.1) (z.2.2) hf hz2 hz3 hz4 _ _ _ hW hS (lv_sub hl [0, 1, 2, 3] rfl)
        · rw [if_neg hc5] at hf
          refine lv_iload_n hx hb dX3_crackedOver_30 rfl (lv_at hl 1 rfl) ?_
          refine lv_iload_n hx hb dX3_crackedOver_31 rfl (lv_at hl 2 rfl) ?_
          refine k_cNi (As := [.int (i3 (z.2.1))]) (rest := [.int (i3 (z.1))]) ⟨hx, hb, hml, hown, hts⟩ (mG_sizeOf l G M0 z.2.1 hz3 _ rfl) ⟨va_cnB 1 hts (gbC (inB_6 _ (List.mem_of_getElem? (i := 14) rfl))) rfl rfl rfl (hW.N _ (List.mem_of_getElem? (i := 3) rfl)) (hts _ (List.mem_cons_of_mem _ (inB_1 _ (List.mem_of_getElem? (i := 2) rfl)))) (by decide +kernel) ⟨Nat.le_of_ble_eq_true rfl, Nat.le_of_ble_eq_true rfl⟩, (hts _ (List.mem_cons_of_mem _ (inB_6 _ (List.mem_of_getElem? (i := 13) rfl)))), trivial⟩ hW hS rfl hl.1 rfl (lv_room (Nat.le_of_ble_eq_true rfl)) dX3_crackedOver_32 ⟨Nat.zero_le _, Nat.zero_le _⟩ (fun hv10 H locs hW hS => ?_)
          refine k_add hx hb dX3_crackedOver_35 ?_
          obtain ⟨hg11, hf⟩ := gd_el hf
          refine lv_istore_n (lv' := [(2, .int (i3 (z.1 + ((fG_sizeOf z.2.1))))), (0, .ref (gA G (5 + k))), (3, .int (i3 (z.2.1))), (4, .int (i3 (z.2.2)))]) hx hb dX3_crackedOver_36 rfl hl (by decide) rfl (fun ls hl => ?_)
          exact J6 (z.1 + ((fG_sizeOf z.2.1))) (z.2.1) (z.2.2) hf hg11 hz3 hz4 _ _ _ hW hS (lv_sub hl [1, 0, 2, 3] rfl)
  refine k_const hx hb dX3_crackedOver_0 ?_
  refine lv_istore_n (lv' := [(2, .int (i3 (0))), (0, .ref (gA G (5 + k))), (1, .int (i3 (x1)))]) hx hb dX3_crackedOver_1 rfl hl (by decide) rfl (fun ls hl => ?_)
  refine lv_iload_n hx hb dX3_crackedOver_2 rfl (lv_at hl 2 rfl) ?_
  refine k_const hx hb dX3_crackedOver_3 ?_
  refine k_add hx hb dX3_crackedOver_4 ?_
  obtain ⟨hg1, hf⟩ := gd_el hf
  refine lv_istore_n (lv' := [(3, .int (i3 (x1 + 1))), (2, .int (i3 (0))), (0, .ref (gA G (5 + k))), (1, .int (i3 (x1)))]) hx hb dX3_crackedOver_5 rfl hl (by decide) rfl (fun ls hl => ?_)
  refine k_const hx hb dX3_crackedOver_6 ?_
  refine lv_istore (lv' := [(4, .int (i3 (0))), (3, .int (i3 (x1 + 1))), (2, .int (i3 (0))), (0, .ref (gA G (5 + k))), (1, .int (i3 (x1)))]) hx hb dX3_crackedOver_7 hl (by decide) rfl (fun ls hl => ?_)
  exact L12  (0, x1 + 1, 0) r hf rfl (show inR (0) by decide) hg1 (show inR (0) by decide) _ _ _ hW hS (lv_sub hl [3, 2, 1, 0] rfl)
set_option maxHeartbeats 4000000 in
set_option maxRecDepth 100000 in
theorem mW_rungsOver (l : Launch) (G : gG) (M0 : MemG) (k : Nat) (hk : k < 11) (x1 : Int) (hx1 : inR x1) (r : Int) (hf : fW_rungsOver k x1 = some r) : Met l yX3_rungsOver (wb yX3_rungsOver cX3_rungsOver 5 (some .int)) ({ frames := 1, cells := 0, slots := 0, locals := 20 } : Room) (PcG G M0 [.ref (gA G (5 + k)), .int (i3 (x1))]) (QcI G M0 r) 0 0 (PA G) := by
  refine Met.ofW (cc := cX3_rungsOver) (maxL := 5) (ret := (some .int)) (by decide) rfl ?_
  intro p e s m args below meth c s₁ B hml hv0
  obtain ⟨hav, hW⟩ := hv0
  have hx := B.exec
  have hb := B.bytes
  have hr := B.returns
  have hts := atoms_spec (ws := (wb yX3_rungsOver cX3_rungsOver 5 (some .int))) B.pre
  have hown : s.vm.findClass RX3 = some m.cls := findClass_of_methodNamed B.named
  have hlocks := B.notSynchronized
  have hW : Wd G M0 s s.heap := hW
  have hS : va_S (PA G) s.heap s.heap [] := va_S.rf
  have hl := lv_entry [.ref (gA G (5 + k)), .int (i3 (x1))] (n := 5) (Nat.le_of_ble_eq_true rfl)
  have hent := lg_entry_eq m [.ref (gA G (5 + k)), .int (i3 (x1))] 5
  rw [← hav] at hent
  rw [hent]
  clear hent
  generalize (lg_sl [.ref (gA G (5 + k)), .int (i3 (x1))] ++ List.replicate (5 - (lg_sl [.ref (gA G (5 + k)), .int (i3 (x1))]).length) Slot.unset).toArray = ls at hl ⊢
  have hl : lv_has ls 5 [(0, .ref (gA G (5 + k))), (1, .int (i3 (x1)))] := hl
  unfold fW_rungsOver at hf
  show W p l e ({ frames := 1, cells := 0, slots := 0, locals := 20 } : Room) s m args below meth c s.heap [] 0 0 (MQ below (QcI G M0 r) args s 0 0 (PA G)) (F0 m 0 ls [])
  have L8 : ∀ (z : (Int × Int × Int)) (q : (Int)), loopN (fW_rungsOver_l9 k) 200 z = some q → (q = r) → (inR (z.1) → inR (z.2.1) → inR (z.2.2) → ∀ (H : Heap) (locs : List Loc) (ls : Array Slot), Wd G (M0) s H → va_S (PA G) s.heap H locs → lv_has ls 5 [(2, .int (i3 (z.1))), (3, .int (i3 (z.2.1))), (4, .int (i3 (z.2.2)))] → W p l e ({ frames := 1, cells := 0, slots := 0, locals := 20 } : Room) s m args below meth c H locs 0 0 (MQ below (QcI G M0 r) args s 0 0 (PA G)) (F0 m 9 ls [])) := by
    intro z q hq hex
    refine loop_rule (fW_rungsOver_l9 k) (fun z => inR (z.1) → inR (z.2.1) → inR (z.2.2) → ∀ (H : Heap) (locs : List Loc) (ls : Array Slot), Wd G (M0) s H → va_S (PA G) s.heap H locs → lv_has ls 5 [(2, .int (i3 (z.1))), (3, .int (i3 (z.2.1))), (4, .int (i3 (z.2.2)))] → W p l e ({ frames := 1, cells := 0, slots := 0, locals := 20 } : Room) s m args below meth c H locs 0 0 (MQ below (QcI G M0 r) args s 0 0 (PA G)) (F0 m 9 ls [])) (fun q => (q = r)) ?_ 200 z q hq hex
    clear hq hex q z
    intro z x hf hK hz2 hz3 hz4 H locs ls hW hS hl
    unfold fW_rungsOver_l9 at hf
    refine lv_iload hx hb dX3_rungsOver_9 (lv_at hl 2 rfl) ?_
    refine k_bipush hx hb dX3_rungsOver_11 (by decide +kernel) ?_
    refine k_icmp_ge (tgt := 38) hx hb hz4 (show inR (32) by decide) dX3_rungsOver_13 (by decide) (fun hc2 => ?_) (fun hc2 => ?_)
    · rw [if_neg hc2] at hf
      refine lv_iload_n hx hb dX3_rungsOver_38 rfl (lv_at hl 0 rfl) ?_
      obtain rfl := some_el hf
      obtain rfl : z.1 = r := hK
      exact k_ret hx hb hr hlocks hW hS rfl hz2 dX3_rungsOver_39
    · rw [if_pos hc2] at hf
      refine lv_iload_n hx hb dX3_rungsOver_16 rfl (lv_at hl 1 rfl) ?_
      refine k_bipush hx hb dX3_rungsOver_17 (by decide +kernel) ?_
      refine k_icmp_gt (tgt := 38) hx hb hz3 (show inR (32) by decide) dX3_rungsOver_19 (by decide) (fun hc3 => ?_) (fun hc3 => ?_)
      · rw [if_pos hc3] at hf
        refine lv_iload_n hx hb dX3_rungsOver_38 rfl (lv_at hl 0 rfl) ?_
        obtain rfl := some_el hf
        obtain rfl : z.1 = r := hK
        exact k_ret hx hb hr hlocks hW hS rfl hz2 dX3_rungsOver_39
      · rw [if_neg hc3] at hf
        obtain ⟨hg4, hf⟩ := gd_el hf
        refine k_iinc (lv' := [(2, .int (i3 (z.1 + 1))), (3, .int (i3 (z.2.1))), (4, .int (i3 (z.2.2)))]) hx hb dX3_rungsOver_22 hl (k := 0) rfl (by decide) rfl (fun ls hl => ?_)
        refine lv_iload_n hx hb dX3_rungsOver_25 rfl (lv_at hl 1 rfl) ?_
        refine lv_iload_n hx hb dX3_rungsOver_26 rfl (lv_at hl 1 rfl) ?_
        refine k_cNi (As := [.int (i3 (z.2.1))]) (rest := [.int (i3 (z.2.1))]) ⟨hx, hb, hml, hown, hts⟩ (mG_sizeOf l G M0 z.2.1 hz3 _ rfl) ⟨va_cnB 1 hts (gbC (inB_6 _ (List.mem_of_getElem? (i := 14) rfl))) rfl rfl rfl (hW.N _ (List.mem_of_getElem? (i := 3) rfl)) (hts _ (List.mem_cons_of_mem _ (inB_1 _ (List.mem_of_getElem? (i := 2) rfl)))) (by decide +kernel) ⟨Nat.le_of_ble_eq_true rfl, Nat.le_of_ble_eq_true rfl⟩, (hts _ (List.mem_cons_of_mem _ (inB_6 _ (List.mem_of_getElem? (i := 13) rfl)))), trivial⟩ hW hS rfl hl.1 rfl (lv_room (Nat.le_of_ble_eq_true rfl)) dX3_rungsOver_27 ⟨Nat.zero_le _, Nat.zero_le _⟩ (fun hv5 H locs hW hS => ?_)
        refine k_add hx hb dX3_rungsOver_30 ?_
        obtain ⟨hg6, hf⟩ := gd_el hf
        refine lv_istore_n (lv' := [(3, .int (i3 (z.2.1 + ((fG_sizeOf z.2.1))))), (2, .int (i3 (z.1 + 1))), (4, .int (i3 (z.2.2)))]) hx hb dX3_rungsOver_31 rfl hl (by decide) rfl (fun ls hl => ?_)
        obtain ⟨hg7, hf⟩ := gd_el hf
        refine k_iinc (lv' := [(4, .int (i3 (z.2.2 + 1))), (3, .int (i3 (z.2.1 + ((fG_sizeOf z.2.1))))), (2, .int (i3 (z.1 + 1)))]) hx hb dX3_rungsOver_32 hl (k := 2) rfl (by decide) rfl (fun ls hl => ?_)
        refine lv_goto (tgt := 9) hx hb dX3_rungsOver_35 (by decide) ?_
        obtain rfl := some_el hf
        exact hK hg4 hg6 hg7 _ _ _ hW hS (lv_sub hl [2, 1, 0] rfl)
  refine k_const hx hb dX3_rungsOver_0 ?_
  refine lv_istore_n (lv' := [(2, .int (i3 (0))), (0, .ref (gA G (5 + k))), (1, .int (i3 (x1)))]) hx hb dX3_rungsOver_1 rfl hl (by decide) rfl (fun ls hl => ?_)
  refine lv_iload_n hx hb dX3_rungsOver_2 rfl (lv_at hl 2 rfl) ?_
  refine k_const hx hb dX3_rungsOver_3 ?_
  refine k_add hx hb dX3_rungsOver_4 ?_
  obtain ⟨hg1, hf⟩ := gd_el hf
  refine lv_istore_n (lv' := [(3, .int (i3 (x1 + 1))), (2, .int (i3 (0))), (0, .ref (gA G (5 + k))), (1, .int (i3 (x1)))]) hx hb dX3_rungsOver_5 rfl hl (by decide) rfl (fun ls hl => ?_)
  refine k_const hx hb dX3_rungsOver_6 ?_
  refine lv_istore (lv' := [(4, .int (i3 (0))), (3, .int (i3 (x1 + 1))), (2, .int (i3 (0))), (0, .ref (gA G (5 + k))), (1, .int (i3 (x1)))]) hx hb dX3_rungsOver_7 hl (by decide) rfl (fun ls hl => ?_)
  exact L8  (0, x1 + 1, 0) r hf rfl (show inR (0) by decide) hg1 (show inR (0) by decide) _ _ _ hW hS (lv_sub hl [2, 1, 0] rfl)
set_option maxHeartbeats 4000000 in
set_option maxRecDepth 100000 in
theorem mW_sacksAsOldAs (l : Launch) (G : gG) (M0 : MemG) (k : Nat) (hk : k < 11) (x1 : Int) (hx1 : inR x1) (r : Int) (hf : fW_sacksAsOldAs M0 k x1 = some r) : Met l yX3_sacksAsOldAs (wb yX3_sacksAsOldAs cX3_sacksAsOldAs 4 (some .int)) ({ frames := 2, cells := 0, slots := 0, locals := 42 } : Room) (PcG G M0 [.ref (gA G (5 + k)), .int (i3 (x1))]) (QcI G M0 r) 0 0 (PA G) := by
  refine Met.ofW (cc := cX3_sacksAsOldAs) (maxL := 4) (ret := (some .int)) (by decide) rfl ?_
  intro p e s m args below meth c s₁ B hml hv0
  obtain ⟨hav, hW⟩ := hv0
  have hx := B.exec
  have hb := B.bytes
  have hr := B.returns
  have hts := atoms_spec (ws := (wb yX3_sacksAsOldAs cX3_sacksAsOldAs 4 (some .int))) B.pre
  have hown : s.vm.findClass RX3 = some m.cls := findClass_of_methodNamed B.named
  have hlocks := B.notSynchronized
  have hW : Wd G M0 s s.heap := hW
  have hS : va_S (PA G) s.heap s.heap [] := va_S.rf
  have hl := lv_entry [.ref (gA G (5 + k)), .int (i3 (x1))] (n := 4) (Nat.le_of_ble_eq_true rfl)
  have hent := lg_entry_eq m [.ref (gA G (5 + k)), .int (i3 (x1))] 4
  rw [← hav] at hent
  rw [hent]
  clear hent
  generalize (lg_sl [.ref (gA G (5 + k)), .int (i3 (x1))] ++ List.replicate (4 - (lg_sl [.ref (gA G (5 + k)), .int (i3 (x1))]).length) Slot.unset).toArray = ls at hl ⊢
  have hl : lv_has ls 4 [(0, .ref (gA G (5 + k))), (1, .int (i3 (x1)))] := hl
  unfold fW_sacksAsOldAs at hf
  show W p l e ({ frames := 2, cells := 0, slots := 0, locals := 42 } : Room) s m args below meth c s.heap [] 0 0 (MQ below (QcI G M0 r) args s 0 0 (PA G)) (F0 m 0 ls [])
  have L8 : ∀ (x1 : Int) (hx1 : inR x1), ∀ (z : (Int × Int)) (q : (Int)), loopN (fW_sacksAsOldAs_l4 M0 k x1) 200 z = some q → (q = r) → (inR (z.1) → inR (z.2) → ∀ (H : Heap) (locs : List Loc) (ls : Array Slot), Wd G (M0) s H → va_S (PA G) s.heap H locs → lv_has ls 4 [(0, .ref (gA G (5 + k))), (1, .int (i3 (x1))), (2, .int (i3 (z.1))), (3, .int (i3 (z.2)))] → W p l e ({ frames := 2, cells := 0, slots := 0, locals := 42 } : Room) s m args below meth c H locs 0 0 (MQ below (QcI G M0 r) args s 0 0 (PA G)) (F0 m 4 ls [])) := by
    intro x1 hx1 z q hq hex
    refine loop_rule (fW_sacksAsOldAs_l4 M0 k x1) (fun z => inR (z.1) → inR (z.2) → ∀ (H : Heap) (locs : List Loc) (ls : Array Slot), Wd G (M0) s H → va_S (PA G) s.heap H locs → lv_has ls 4 [(0, .ref (gA G (5 + k))), (1, .int (i3 (x1))), (2, .int (i3 (z.1))), (3, .int (i3 (z.2)))] → W p l e ({ frames := 2, cells := 0, slots := 0, locals := 42 } : Room) s m args below meth c H locs 0 0 (MQ below (QcI G M0 r) args s 0 0 (PA G)) (F0 m 4 ls [])) (fun q => (q = r)) ?_ 200 z q hq hex
    clear hq hex q z
    intro z x hf hK hz2 hz3 H locs ls hW hS hl
    have J4 : ∀ (x2 : Int) (x3 : Int), fW_sacksAsOldAs_j27 M0 k x1 x2 x3 = some x → inR x2 → inR x3 →  ∀ (H : Heap) (locs : List Loc) (ls : Array Slot), Wd G M0 s H → va_S (PA G) s.heap H locs → lv_has ls 4 [(0, .ref (gA G (5 + k))), (1, .int (i3 (x1))), (2, .int (i3 (x2))), (3, .int (i3 (x3)))] → W p l e ({ frames := 2, cells := 0, slots := 0, locals := 42 } : Room) s m args below meth c H locs 0 0 (MQ below (QcI G M0 r) args s 0 0 (PA G)) (F0 m 27 ls []) := by
      intro x2 x3 hf hx2 hx3 H locs ls hW hS hl
      unfold fW_sacksAsOldAs_j27 at hf
      obtain ⟨hg5, hf⟩ := gd_el hf
      refine k_iinc (lv' := [(3, .int (i3 (x3 + 1))), (0, .ref (gA G (5 + k))), (1, .int (i3 (x1))), (2, .int (i3 (x2)))]) hx hb dX3_sacksAsOldAs_27 hl (k := 3) rfl (by decide) rfl (fun ls hl => ?_)
      refine lv_goto (tgt := 4) hx hb dX3_sacksAsOldAs_30 (by decide) ?_
      obtain rfl := some_el hf
      exact hK hx2 hg5 _ _ _ hW hS (lv_sub hl [1, 2, 3, 0] rfl)
    unfold fW_sacksAsOldAs_l4 at hf
    refine lv_iload_n hx hb dX3_sacksAsOldAs_4 rfl (lv_at hl 3 rfl) ?_
    refine k_bipush hx hb dX3_sacksAsOldAs_5 (by decide +kernel) ?_
    refine k_icmp_ge (tgt := 33) hx hb hz3 (show inR (32) by decide) dX3_sacksAsOldAs_7 (by decide) (fun hc1 => ?_) (fun hc1 => ?_)
    · rw [if_neg hc1] at hf
      refine lv_iload_n hx hb dX3_sacksAsOldAs_33 rfl (lv_at hl 2 rfl) ?_
      obtain rfl := some_el hf
      obtain rfl : z.1 = r := hK
      exact k_ret hx hb hr hlocks hW hS rfl hz2 dX3_sacksAsOldAs_34
    · rw [if_pos hc1] at hf
      refine lv_aload_n hx hb dX3_sacksAsOldAs_10 rfl (lv_at hl 0 rfl) ?_
      refine lv_iload_n hx hb dX3_sacksAsOldAs_11 rfl (lv_at hl 3 rfl) ?_
      refine k_cVi (As := [.int (i3 (z.2))]) (rest := []) ⟨hx, hb, hml, hown, hts⟩ (mW_ageIn l G M0 (k) hk z.2 hz3 _ rfl) (cwV 1 hts (gbV (inB_13 _ (List.mem_of_getElem? (i := 5) rfl)) (inB_6 _ (List.mem_of_getElem? (i := 2) rfl)) (inB_6 _ (List.mem_of_getElem? (i := 3) rfl)) (inB_1 _ (List.mem_of_getElem? (i := 12) rfl)) (inB_6 _ (List.mem_of_getElem? (i := 4) rfl))) rfl rfl rfl (by decide +kernel) ⟨Nat.le_of_ble_eq_true rfl, Nat.le_of_ble_eq_true rfl⟩) (rv_wall hk hW) hW hS rfl hl.1 rfl (lv_room (Nat.le_of_ble_eq_true rfl)) dX3_sacksAsOldAs_12 ⟨Nat.zero_le _, Nat.zero_le _⟩ (fun hv2 H locs hW hS => ?_)
      refine lv_iload_n hx hb dX3_sacksAsOldAs_15 rfl (lv_at hl 1 rfl) ?_
      refine k_icmp_ne (tgt := 27) hx hb hv2 hx1 dX3_sacksAsOldAs_16 (by decide) (fun hc3 => ?_) (fun hc3 => ?_)
      · rw [if_neg hc3] at hf
        exact J4 (z.1) (z.2) hf hz2 hz3 _ _ _ hW hS (lv_sub hl [0, 1, 2, 3] rfl)
      · rw [if_pos hc3] at hf
        refine lv_iload_n hx hb dX3_sacksAsOldAs_19 rfl (lv_at hl 2 rfl) ?_
        refine lv_aload_n hx hb dX3_sacksAsOldAs_20 rfl (lv_at hl 0 rfl) ?_
        refine lv_iload_n hx hb dX3_sacksAsOldAs_21 rfl (lv_at hl 3 rfl) ?_
        refine k_cVi (As := [.int (i3 (z.2))]) (rest := [.int (i3 (z.1))]) ⟨hx, hb, hml, hown, hts⟩ (mW_sacksIn l G M0 (k) hk z.2 hz3 _ rfl) (cwV 1 hts (gbV (inB_8 _ (List.mem_of_getElem? (i := 19) rfl)) (inB_5 _ (List.mem_of_getElem? (i := 8) rfl)) (inB_5 _ (List.mem_of_getElem? (i := 9) rfl)) (inB_1 _ (List.mem_of_getElem? (i := 12) rfl)) (inB_5 _ (List.mem_of_getElem? (i := 10) rfl))) rfl rfl rfl (by decide +kernel) ⟨Nat.le_of_ble_eq_true rfl, Nat.le_of_ble_eq_true rfl⟩) (rv_wall hk hW) hW hS rfl hl.1 rfl (lv_room (Nat.le_of_ble_eq_true rfl)) dX3_sacksAsOldAs_22 ⟨Nat.zero_le _, Nat.zero_le _⟩ (fun hv6 H locs hW hS => ?_)
        refine k_add hx hb dX3_sacksAsOldAs_25 ?_
        obtain ⟨hg7, hf⟩ := gd_el hf
        refine lv_istore_n (lv' := [(2, .int (i3 (z.1 + ((fW_sacksIn M0 (k) z.2))))), (0, .ref (gA G (5 + k))), (1, .int (i3 (x1))), (3, .int (i3 (z.2)))]) hx hb dX3_sacksAsOldAs_26 rfl hl (by decide) rfl (fun ls hl => ?_)
        exact J4 (z.1 + ((fW_sacksIn M0 (k) z.2))) (z.2) hf hg7 hz3 _ _ _ hW hS (lv_sub hl [1, 2, 0, 3] rfl)
  refine k_const hx hb dX3_sacksAsOldAs_0 ?_
  refine lv_istore_n (lv' := [(2, .int (i3 (0))), (0, .ref (gA G (5 + k))), (1, .int (i3 (x1)))]) hx hb dX3_sacksAsOldAs_1 rfl hl (by decide) rfl (fun ls hl => ?_)
  refine k_const hx hb dX3_sacksAsOldAs_2 ?_
  refine lv_istore_n (lv' := [(3, .int (i3 (0))), (2, .int (i3 (0))), (0, .ref (gA G (5 + k))), (1, .int (i3 (x1)))]) hx hb dX3_sacksAsOldAs_3 rfl hl (by decide) rfl (fun ls hl => ?_)
  exact L8 (x1) hx1 (0, 0) r hf rfl (show inR (0) by decide) (show inR (0) by decide) _ _ _ hW hS (lv_sub hl [2, 3, 1, 0] rfl)
set_option maxHeartbeats 4000000 in
set_option maxRecDepth 100000 in
theorem mW_isAhead (l : Launch) (G : gG) (M0 : MemG) (k : Nat) (hk : k < 11) (x1 : Int) (hx1 : inR x1) (x2 : Int) (hx2 : inR x2) (r : Int) (hf : fW_isAhead M0 k x1 x2 = r) : Met l yX3_isAhead (wb yX3_isAhead cX3_isAhead 3 (some .boolean)) ({ frames := 2, cells := 0, slots := 0, locals := 42 } : Room) (PcG G M0 [.ref (gA G (5 + k)), .int (i3 (x1)), .int (i3 (x2))]) (QcZ G M0 r) 0 0 (PA G) := by
  refine Met.ofW (cc := cX3_isAhead) (maxL := 3) (ret := (some .boolean)) (by decide) rfl ?_
  intro p e s m args below meth c s₁ B hml hv0
  obtain ⟨hav, hW⟩ := hv0
  have hx := B.exec
  have hb := B.bytes
  have hr := B.returns
  have hts := atoms_spec (ws := (wb yX3_isAhead cX3_isAhead 3 (some .boolean))) B.pre
  have hown : s.vm.findClass RX3 = some m.cls := findClass_of_methodNamed B.named
  have hlocks := B.notSynchronized
  have hW : Wd G M0 s s.heap := hW
  have hS : va_S (PA G) s.heap s.heap [] := va_S.rf
  have hl := lv_entry [.ref (gA G (5 + k)), .int (i3 (x1)), .int (i3 (x2))] (n := 3) (Nat.le_of_ble_eq_true rfl)
  have hent := lg_entry_eq m [.ref (gA G (5 + k)), .int (i3 (x1)), .int (i3 (x2))] 3
  rw [← hav] at hent
  rw [hent]
  clear hent
  generalize (lg_sl [.ref (gA G (5 + k)), .int (i3 (x1)), .int (i3 (x2))] ++ List.replicate (3 - (lg_sl [.ref (gA G (5 + k)), .int (i3 (x1)), .int (i3 (x2))]).length) Slot.unset).toArray = ls at hl ⊢
  have hl : lv_has ls 3 [(0, .ref (gA G (5 + k))), (1, .int (i3 (x1))), (2, .int (i3 (x2)))] := hl
  unfold fW_isAhead at hf
  show W p l e ({ frames := 2, cells := 0, slots := 0, locals := 42 } : Room) s m args below meth c s.heap [] 0 0 (MQ below (QcZ G M0 r) args s 0 0 (PA G)) (F0 m 0 ls [])
  refine lv_aload_n hx hb dX3_isAhead_0 rfl (lv_at hl 0 rfl) ?_
  refine lv_iload_n hx hb dX3_isAhead_1 rfl (lv_at hl 1 rfl) ?_
  refine k_cVi (As := [.int (i3 (x1))]) (rest := []) ⟨hx, hb, hml, hown, hts⟩ (mW_ageIn l G M0 (k) hk x1 hx1 _ rfl) (cwV 1 hts (gbV (inB_13 _ (List.mem_of_getElem? (i := 5) rfl)) (inB_6 _ (List.mem_of_getElem? (i := 2) rfl)) (inB_6 _ (List.mem_of_getElem? (i := 3) rfl)) (inB_1 _ (List.mem_of_getElem? (i := 12) rfl)) (inB_6 _ (List.mem_of_getElem? (i := 4) rfl))) rfl rfl rfl (by decide +kernel) ⟨Nat.le_of_ble_eq_true rfl, Nat.le_of_ble_eq_true rfl⟩) (rv_wall hk hW) hW hS rfl hl.1 rfl (lv_room (Nat.le_of_ble_eq_true rfl)) dX3_isAhead_2 ⟨Nat.zero_le _, Nat.zero_le _⟩ (fun hv1 H locs hW hS => ?_)
  refine lv_aload_n hx hb dX3_isAhead_5 rfl (lv_at hl 0 rfl) ?_
  refine lv_iload_n hx hb dX3_isAhead_6 rfl (lv_at hl 2 rfl) ?_
  refine k_cVi (As := [.int (i3 (x2))]) (rest := [.int (i3 ((fW_ageIn M0 (k) x1)))]) ⟨hx, hb, hml, hown, hts⟩ (mW_ageIn l G M0 (k) hk x2 hx2 _ rfl) (cwV 1 hts (gbV (inB_13 _ (List.mem_of_getElem? (i := 5) rfl)) (inB_6 _ (List.mem_of_getElem? (i := 2) rfl)) (inB_6 _ (List.mem_of_getElem? (i := 3) rfl)) (inB_1 _ (List.mem_of_getElem? (i := 12) rfl)) (inB_6 _ (List.mem_of_getElem? (i := 4) rfl))) rfl rfl rfl (by decide +kernel) ⟨Nat.le_of_ble_eq_true rfl, Nat.le_of_ble_eq_true rfl⟩) (rv_wall hk hW) hW hS rfl hl.1 rfl (lv_room (Nat.le_of_ble_eq_true rfl)) dX3_isAhead_7 ⟨Nat.zero_le _, Nat.zero_le _⟩ (fun hv2 H locs hW hS => ?_)
  refine k_icmp_eq (tgt := 32) hx hb hv1 hv2 dX3_isAhead_10 (by decide) (fun hc3 => ?_) (fun hc3 => ?_)
  · rw [if_pos hc3] at hf
    refine lv_aload_n hx hb dX3_isAhead_32 rfl (lv_at hl 0 rfl) ?_
    refine lv_iload_n hx hb dX3_isAhead_33 rfl (lv_at hl 1 rfl) ?_
    refine k_cVi (As := [.int (i3 (x1))]) (rest := []) ⟨hx, hb, hml, hown, hts⟩ (mW_sacksIn l G M0 (k) hk x1 hx1 _ rfl) (cwV 1 hts (gbV (inB_8 _ (List.mem_of_getElem? (i := 19) rfl)) (inB_5 _ (List.mem_of_getElem? (i := 8) rfl)) (inB_5 _ (List.mem_of_getElem? (i := 9) rfl)) (inB_1 _ (List.mem_of_getElem? (i := 12) rfl)) (inB_5 _ (List.mem_of_getElem? (i := 10) rfl))) rfl rfl rfl (by decide +kernel) ⟨Nat.le_of_ble_eq_true rfl, Nat.le_of_ble_eq_true rfl⟩) (rv_wall hk hW) hW hS rfl hl.1 rfl (lv_room (Nat.le_of_ble_eq_true rfl)) dX3_isAhead_34 ⟨Nat.zero_le _, Nat.zero_le _⟩ (fun hv4 H locs hW hS => ?_)
    refine lv_aload_n hx hb dX3_isAhead_37 rfl (lv_at hl 0 rfl) ?_
    refine lv_iload_n hx hb dX3_isAhead_38 rfl (lv_at hl 2 rfl) ?_
    refine k_cVi (As := [.int (i3 (x2))]) (rest := [.int (i3 ((fW_sacksIn M0 (k) x1)))]) ⟨hx, hb, hml, hown, hts⟩ (mW_sacksIn l G M0 (k) hk x2 hx2 _ rfl) (cwV 1 hts (gbV (inB_8 _ (List.mem_of_getElem? (i := 19) rfl)) (inB_5 _ (List.mem_of_getElem? (i := 8) rfl)) (inB_5 _ (List.mem_of_getElem? (i := 9) rfl)) (inB_1 _ (List.mem_of_getElem? (i := 12) rfl)) (inB_5 _ (List.mem_of_getElem? (i := 10) rfl))) rfl rfl rfl (by decide +kernel) ⟨Nat.le_of_ble_eq_true rfl, Nat.le_of_ble_eq_true rfl⟩) (rv_wall hk hW) hW hS rfl hl.1 rfl (lv_room (Nat.le_of_ble_eq_true rfl)) dX3_isAhead_39 ⟨Nat.zero_le _, Nat.zero_le _⟩ (fun hv5 H locs hW hS => ?_)
    refine k_icmp_eq (tgt := 64) hx hb hv4 hv5 dX3_isAhead_42 (by decide) (fun hc6 => ?_) (fun hc6 => ?_)
    · rw [if_pos hc6] at hf
      refine lv_iload_n hx hb dX3_isAhead_64 rfl (lv_at hl 1 rfl) ?_
      refine lv_iload_n hx hb dX3_isAhead_65 rfl (lv_at hl 2 rfl) ?_
      refine k_icmp_ge (tgt := 73) hx hb hx1 hx2 dX3_isAhead_66 (by decide) (fun hc7 => ?_) (fun hc7 => ?_)
      · rw [if_neg hc7] at hf
        refine k_const hx hb dX3_isAhead_73 ?_
        subst hf
        exact k_retz hx hb hr hlocks hW hS rfl (show (0 : Int) = 0 ∨ (0 : Int) = 1 by decide) dX3_isAhead_74
      · rw [if_pos hc7] at hf
        refine k_const hx hb dX3_isAhead_69 ?_
        refine lv_goto (tgt := 74) hx hb dX3_isAhead_70 (by decide) ?_
        subst hf
        exact k_retz hx hb hr hlocks hW hS rfl (show (1 : Int) = 0 ∨ (1 : Int) = 1 by decide) dX3_isAhead_74
    · rw [if_neg hc6] at hf
      refine lv_aload_n hx hb dX3_isAhead_45 rfl (lv_at hl 0 rfl) ?_
      refine lv_iload_n hx hb dX3_isAhead_46 rfl (lv_at hl 1 rfl) ?_
      refine k_cVi (As := [.int (i3 (x1))]) (rest := []) ⟨hx, hb, hml, hown, hts⟩ (mW_sacksIn l G M0 (k) hk x1 hx1 _ rfl) (cwV 1 hts (gbV (inB_8 _ (List.mem_of_getElem? (i := 19) rfl)) (inB_5 _ (List.mem_of_getElem? (i := 8) rfl)) (inB_5 _ (List.mem_of_getElem? (i := 9) rfl)) (inB_1 _ (List.mem_of_getElem? (i := 12) rfl)) (inB_5 _ (List.mem_of_getElem? (i := 10) rfl))) rfl rfl rfl (by decide +kernel) ⟨Nat.le_of_ble_eq_true rfl, Nat.le_of_ble_eq_true rfl⟩) (rv_wall hk hW) hW hS rfl hl.1 rfl (lv_room (Nat.le_of_ble_eq_true rfl)) dX3_isAhead_47 ⟨Nat.zero_le _, Nat.zero_le _⟩ (fun hv8 H locs hW hS => ?_)
      refine lv_aload_n hx hb dX3_isAhead_50 rfl (lv_at hl 0 rfl) ?_
      refine lv_iload_n hx hb dX3_isAhead_51 rfl (lv_at hl 2 rfl) ?_
      refine k_cVi (As := [.int (i3 (x2))]) (rest := [.int (i3 ((fW_sacksIn M0 (k) x1)))]) ⟨hx, hb, hml, hown, hts⟩ (mW_sacksIn l G M0 (k) hk x2 hx2 _ rfl) (cwV 1 hts (gbV (inB_8 _ (List.mem_of_getElem? (i := 19) rfl)) (inB_5 _ (List.mem_of_getElem? (i := 8) rfl)) (inB_5 _ (List.mem_of_getElem? (i := 9) rfl)) (inB_1 _ (List.mem_of_getElem? (i := 12) rfl)) (inB_5 _ (List.mem_of_getElem? (i := 10) rfl))) rfl rfl rfl (by decide +kernel) ⟨Nat.le_of_ble_eq_true rfl, Nat.le_of_ble_eq_true rfl⟩) (rv_wall hk hW) hW hS rfl hl.1 rfl (lv_room (Nat.le_of_ble_eq_true rfl)) dX3_isAhead_52 ⟨Nat.zero_le _, Nat.zero_le _⟩ (fun hv9 H locs hW hS => ?_)
      refine k_icmp_le (tgt := 62) hx hb hv8 hv9 dX3_isAhead_55 (by decide) (fun hc10 => ?_) (fun hc10 => ?_)
      · rw [if_neg hc10] at hf
        refine k_const hx hb dX3_isAhead_62 ?_
        subst hf
        exact k_retz hx hb hr hlocks hW hS rfl (show (0 : Int) = 0 ∨ (0 : Int) = 1 by decide) dX3_isAhead_63
      · rw [if_pos hc10] at hf
        refine k_const hx hb dX3_isAhead_58 ?_
        refine lv_goto (tgt := 63) hx hb dX3_isAhead_59 (by decide) ?_
        subst hf
        exact k_retz hx hb hr hlocks hW hS rfl (show (1 : Int) = 0 ∨ (1 : Int) = 1 by decide) dX3_isAhead_63
  · rw [if_neg hc3] at hf
    refine lv_aload_n hx hb dX3_isAhead_13 rfl (lv_at hl 0 rfl) ?_
    refine lv_iload_n hx hb dX3_isAhead_14 rfl (lv_at hl 1 rfl) ?_
    refine k_cVi (As := [.int (i3 (x1))]) (rest := []) ⟨hx, hb, hml, hown, hts⟩ (mW_ageIn l G M0 (k) hk x1 hx1 _ rfl) (cwV 1 hts (gbV (inB_13 _ (List.mem_of_getElem? (i := 5) rfl)) (inB_6 _ (List.mem_of_getElem? (i := 2) rfl)) (inB_6 _ (List.mem_of_getElem? (i := 3) rfl)) (inB_1 _ (List.mem_of_getElem? (i := 12) rfl)) (inB_6 _ (List.mem_of_getElem? (i := 4) rfl))) rfl rfl rfl (by decide +kernel) ⟨Nat.le_of_ble_eq_true rfl, Nat.le_of_ble_eq_true rfl⟩) (rv_wall hk hW) hW hS rfl hl.1 rfl (lv_room (Nat.le_of_ble_eq_true rfl)) dX3_isAhead_15 ⟨Nat.zero_le _, Nat.zero_le _⟩ (fun hv11 H locs hW hS => ?_)
    refine lv_aload_n hx hb dX3_isAhead_18 rfl (lv_at hl 0 rfl) ?_
    refine lv_iload_n hx hb dX3_isAhead_19 rfl (lv_at hl 2 rfl) ?_
    refine k_cVi (As := [.int (i3 (x2))]) (rest := [.int (i3 ((fW_ageIn M0 (k) x1)))]) ⟨hx, hb, hml, hown, hts⟩ (mW_ageIn l G M0 (k) hk x2 hx2 _ rfl) (cwV 1 hts (gbV (inB_13 _ (List.mem_of_getElem? (i := 5) rfl)) (inB_6 _ (List.mem_of_getElem? (i := 2) rfl)) (inB_6 _ (List.mem_of_getElem? (i := 3) rfl)) (inB_1 _ (List.mem_of_getElem? (i := 12) rfl)) (inB_6 _ (List.mem_of_getElem? (i := 4) rfl))) rfl rfl rfl (by decide +kernel) ⟨Nat.le_of_ble_eq_true rfl, Nat.le_of_ble_eq_true rfl⟩) (rv_wall hk hW) hW hS rfl hl.1 rfl (lv_room (Nat.le_of_ble_eq_true rfl)) dX3_isAhead_20 ⟨Nat.zero_le _, Nat.zero_le _⟩ (fun hv12 H locs hW hS => ?_)
    refine k_icmp_le (tgt := 30) hx hb hv11 hv12 dX3_isAhead_23 (by decide) (fun hc13 => ?_) (fun hc13 => ?_)
    · rw [if_neg hc13] at hf
      refine k_const hx hb dX3_isAhead_30 ?_
      subst hf
      exact k_retz hx hb hr hlocks hW hS rfl (show (0 : Int) = 0 ∨ (0 : Int) = 1 by decide) dX3_isAhead_31
    · rw [if_pos hc13] at hf
      refine k_const hx hb dX3_isAhead_26 ?_
      refine lv_goto (tgt := 31) hx hb dX3_isAhead_27 (by decide) ?_
      subst hf
      exact k_retz hx hb hr hlocks hW hS rfl (show (1 : Int) = 0 ∨ (1 : Int) = 1 by decide) dX3_isAhead_31
set_option maxHeartbeats 4000000 in
set_option maxRecDepth 100000 in
theorem mW_placeOf (l : Launch) (G : gG) (M0 : MemG) (k : Nat) (hk : k < 11) (x1 : Int) (hx1 : inR x1) (r : Int) (hf : fW_placeOf M0 k x1 = some r) : Met l yX3_placeOf (wb yX3_placeOf cX3_placeOf 4 (some .int)) ({ frames := 3, cells := 0, slots := 0, locals := 64 } : Room) (PcG G M0 [.ref (gA G (5 + k)), .int (i3 (x1))]) (QcI G M0 r) 0 0 (PA G) := by
  refine Met.ofW (cc := cX3_placeOf) (maxL := 4) (ret := (some .int)) (by decide) rfl ?_
  intro p e s m args below meth c s₁ B hml hv0
  obtain ⟨hav, hW⟩ := hv0
  have hx := B.exec
  have hb := B.bytes
  have hr := B.returns
  have hts := atoms_spec (ws := (wb yX3_placeOf cX3_placeOf 4 (some .int))) B.pre
  have hown : s.vm.findClass RX3 = some m.cls := findClass_of_methodNamed B.named
  have hlocks := B.notSynchronized
  have hW : Wd G M0 s s.heap := hW
  have hS : va_S (PA G) s.heap s.heap [] := va_S.rf
  have hl := lv_entry [.ref (gA G (5 + k)), .int (i3 (x1))] (n := 4) (Nat.le_of_ble_eq_true rfl)
  have hent := lg_entry_eq m [.ref (gA G (5 + k)), .int (i3 (x1))] 4
  rw [← hav] at hent
  rw [hent]
  clear hent
  generalize (lg_sl [.ref (gA G (5 + k)), .int (i3 (x1))] ++ List.replicate (4 - (lg_sl [.ref (gA G (5 + k)), .int (i3 (x1))]).length) Slot.unset).toArray = ls at hl ⊢
  have hl : lv_has ls 4 [(0, .ref (gA G (5 + k))), (1, .int (i3 (x1)))] := hl
  unfold fW_placeOf at hf
  show W p l e ({ frames := 3, cells := 0, slots := 0, locals := 64 } : Room) s m args below meth c s.heap [] 0 0 (MQ below (QcI G M0 r) args s 0 0 (PA G)) (F0 m 0 ls [])
  have L9 : ∀ (x1 : Int) (hx1 : inR x1), ∀ (z : (Int × Int)) (q : (Int)), loopN (fW_placeOf_l4 M0 k x1) 200 z = some q → (q = r) → (inR (z.1) → inR (z.2) → ∀ (H : Heap) (locs : List Loc) (ls : Array Slot), Wd G (M0) s H → va_S (PA G) s.heap H locs → lv_has ls 4 [(0, .ref (gA G (5 + k))), (1, .int (i3 (x1))), (2, .int (i3 (z.1))), (3, .int (i3 (z.2)))] → W p l e ({ frames := 3, cells := 0, slots := 0, locals := 64 } : Room) s m args below meth c H locs 0 0 (MQ below (QcI G M0 r) args s 0 0 (PA G)) (F0 m 4 ls [])) := by
    intro x1 hx1 z q hq hex
    refine loop_rule (fW_placeOf_l4 M0 k x1) (fun z => inR (z.1) → inR (z.2) → ∀ (H : Heap) (locs : List Loc) (ls : Array Slot), Wd G (M0) s H → va_S (PA G) s.heap H locs → lv_has ls 4 [(0, .ref (gA G (5 + k))), (1, .int (i3 (x1))), (2, .int (i3 (z.1))), (3, .int (i3 (z.2)))] → W p l e ({ frames := 3, cells := 0, slots := 0, locals := 64 } : Room) s m args below meth c H locs 0 0 (MQ below (QcI G M0 r) args s 0 0 (PA G)) (F0 m 4 ls [])) (fun q => (q = r)) ?_ 200 z q hq hex
    clear hq hex q z
    intro z x hf hK hz2 hz3 H locs ls hW hS hl
    have J4 : ∀ (x2 : Int) (x3 : Int), fW_placeOf_j30 M0 k x1 x2 x3 = some x → inR x2 → inR x3 →  ∀ (H : Heap) (locs : List Loc) (ls : Array Slot), Wd G M0 s H → va_S (PA G) s.heap H locs → lv_has ls 4 [(0, .ref (gA G (5 + k))), (1, .int (i3 (x1))), (2, .int (i3 (x2))), (3, .int (i3 (x3)))] → W p l e ({ frames := 3, cells := 0, slots := 0, locals := 64 } : Room) s m args below meth c H locs 0 0 (MQ below (QcI G M0 r) args s 0 0 (PA G)) (F0 m 30 ls []) := by
      intro x2 x3 hf hx2 hx3 H locs ls hW hS hl
      unfold fW_placeOf_j30 at hf
      obtain ⟨hg5, hf⟩ := gd_el hf
      refine k_iinc (lv' := [(3, .int (i3 (x3 + 1))), (0, .ref (gA G (5 + k))), (1, .int (i3 (x1))), (2, .int (i3 (x2)))]) hx hb dX3_placeOf_30 hl (k := 3) rfl (by decide) rfl (fun ls hl => ?_)
      refine lv_goto (tgt := 4) hx hb dX3_placeOf_33 (by decide) ?_
      obtain rfl := some_el hf
      exact hK hx2 hg5 _ _ _ hW hS (lv_sub hl [1, 2, 3, 0] rfl)
    unfold fW_placeOf_l4 at hf
    refine lv_iload_n hx hb dX3_placeOf_4 rfl (lv_at hl 3 rfl) ?_
    refine k_bipush hx hb dX3_placeOf_5 (by decide +kernel) ?_
    refine k_icmp_ge (tgt := 36) hx hb hz3 (show inR (32) by decide) dX3_placeOf_7 (by decide) (fun hc1 => ?_) (fun hc1 => ?_)
    · rw [if_neg hc1] at hf
      refine lv_iload_n hx hb dX3_placeOf_36 rfl (lv_at hl 2 rfl) ?_
      obtain rfl := some_el hf
      obtain rfl : z.1 = r := hK
      exact k_ret hx hb hr hlocks hW hS rfl hz2 dX3_placeOf_37
    · rw [if_pos hc1] at hf
      refine lv_aload_n hx hb dX3_placeOf_10 rfl (lv_at hl 0 rfl) ?_
      refine lv_iload_n hx hb dX3_placeOf_11 rfl (lv_at hl 3 rfl) ?_
      refine k_cVz (As := [.int (i3 (z.2))]) (rest := []) ⟨hx, hb, hml, hown, hts⟩ (mW_isEmpty l G M0 (k) hk z.2 hz3 _ rfl) (cwV 1 hts (gbV (inB_8 _ (List.mem_of_getElem? (i := 10) rfl)) (inB_4 _ (List.mem_of_getElem? (i := 22) rfl)) (inB_4 _ (List.mem_of_getElem? (i := 23) rfl)) (inB_1 _ (List.mem_of_getElem? (i := 12) rfl)) (inB_5 _ (List.mem_of_getElem? (i := 0) rfl))) rfl rfl rfl (by decide +kernel) ⟨Nat.le_of_ble_eq_true rfl, Nat.le_of_ble_eq_true rfl⟩) (rv_wall hk hW) hW hS rfl hl.1 rfl (lv_room (Nat.le_of_ble_eq_true rfl)) dX3_placeOf_12 ⟨Nat.zero_le _, Nat.zero_le _⟩ (fun hv2 H locs hW hS => ?_)
      refine k_if_ne (tgt := 30) hx hb (inR_z hv2) dX3_placeOf_15 (by decide) (fun hc3 => ?_) (fun hc3 => ?_)
      · rw [if_neg hc3] at hf
        exact J4 (z.1) (z.2) hf hz2 hz3 _ _ _ hW hS (lv_sub hl [0, 1, 2, 3] rfl)
      · rw [if_pos hc3] at hf
        refine lv_aload_n hx hb dX3_placeOf_18 rfl (lv_at hl 0 rfl) ?_
        refine lv_iload_n hx hb dX3_placeOf_19 rfl (lv_at hl 3 rfl) ?_
        refine lv_iload_n hx hb dX3_placeOf_20 rfl (lv_at hl 1 rfl) ?_
        refine k_cVz (As := [.int (i3 (z.2)), .int (i3 (x1))]) (rest := []) ⟨hx, hb, hml, hown, hts⟩ (mW_isAhead l G M0 (k) hk z.2 hz3 x1 hx1 _ rfl) (cwV 2 hts (gbV (inB_21 _ (List.mem_of_getElem? (i := 8) rfl)) (inB_21 _ (List.mem_of_getElem? (i := 9) rfl)) (inB_21 _ (List.mem_of_getElem? (i := 10) rfl)) (inB_1 _ (List.mem_of_getElem? (i := 12) rfl)) (inB_21 _ (List.mem_of_getElem? (i := 11) rfl))) rfl rfl rfl (by decide +kernel) ⟨Nat.le_of_ble_eq_true rfl, Nat.le_of_ble_eq_true rfl⟩) (rv_wall hk hW) hW hS rfl hl.1 rfl (lv_room (Nat.le_of_ble_eq_true rfl)) dX3_placeOf_21 ⟨Nat.zero_le _, Nat.zero_le _⟩ (fun hv6 H locs hW hS => ?_)
        refine k_if_eq (tgt := 30) hx hb (inR_z hv6) dX3_placeOf_24 (by decide) (fun hc7 => ?_) (fun hc7 => ?_)
        · rw [if_pos hc7] at hf
          exact J4 (z.1) (z.2) hf hz2 hz3 _ _ _ hW hS (lv_sub hl [0, 1, 2, 3] rfl)
        · rw [if_neg hc7] at hf
          obtain ⟨hg8, hf⟩ := gd_el hf
          refine k_iinc (lv' := [(2, .int (i3 (z.1 + 1))), (0, .ref (gA G (5 + k))), (1, .int (i3 (x1))), (3, .int (i3 (z.2)))]) hx hb dX3_placeOf_27 hl (k := 2) rfl (by decide) rfl (fun ls hl => ?_)
          exact J4 (z.1 + 1) (z.2) hf hg8 hz3 _ _ _ hW hS (lv_sub hl [1, 2, 0, 3] rfl)
  refine k_const hx hb dX3_placeOf_0 ?_
  refine lv_istore_n (lv' := [(2, .int (i3 (0))), (0, .ref (gA G (5 + k))), (1, .int (i3 (x1)))]) hx hb dX3_placeOf_1 rfl hl (by decide) rfl (fun ls hl => ?_)
  refine k_const hx hb dX3_placeOf_2 ?_
  refine lv_istore_n (lv' := [(3, .int (i3 (0))), (2, .int (i3 (0))), (0, .ref (gA G (5 + k))), (1, .int (i3 (x1)))]) hx hb dX3_placeOf_3 rfl hl (by decide) rfl (fun ls hl => ?_)
  exact L9 (x1) hx1 (0, 0) r hf rfl (show inR (0) by decide) (show inR (0) by decide) _ _ _ hW hS (lv_sub hl [2, 3, 1, 0] rfl)
set_option maxHeartbeats 4000000 in
set_option maxRecDepth 100000 in
theorem mW_sumByClimbing (l : Launch) (G : gG) (M0 : MemG) (k : Nat) (hk : k < 11) (x1 : Int) (hx1 : inR x1) (r : Int) (hf : fW_sumByClimbing M0 k x1 = some r) : Met l yX3_sumByClimbing (wb yX3_sumByClimbing cX3_sumByClimbing 5 (some .int)) ({ frames := 2, cells := 0, slots := 0, locals := 42 } : Room) (PcG G M0 [.ref (gA G (5 + k)), .int (i3 (x1))]) (QcI G M0 r) 0 0 (PA G) := by
  refine Met.ofW (cc := cX3_sumByClimbing) (maxL := 5) (ret := (some .int)) (by decide) rfl ?_
  intro p e s m args below meth c s₁ B hml hv0
  obtain ⟨hav, hW⟩ := hv0
  have hx := B.exec
  have hb := B.bytes
  have hr := B.returns
  have hts := atoms_spec (ws := (wb yX3_sumByClimbing cX3_sumByClimbing 5 (some .int))) B.pre
  have hown : s.vm.findClass RX3 = some m.cls := findClass_of_methodNamed B.named
  have hlocks := B.notSynchronized
  have hW : Wd G M0 s s.heap := hW
  have hS : va_S (PA G) s.heap s.heap [] := va_S.rf
  have hl := lv_entry [.ref (gA G (5 + k)), .int (i3 (x1))] (n := 5) (Nat.le_of_ble_eq_true rfl)
  have hent := lg_entry_eq m [.ref (gA G (5 + k)), .int (i3 (x1))] 5
  rw [← hav] at hent
  rw [hent]
  clear hent
  generalize (lg_sl [.ref (gA G (5 + k)), .int (i3 (x1))] ++ List.replicate (5 - (lg_sl [.ref (gA G (5 + k)), .int (i3 (x1))]).length) Slot.unset).toArray = ls at hl ⊢
  have hl : lv_has ls 5 [(0, .ref (gA G (5 + k))), (1, .int (i3 (x1)))] := hl
  unfold fW_sumByClimbing at hf
  show W p l e ({ frames := 2, cells := 0, slots := 0, locals := 42 } : Room) s m args below meth c s.heap [] 0 0 (MQ below (QcI G M0 r) args s 0 0 (PA G)) (F0 m 0 ls [])
  have L9 : ∀ (z : (Int × Int × Int)) (q : (Int)), loopN (fW_sumByClimbing_l9 M0 k) 200 z = some q → (q = r) → (inR (z.1) → inR (z.2.1) → inR (z.2.2) → ∀ (H : Heap) (locs : List Loc) (ls : Array Slot), Wd G (M0) s H → va_S (PA G) s.heap H locs → lv_has ls 5 [(0, .ref (gA G (5 + k))), (2, .int (i3 (z.1))), (3, .int (i3 (z.2.1))), (4, .int (i3 (z.2.2)))] → W p l e ({ frames := 2, cells := 0, slots := 0, locals := 42 } : Room) s m args below meth c H locs 0 0 (MQ below (QcI G M0 r) args s 0 0 (PA G)) (F0 m 9 ls [])) := by
    intro z q hq hex
    refine loop_rule (fW_sumByClimbing_l9 M0 k) (fun z => inR (z.1) → inR (z.2.1) → inR (z.2.2) → ∀ (H : Heap) (locs : List Loc) (ls : Array Slot), Wd G (M0) s H → va_S (PA G) s.heap H locs → lv_has ls 5 [(0, .ref (gA G (5 + k))), (2, .int (i3 (z.1))), (3, .int (i3 (z.2.1))), (4, .int (i3 (z.2.2)))] → W p l e ({ frames := 2, cells := 0, slots := 0, locals := 42 } : Room) s m args below meth c H locs 0 0 (MQ below (QcI G M0 r) args s 0 0 (PA G)) (F0 m 9 ls [])) (fun q => (q = r)) ?_ 200 z q hq hex
    clear hq hex q z
    intro z x hf hK hz2 hz3 hz4 H locs ls hW hS hl
    unfold fW_sumByClimbing_l9 at hf
    refine lv_iload hx hb dX3_sumByClimbing_9 (lv_at hl 3 rfl) ?_
    refine k_bipush hx hb dX3_sumByClimbing_11 (by decide +kernel) ?_
    refine k_icmp_ge (tgt := 41) hx hb hz4 (show inR (32) by decide) dX3_sumByClimbing_13 (by decide) (fun hc2 => ?_) (fun hc2 => ?_)
    · rw [if_neg hc2] at hf
      refine lv_iload_n hx hb dX3_sumByClimbing_41 rfl (lv_at hl 1 rfl) ?_
      obtain rfl := some_el hf
      obtain rfl : z.1 = r := hK
      exact k_ret hx hb hr hlocks hW hS rfl hz2 dX3_sumByClimbing_42
    · rw [if_pos hc2] at hf
      refine lv_iload_n hx hb dX3_sumByClimbing_16 rfl (lv_at hl 2 rfl) ?_
      refine k_if_le (tgt := 41) hx hb hz3 dX3_sumByClimbing_17 (by decide) (fun hc3 => ?_) (fun hc3 => ?_)
      · rw [if_neg hc3] at hf
        refine lv_iload_n hx hb dX3_sumByClimbing_41 rfl (lv_at hl 1 rfl) ?_
        obtain rfl := some_el hf
        obtain rfl : z.1 = r := hK
        exact k_ret hx hb hr hlocks hW hS rfl hz2 dX3_sumByClimbing_42
      · rw [if_pos hc3] at hf
        refine lv_iload_n hx hb dX3_sumByClimbing_20 rfl (lv_at hl 1 rfl) ?_
        refine lv_aload_n hx hb dX3_sumByClimbing_21 rfl (lv_at hl 0 rfl) ?_
        refine lv_iload_n hx hb dX3_sumByClimbing_22 rfl (lv_at hl 2 rfl) ?_
        refine k_cVi (As := [.int (i3 (z.2.1))]) (rest := [.int (i3 (z.1))]) ⟨hx, hb, hml, hown, hts⟩ (mW_sumOf l G M0 (k) hk z.2.1 hz3 _ rfl) (cwV 1 hts (gbV (inB_6 _ (List.mem_of_getElem? (i := 23) rfl)) (inB_7 _ (List.mem_of_getElem? (i := 0) rfl)) (inB_7 _ (List.mem_of_getElem? (i := 1) rfl)) (inB_1 _ (List.mem_of_getElem? (i := 12) rfl)) (inB_7 _ (List.mem_of_getElem? (i := 2) rfl))) rfl rfl rfl (by decide +kernel) ⟨Nat.le_of_ble_eq_true rfl, Nat.le_of_ble_eq_true rfl⟩) (rv_wall hk hW) hW hS rfl hl.1 rfl (lv_room (Nat.le_of_ble_eq_true rfl)) dX3_sumByClimbing_23 ⟨Nat.zero_le _, Nat.zero_le _⟩ (fun hv4 H locs hW hS => ?_)
        refine k_add hx hb dX3_sumByClimbing_26 ?_
        obtain ⟨hg5, hf⟩ := gd_el hf
        refine lv_istore_n (lv' := [(2, .int (i3 (z.1 + ((fW_sumOf M0 (k) z.2.1))))), (0, .ref (gA G (5 + k))), (3, .int (i3 (z.2.1))), (4, .int (i3 (z.2.2)))]) hx hb dX3_sumByClimbing_27 rfl hl (by decide) rfl (fun ls hl => ?_)
        refine lv_iload_n hx hb dX3_sumByClimbing_28 rfl (lv_at hl 2 rfl) ?_
        refine lv_iload_n hx hb dX3_sumByClimbing_29 rfl (lv_at hl 2 rfl) ?_
        refine k_cNi (As := [.int (i3 (z.2.1))]) (rest := [.int (i3 (z.2.1))]) ⟨hx, hb, hml, hown, hts⟩ (mG_sizeOf l G M0 z.2.1 hz3 _ rfl) ⟨va_cnB 1 hts (gbC (inB_6 _ (List.mem_of_getElem? (i := 14) rfl))) rfl rfl rfl (hW.N _ (List.mem_of_getElem? (i := 3) rfl)) (hts _ (List.mem_cons_of_mem _ (inB_1 _ (List.mem_of_getElem? (i := 2) rfl)))) (by decide +kernel) ⟨Nat.le_of_ble_eq_true rfl, Nat.le_of_ble_eq_true rfl⟩, (hts _ (List.mem_cons_of_mem _ (inB_6 _ (List.mem_of_getElem? (i := 13) rfl)))), trivial⟩ hW hS rfl hl.1 rfl (lv_room (Nat.le_of_ble_eq_true rfl)) dX3_sumByClimbing_30 ⟨Nat.zero_le _, Nat.zero_le _⟩ (fun hv6 H locs hW hS => ?_)
        refine k_sub hx hb dX3_sumByClimbing_33 ?_
        obtain ⟨hg7, hf⟩ := gd_el hf
        refine lv_istore_n (lv' := [(3, .int (i3 (z.2.1 - ((fG_sizeOf z.2.1))))), (2, .int (i3 (z.1 + ((fW_sumOf M0 (k) z.2.1))))), (0, .ref (gA G (5 + k))), (4, .int (i3 (z.2.2)))]) hx hb dX3_sumByClimbing_34 rfl hl (by decide) rfl (fun ls hl => ?_)
        obtain ⟨hg8, hf⟩ := gd_el hf
        refine k_iinc (lv' := [(4, .int (i3 (z.2.2 + 1))), (3, .int (i3 (z.2.1 - ((fG_sizeOf z.2.1))))), (2, .int (i3 (z.1 + ((fW_sumOf M0 (k) z.2.1))))), (0, .ref (gA G (5 + k)))]) hx hb dX3_sumByClimbing_35 hl (k := 3) rfl (by decide) rfl (fun ls hl => ?_)
        refine lv_goto (tgt := 9) hx hb dX3_sumByClimbing_38 (by decide) ?_
        obtain rfl := some_el hf
        exact hK hg5 hg7 hg8 _ _ _ hW hS (lv_sub hl [3, 2, 1, 0] rfl)
  refine k_const hx hb dX3_sumByClimbing_0 ?_
  refine lv_istore_n (lv' := [(2, .int (i3 (0))), (0, .ref (gA G (5 + k))), (1, .int (i3 (x1)))]) hx hb dX3_sumByClimbing_1 rfl hl (by decide) rfl (fun ls hl => ?_)
  refine lv_iload_n hx hb dX3_sumByClimbing_2 rfl (lv_at hl 2 rfl) ?_
  refine k_const hx hb dX3_sumByClimbing_3 ?_
  refine k_add hx hb dX3_sumByClimbing_4 ?_
  obtain ⟨hg1, hf⟩ := gd_el hf
  refine lv_istore_n (lv' := [(3, .int (i3 (x1 + 1))), (2, .int (i3 (0))), (0, .ref (gA G (5 + k))), (1, .int (i3 (x1)))]) hx hb dX3_sumByClimbing_5 rfl hl (by decide) rfl (fun ls hl => ?_)
  refine k_const hx hb dX3_sumByClimbing_6 ?_
  refine lv_istore (lv' := [(4, .int (i3 (0))), (3, .int (i3 (x1 + 1))), (2, .int (i3 (0))), (0, .ref (gA G (5 + k))), (1, .int (i3 (x1)))]) hx hb dX3_sumByClimbing_7 hl (by decide) rfl (fun ls hl => ?_)
  exact L9  (0, x1 + 1, 0) r hf rfl (show inR (0) by decide) hg1 (show inR (0) by decide) _ _ _ hW hS (lv_sub hl [3, 2, 1, 0] rfl)
set_option maxHeartbeats 4000000 in
set_option maxRecDepth 100000 in
theorem mW_cracksUnder (l : Launch) (G : gG) (M0 : MemG) (k : Nat) (hk : k < 11) (x1 : Int) (hx1 : inR x1) (x2 : Int) (hx2 : inR x2) (r : Int) (hf : fW_cracksUnder M0 k x1 x2 = some r) : Met l yX3_cracksUnder (wb yX3_cracksUnder cX3_cracksUnder 5 (some .boolean)) ({ frames := 2, cells := 0, slots := 0, locals := 42 } : Room) (PcG G M0 [.ref (gA G (5 + k)), .int (i3 (x1)), .int (i3 (x2))]) (QcZ G M0 r) 0 0 (PA G) := by
  refine Met.ofW (cc := cX3_cracksUnder) (maxL := 5) (ret := (some .boolean)) (by decide) rfl ?_
  intro p e s m args below meth c s₁ B hml hv0
  obtain ⟨hav, hW⟩ := hv0
  have hx := B.exec
  have hb := B.bytes
  have hr := B.returns
  have hts := atoms_spec (ws := (wb yX3_cracksUnder cX3_cracksUnder 5 (some .boolean))) B.pre
  have hown : s.vm.findClass RX3 = some m.cls := findClass_of_methodNamed B.named
  have hlocks := B.notSynchronized
  have hW : Wd G M0 s s.heap := hW
  have hS : va_S (PA G) s.heap s.heap [] := va_S.rf
  have hl := lv_entry [.ref (gA G (5 + k)), .int (i3 (x1)), .int (i3 (x2))] (n := 5) (Nat.le_of_ble_eq_true rfl)
  have hent := lg_entry_eq m [.ref (gA G (5 + k)), .int (i3 (x1)), .int (i3 (x2))] 5
  rw [← hav] at hent
  rw [hent]
  clear hent
  generalize (lg_sl [.ref (gA G (5 + k)), .int (i3 (x1)), .int (i3 (x2))] ++ List.replicate (5 - (lg_sl [.ref (gA G (5 + k)), .int (i3 (x1)), .int (i3 (x2))]).length) Slot.unset).toArray = ls at hl ⊢
  have hl : lv_has ls 5 [(0, .ref (gA G (5 + k))), (1, .int (i3 (x1))), (2, .int (i3 (x2)))] := hl
  unfold fW_cracksUnder at hf
  show W p l e ({ frames := 2, cells := 0, slots := 0, locals := 42 } : Room) s m args below meth c s.heap [] 0 0 (MQ below (QcZ G M0 r) args s 0 0 (PA G)) (F0 m 0 ls [])
  have L15 : ∀ (x2 : Int) (hx2 : inR x2), ∀ (z : (Int × Int)) (q : (Int)), loopN (fW_cracksUnder_l7 M0 k x2) 200 z = some q → (q = r) → (inR (z.1) → inR (z.2) → ∀ (H : Heap) (locs : List Loc) (ls : Array Slot), Wd G (M0) s H → va_S (PA G) s.heap H locs → lv_has ls 5 [(0, .ref (gA G (5 + k))), (2, .int (i3 (x2))), (3, .int (i3 (z.1))), (4, .int (i3 (z.2)))] → W p l e ({ frames := 2, cells := 0, slots := 0, locals := 42 } : Room) s m args below meth c H locs 0 0 (MQ below (QcZ G M0 r) args s 0 0 (PA G)) (F0 m 7 ls [])) := by
    intro x2 hx2 z q hq hex
    refine loop_rule (fW_cracksUnder_l7 M0 k x2) (fun z => inR (z.1) → inR (z.2) → ∀ (H : Heap) (locs : List Loc) (ls : Array Slot), Wd G (M0) s H → va_S (PA G) s.heap H locs → lv_has ls 5 [(0, .ref (gA G (5 + k))), (2, .int (i3 (x2))), (3, .int (i3 (z.1))), (4, .int (i3 (z.2)))] → W p l e ({ frames := 2, cells := 0, slots := 0, locals := 42 } : Room) s m args below meth c H locs 0 0 (MQ below (QcZ G M0 r) args s 0 0 (PA G)) (F0 m 7 ls [])) (fun q => (q = r)) ?_ 200 z q hq hex
    clear hq hex q z
    intro z x hf hK hz3 hz4 H locs ls hW hS hl
    have J6 : ∀ (x3 : Int) (x4 : Int), fW_cracksUnder_j44 M0 k x2 x3 x4 = some x → inR x3 → inR x4 →  ∀ (H : Heap) (locs : List Loc) (ls : Array Slot), Wd G M0 s H → va_S (PA G) s.heap H locs → lv_has ls 5 [(0, .ref (gA G (5 + k))), (2, .int (i3 (x2))), (3, .int (i3 (x3))), (4, .int (i3 (x4)))] → W p l e ({ frames := 2, cells := 0, slots := 0, locals := 42 } : Room) s m args below meth c H locs 0 0 (MQ below (QcZ G M0 r) args s 0 0 (PA G)) (F0 m 44 ls []) := by
      intro x3 x4 hf hx3 hx4 H locs ls hW hS hl
      unfold fW_cracksUnder_j44 at hf
      refine lv_iload_n hx hb dX3_cracksUnder_44 rfl (lv_at hl 2 rfl) ?_
      refine lv_iload_n hx hb dX3_cracksUnder_45 rfl (lv_at hl 2 rfl) ?_
      refine k_cNi (As := [.int (i3 (x3))]) (rest := [.int (i3 (x3))]) ⟨hx, hb, hml, hown, hts⟩ (mG_sizeOf l G M0 x3 hx3 _ rfl) ⟨va_cnB 1 hts (gbC (inB_6 _ (List.mem_of_getElem? (i := 14) rfl))) rfl rfl rfl (hW.N _ (List.mem_of_getElem? (i := 3) rfl)) (hts _ (List.mem_cons_of_mem _ (inB_1 _ (List.mem_of_getElem? (i := 2) rfl)))) (by decide +kernel) ⟨Nat.le_of_ble_eq_true rfl, Nat.le_of_ble_eq_true rfl⟩, (hts _ (List.mem_cons_of_mem _ (inB_6 _ (List.mem_of_getElem? (i := 13) rfl)))), trivial⟩ hW hS rfl hl.1 rfl (lv_room (Nat.le_of_ble_eq_true rfl)) dX3_cracksUnder_46 ⟨Nat.zero_le _, Nat.zero_le _⟩ (fun hv7 H locs hW hS => ?_)
      refine k_add hx hb dX3_cracksUnder_49 ?_
      obtain ⟨hg8, hf⟩ := gd_el hf
      refine lv_istore_n (lv' := [(3, .int (i3 (x3 + ((fG_sizeOf x3))))), (0, .ref (gA G (5 + k))), (2, .int (i3 (x2))), (4, .int (i3 (x4)))]) hx hb dX3_cracksUnder_50 rfl hl (by decide) rfl (fun ls hl => ?_)
      obtain ⟨hg9, hf⟩ := gd_el hf
      refine k_iinc (lv' := [(4, .int (i3 (x4 + 1))), (3, .int (i3 (x3 + ((fG_sizeOf x3))))), (0, .ref (gA G (5 + k))), (2, .int (i3 (x2)))]) hx hb dX3_cracksUnder_51 hl (k := 3) rfl (by decide) rfl (fun ls hl => ?_)
      refine lv_goto (tgt := 7) hx hb dX3_cracksUnder_54 (by decide) ?_
      obtain rfl := some_el hf
      exact hK hg8 hg9 _ _ _ hW hS (lv_sub hl [2, 3, 1, 0] rfl)
    unfold fW_cracksUnder_l7 at hf
    refine lv_iload hx hb dX3_cracksUnder_7 (lv_at hl 3 rfl) ?_
    refine k_bipush hx hb dX3_cracksUnder_9 (by decide +kernel) ?_
    refine k_icmp_ge (tgt := 57) hx hb hz4 (show inR (32) by decide) dX3_cracksUnder_11 (by decide) (fun hc2 => ?_) (fun hc2 => ?_)
    · rw [if_neg hc2] at hf
      refine k_const hx hb dX3_cracksUnder_57 ?_
      obtain rfl := some_el hf
      obtain rfl : 0 = r := hK
      exact k_retz hx hb hr hlocks hW hS rfl (show (0 : Int) = 0 ∨ (0 : Int) = 1 by decide) dX3_cracksUnder_58
    · rw [if_pos hc2] at hf
      refine lv_iload_n hx hb dX3_cracksUnder_14 rfl (lv_at hl 2 rfl) ?_
      refine k_bipush hx hb dX3_cracksUnder_15 (by decide +kernel) ?_
      refine k_icmp_gt (tgt := 57) hx hb hz3 (show inR (32) by decide) dX3_cracksUnder_17 (by decide) (fun hc3 => ?_) (fun hc3 => ?_)
      · rw [if_pos hc3] at hf
        refine k_const hx hb dX3_cracksUnder_57 ?_
        obtain rfl := some_el hf
        obtain rfl : 0 = r := hK
        exact k_retz hx hb hr hlocks hW hS rfl (show (0 : Int) = 0 ∨ (0 : Int) = 1 by decide) dX3_cracksUnder_58
      · rw [if_neg hc3] at hf
        refine lv_aload_n hx hb dX3_cracksUnder_20 rfl (lv_at hl 0 rfl) ?_
        refine lv_iload_n hx hb dX3_cracksUnder_21 rfl (lv_at hl 2 rfl) ?_
        refine k_cVz (As := [.int (i3 (z.1))]) (rest := []) ⟨hx, hb, hml, hown, hts⟩ (mW_isCracked l G M0 (k) hk z.1 hz3 _ rfl) (cwV 1 hts (gbV (inB_6 _ (List.mem_of_getElem? (i := 19) rfl)) (inB_6 _ (List.mem_of_getElem? (i := 20) rfl)) (inB_6 _ (List.mem_of_getElem? (i := 21) rfl)) (inB_1 _ (List.mem_of_getElem? (i := 12) rfl)) (inB_6 _ (List.mem_of_getElem? (i := 22) rfl))) rfl rfl rfl (by decide +kernel) ⟨Nat.le_of_ble_eq_true rfl, Nat.le_of_ble_eq_true rfl⟩) (rv_wall hk hW) hW hS rfl hl.1 rfl (lv_room (Nat.le_of_ble_eq_true rfl)) dX3_cracksUnder_22 ⟨Nat.zero_le _, Nat.zero_le _⟩ (fun hv4 H locs hW hS => ?_)
        refine k_if_ne (tgt := 44) hx hb (inR_z hv4) dX3_cracksUnder_25 (by decide) (fun hc5 => ?_) (fun hc5 => ?_)
        · rw [if_neg hc5] at hf
          exact J6 (z.1) (z.2) hf hz3 hz4 _ _ _ hW hS (lv_sub hl [0, 1, 2, 3] rfl)
        · rw [if_pos hc5] at hf
          refine lv_aload_n hx hb dX3_cracksUnder_28 rfl (lv_at hl 0 rfl) ?_
          refine lv_iload_n hx hb dX3_cracksUnder_29 rfl (lv_at hl 2 rfl) ?_
          refine k_cVi (As := [.int (i3 (z.1))]) (rest := []) ⟨hx, hb, hml, hown, hts⟩ (mW_sumOf l G M0 (k) hk z.1 hz3 _ rfl) (cwV 1 hts (gbV (inB_6 _ (List.mem_of_getElem? (i := 23) rfl)) (inB_7 _ (List.mem_of_getElem? (i := 0) rfl)) (inB_7 _ (List.mem_of_getElem? (i := 1) rfl)) (inB_1 _ (List.mem_of_getElem? (i := 12) rfl)) (inB_7 _ (List.mem_of_getElem? (i := 2) rfl))) rfl rfl rfl (by decide +kernel) ⟨Nat.le_of_ble_eq_true rfl, Nat.le_of_ble_eq_true rfl⟩) (rv_wall hk hW) hW hS rfl hl.1 rfl (lv_room (Nat.le_of_ble_eq_true rfl)) dX3_cracksUnder_30 ⟨Nat.zero_le _, Nat.zero_le _⟩ (fun hv10 H locs hW hS => ?_)
          refine lv_iload_n hx hb dX3_cracksUnder_33 rfl (lv_at hl 1 rfl) ?_
          refine k_add hx hb dX3_cracksUnder_34 ?_
          refine lv_iload_n hx hb dX3_cracksUnder_35 rfl (lv_at hl 2 rfl) ?_
          obtain ⟨q11, hq11, hf⟩ := bind_el hf
          refine k_cNi (As := [.int (i3 (z.1))]) (rest := [.int (i3 (((fW_sumOf M0 (k) z.1)) + x2))]) ⟨hx, hb, hml, hown, hts⟩ (mG_loadOf l G M0 z.1 hz3 q11 hq11) ⟨va_cnB 1 hts (gbC (inB_7 _ (List.mem_of_getElem? (i := 4) rfl))) rfl rfl rfl (hW.N _ (List.mem_of_getElem? (i := 4) rfl)) (hts _ (List.mem_cons_of_mem _ (inB_1 _ (List.mem_of_getElem? (i := 2) rfl)))) (by decide +kernel) ⟨Nat.le_of_ble_eq_true rfl, Nat.le_of_ble_eq_true rfl⟩, (hts _ (List.mem_cons_of_mem _ (inB_7 _ (List.mem_of_getElem? (i := 3) rfl)))), trivial⟩ hW hS rfl hl.1 rfl (lv_room (Nat.le_of_ble_eq_true rfl)) dX3_cracksUnder_36 ⟨Nat.zero_le _, Nat.zero_le _⟩ (fun hv12 H locs hW hS => ?_)
          obtain ⟨hg13, hf⟩ := gd_el hf
          refine k_icmp_le (tgt := 44) hx hb hg13 hv12 dX3_cracksUnder_39 (by decide) (fun hc14 => ?_) (fun hc14 => ?_)
          · rw [if_neg hc14] at hf
            exact J6 (z.1) (z.2) hf hz3 hz4 _ _ _ hW hS (lv_sub hl [0, 1, 2, 3] rfl)
          · rw [if_pos hc14] at hf
            refine k_const hx hb dX3_cracksUnder_42 ?_
            obtain rfl := some_el hf
            obtain rfl : 1 = r := hK
            exact k_retz hx hb hr hlocks hW hS rfl (show (1 : Int) = 0 ∨ (1 : Int) = 1 by decide) dX3_cracksUnder_43
  refine lv_iload_n hx hb dX3_cracksUnder_0 rfl (lv_at hl 1 rfl) ?_
  refine k_const hx hb dX3_cracksUnder_1 ?_
  refine k_add hx hb dX3_cracksUnder_2 ?_
  obtain ⟨hg1, hf⟩ := gd_el hf
  refine lv_istore_n (lv' := [(3, .int (i3 (x1 + 1))), (0, .ref (gA G (5 + k))), (1, .int (i3 (x1))), (2, .int (i3 (x2)))]) hx hb dX3_cracksUnder_3 rfl hl (by decide) rfl (fun ls hl => ?_)
  refine k_const hx hb dX3_cracksUnder_4 ?_
  refine lv_istore (lv' := [(4, .int (i3 (0))), (3, .int (i3 (x1 + 1))), (0, .ref (gA G (5 + k))), (1, .int (i3 (x1))), (2, .int (i3 (x2)))]) hx hb dX3_cracksUnder_5 hl (by decide) rfl (fun ls hl => ?_)
  exact L15 (x2) hx2 (x1 + 1, 0) r hf rfl hg1 (show inR (0) by decide) _ _ _ hW hS (lv_sub hl [2, 4, 1, 0] rfl)
