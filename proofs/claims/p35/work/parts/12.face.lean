set_option maxHeartbeats 4000000 in
set_option maxRecDepth 100000 in
theorem mG_append (l : Launch) (G : gG) (M0 : MemG) (x1 : Int) (hx1 : inR x1) (r : MemG × Int) (hf : fG_append M0 x1 = some r) : Met l yX4_append (wb yX4_append cX4_append 2 (some .int)) ({ frames := 2, cells := 0, slots := 0, locals := 43 } : Room) (PcG G M0 [.ref (gA G (0)), .int (i3 (x1))]) (QcI G r.1 r.2) 0 0 (PA G) := by
  refine Met.ofW (cc := cX4_append) (maxL := 2) (ret := (some .int)) (by decide) rfl ?_
  intro p e s m args below meth c s₁ B hml hv0
  obtain ⟨hav, hW⟩ := hv0
  have hx := B.exec
  have hb := B.bytes
  have hr := B.returns
  have hts := atoms_spec (ws := (wb yX4_append cX4_append 2 (some .int))) B.pre
  have hown : s.vm.findClass RX4 = some m.cls := findClass_of_methodNamed B.named
  have hlocks := B.notSynchronized
  have hinX4 : ∀ w ∈ u_ws RX4 TX4 10, w ∈ (wb yX4_append cX4_append 2 (some .int)) := fun _ h => List.mem_cons_of_mem _ (inlX4 _ h)
  have hW : Wd G M0 s s.heap := hW
  have hS : va_S (PA G) s.heap s.heap [] := va_S.rf
  have hl := lv_entry [.ref (gA G (0)), .int (i3 (x1))] (n := 2) (Nat.le_of_ble_eq_true rfl)
  have hent := lg_entry_eq m [.ref (gA G (0)), .int (i3 (x1))] 2
  rw [← hav] at hent
  rw [hent]
  clear hent
  generalize (lg_sl [.ref (gA G (0)), .int (i3 (x1))] ++ List.replicate (2 - (lg_sl [.ref (gA G (0)), .int (i3 (x1))]).length) Slot.unset).toArray = ls at hl ⊢
  have hl : lv_has ls 2 [(0, .ref (gA G (0))), (1, .int (i3 (x1)))] := hl
  unfold fG_append at hf
  show W p l e ({ frames := 2, cells := 0, slots := 0, locals := 43 } : Room) s m args below meth c s.heap [] 0 0 (MQ below (QcI G r.1 r.2) args s 0 0 (PA G)) (F0 m 0 ls [])
  refine lv_iload_n hx hb dX4_append_0 rfl (lv_at hl 1 rfl) ?_
  refine k_bipush hx hb dX4_append_1 (by decide +kernel) ?_
  refine k_bipush hx hb dX4_append_3 (by decide +kernel) ?_
  refine k_cSz (As := [.int (i3 (x1)), .int (i3 (32)), .int (i3 (126))]) (rest := []) ⟨hx, hb, hml, hown, hts⟩ (mG_isWithin l G M0 x1 hx1 32 (show inR (32) by decide) 126 (show inR (126) by decide) _ rfl) (va_cwS 3 hts (gbS (inB_4 _ (List.mem_of_getElem? (i := 11) rfl)) (inB_4 _ (List.mem_of_getElem? (i := 12) rfl)) (inB_1 _ (List.mem_of_getElem? (i := 2) rfl)) (inB_4 _ (List.mem_of_getElem? (i := 13) rfl))) rfl rfl rfl (by decide +kernel) ⟨Nat.le_of_ble_eq_true rfl, Nat.le_of_ble_eq_true rfl⟩) hW hS rfl hl.1 rfl (lv_room (Nat.le_of_ble_eq_true rfl)) dX4_append_5 ⟨Nat.zero_le _, Nat.zero_le _⟩ (fun hv1 H locs hW hS => ?_)
  refine k_if_ne (tgt := 14) hx hb (inR_z hv1) dX4_append_8 (by decide) (fun hc2 => ?_) (fun hc2 => ?_)
  · rw [if_neg hc2] at hf
    refine lv_aload_n hx hb dX4_append_14 rfl (lv_at hl 0 rfl) ?_
    refine va_get (D := G.1) (ci := 4) (v := .ref (gA G (2))) (C := RX4) (T := TX4) (N := 10) hx hb hts hinX4 hown hW.K hW.P 0 (he_G G M0) rfl 5 (by decide) (hts _ (List.mem_cons_of_mem _ (inB_2 _ (List.mem_of_getElem? (i := 0) rfl)))) (fun _ h9 => h9) rfl dX4_append_15 ?_
    refine lv_iload_n hx hb dX4_append_18 rfl (lv_at hl 1 rfl) ?_
    obtain ⟨q3, hq3, hf⟩ := bind_el hf
    refine k_cVi (As := [.int (i3 (x1))]) (rest := []) ⟨hx, hb, hml, hown, hts⟩ (mT_addCode l G M0 x1 hx1 q3 hq3) (cwV 1 hts (gbV (inB_16 _ (List.mem_of_getElem? (i := 19) rfl)) (inB_16 _ (List.mem_of_getElem? (i := 20) rfl)) (inB_16 _ (List.mem_of_getElem? (i := 21) rfl)) (inB_1 _ (List.mem_of_getElem? (i := 23) rfl)) (inB_16 _ (List.mem_of_getElem? (i := 22) rfl))) rfl rfl rfl (by decide +kernel) ⟨Nat.le_of_ble_eq_true rfl, Nat.le_of_ble_eq_true rfl⟩) (rv_T hW) hW hS rfl hl.1 rfl (lv_room (Nat.le_of_ble_eq_true rfl)) dX4_append_19 ⟨Nat.zero_le _, Nat.zero_le _⟩ (fun hv4 H locs hW hS => ?_)
    obtain rfl := some_el hf
    exact k_ret hx hb hr hlocks hW hS rfl hv4 dX4_append_22
  · rw [if_pos hc2] at hf
    refine k_bipush hx hb dX4_append_11 (by decide +kernel) ?_
    obtain rfl := some_el hf
    exact k_ret hx hb hr hlocks hW hS rfl (show inR (-12) by decide) dX4_append_13
set_option maxHeartbeats 4000000 in
set_option maxRecDepth 100000 in
theorem mG_refuse (l : Launch) (G : gG) (M0 : MemG) (x1 : Int) (hx1 : inR x1) (x2 : Int) (hx2 : inR x2) (r : MemG × Int) (hf : fG_refuse M0 x1 x2 = some r) : Met l yX4_refuse (wb yX4_refuse cX4_refuse 3 (some .int)) ({ frames := 0, cells := 0, slots := 0, locals := 0 } : Room) (PcG G M0 [.ref (gA G (0)), .int (i3 (x1)), .int (i3 (x2))]) (QcI G r.1 r.2) 0 0 (PA G) := by
  refine Met.ofW (cc := cX4_refuse) (maxL := 3) (ret := (some .int)) (by decide) rfl ?_
  intro p e s m args below meth c s₁ B hml hv0
  obtain ⟨hav, hW⟩ := hv0
  have hx := B.exec
  have hb := B.bytes
  have hr := B.returns
  have hts := atoms_spec (ws := (wb yX4_refuse cX4_refuse 3 (some .int))) B.pre
  have hown : s.vm.findClass RX4 = some m.cls := findClass_of_methodNamed B.named
  have hlocks := B.notSynchronized
  have hinX4 : ∀ w ∈ u_ws RX4 TX4 10, w ∈ (wb yX4_refuse cX4_refuse 3 (some .int)) := fun _ h => List.mem_cons_of_mem _ (inlX4 _ h)
  have hW : Wd G M0 s s.heap := hW
  have hS : va_S (PA G) s.heap s.heap [] := va_S.rf
  have hl := lv_entry [.ref (gA G (0)), .int (i3 (x1)), .int (i3 (x2))] (n := 3) (Nat.le_of_ble_eq_true rfl)
  have hent := lg_entry_eq m [.ref (gA G (0)), .int (i3 (x1)), .int (i3 (x2))] 3
  rw [← hav] at hent
  rw [hent]
  clear hent
  generalize (lg_sl [.ref (gA G (0)), .int (i3 (x1)), .int (i3 (x2))] ++ List.replicate (3 - (lg_sl [.ref (gA G (0)), .int (i3 (x1)), .int (i3 (x2))]).length) Slot.unset).toArray = ls at hl ⊢
  have hl : lv_has ls 3 [(0, .ref (gA G (0))), (1, .int (i3 (x1))), (2, .int (i3 (x2)))] := hl
  unfold fG_refuse at hf
  show W p l e ({ frames := 0, cells := 0, slots := 0, locals := 0 } : Room) s m args below meth c s.heap [] 0 0 (MQ below (QcI G r.1 r.2) args s 0 0 (PA G)) (F0 m 0 ls [])
  refine lv_aload_n hx hb dX4_refuse_0 rfl (lv_at hl 0 rfl) ?_
  refine lv_iload_n hx hb dX4_refuse_1 rfl (lv_at hl 1 rfl) ?_
  obtain ⟨m1, hm1, hf⟩ := bind_el hf
  replace hm1 := some_el hm1
  refine k_put (C := RX4) (T := TX4) (N := 10) (ty := .int) (o := 0) hx hb hW hS hts hinX4 tyX4 tyX4_ok nmX4 hown (by decide) (pe_0 G _) rfl 7 (by decide) (pu_0_7 G _ _) (hts _ (List.mem_cons_of_mem _ (inB_2 _ (List.mem_of_getElem? (i := 5) rfl)))) rfl rfl (by decide +kernel) rfl rfl (Nat.le_of_ble_eq_true rfl) hx1 dX4_refuse_2 (fun H locs hW hS => ?_)
  rw [hm1] at hW
  refine lv_aload_n hx hb dX4_refuse_5 rfl (lv_at hl 0 rfl) ?_
  refine lv_iload_n hx hb dX4_refuse_6 rfl (lv_at hl 2 rfl) ?_
  obtain ⟨m2, hm2, hf⟩ := bind_el hf
  replace hm2 := some_el hm2
  refine k_put (C := RX4) (T := TX4) (N := 10) (ty := .int) (o := 0) hx hb hW hS hts hinX4 tyX4 tyX4_ok nmX4 hown (by decide) (pe_0 G _) rfl 8 (by decide) (pu_0_8 G _ _) (hts _ (List.mem_cons_of_mem _ (inB_2 _ (List.mem_of_getElem? (i := 6) rfl)))) rfl rfl (by decide +kernel) rfl rfl (Nat.le_of_ble_eq_true rfl) hx2 dX4_refuse_7 (fun H locs hW hS => ?_)
  rw [hm2] at hW
  refine k_bipush hx hb dX4_refuse_10 (by decide +kernel) ?_
  obtain rfl := some_el hf
  exact k_ret hx hb hr hlocks hW hS rfl (show inR (-14) by decide) dX4_refuse_12
set_option maxHeartbeats 4000000 in
set_option maxRecDepth 100000 in
theorem mG_mend (l : Launch) (G : gG) (M0 : MemG) (x1 : Int) (hx1 : inR x1) (r : MemG × Int) (hf : fG_mend M0 x1 = some r) : Met l yX4_mend (wb yX4_mend cX4_mend 3 (some .int)) ({ frames := 2, cells := 0, slots := 0, locals := 44 } : Room) (PcG G M0 [.ref (gA G (0)), .int (i3 (x1))]) (QcI G r.1 r.2) 0 0 (PA G) := by
  refine Met.ofW (cc := cX4_mend) (maxL := 3) (ret := (some .int)) (by decide) rfl ?_
  intro p e s m args below meth c s₁ B hml hv0
  obtain ⟨hav, hW⟩ := hv0
  have hx := B.exec
  have hb := B.bytes
  have hr := B.returns
  have hts := atoms_spec (ws := (wb yX4_mend cX4_mend 3 (some .int))) B.pre
  have hown : s.vm.findClass RX4 = some m.cls := findClass_of_methodNamed B.named
  have hlocks := B.notSynchronized
  have hinX4 : ∀ w ∈ u_ws RX4 TX4 10, w ∈ (wb yX4_mend cX4_mend 3 (some .int)) := fun _ h => List.mem_cons_of_mem _ (inlX4 _ h)
  have hW : Wd G M0 s s.heap := hW
  have hS : va_S (PA G) s.heap s.heap [] := va_S.rf
  have hl := lv_entry [.ref (gA G (0)), .int (i3 (x1))] (n := 3) (Nat.le_of_ble_eq_true rfl)
  have hent := lg_entry_eq m [.ref (gA G (0)), .int (i3 (x1))] 3
  rw [← hav] at hent
  rw [hent]
  clear hent
  generalize (lg_sl [.ref (gA G (0)), .int (i3 (x1))] ++ List.replicate (3 - (lg_sl [.ref (gA G (0)), .int (i3 (x1))]).length) Slot.unset).toArray = ls at hl ⊢
  have hl : lv_has ls 3 [(0, .ref (gA G (0))), (1, .int (i3 (x1)))] := hl
  unfold fG_mend at hf
  show W p l e ({ frames := 2, cells := 0, slots := 0, locals := 44 } : Room) s m args below meth c s.heap [] 0 0 (MQ below (QcI G r.1 r.2) args s 0 0 (PA G)) (F0 m 0 ls [])
  refine lv_iload_n hx hb dX4_mend_0 rfl (lv_at hl 1 rfl) ?_
  refine k_cSz (As := [.int (i3 (x1))]) (rest := []) ⟨hx, hb, hml, hown, hts⟩ (mG_isRung l G M0 x1 hx1 _ rfl) (va_cwS 1 hts (gbS (inB_10 _ (List.mem_of_getElem? (i := 13) rfl)) (inB_10 _ (List.mem_of_getElem? (i := 14) rfl)) (inB_1 _ (List.mem_of_getElem? (i := 2) rfl)) (inB_10 _ (List.mem_of_getElem? (i := 15) rfl))) rfl rfl rfl (by decide +kernel) ⟨Nat.le_of_ble_eq_true rfl, Nat.le_of_ble_eq_true rfl⟩) hW hS rfl hl.1 rfl (lv_room (Nat.le_of_ble_eq_true rfl)) dX4_mend_1 ⟨Nat.zero_le _, Nat.zero_le _⟩ (fun hv1 H locs hW hS => ?_)
  refine k_if_ne (tgt := 10) hx hb (inR_z hv1) dX4_mend_4 (by decide) (fun hc2 => ?_) (fun hc2 => ?_)
  · rw [if_neg hc2] at hf
    refine lv_aload_n hx hb dX4_mend_10 rfl (lv_at hl 0 rfl) ?_
    refine va_get (D := G.1) (ci := 4) (v := .ref (gA G (5 + 0))) (C := RX4) (T := TX4) (N := 10) hx hb hts hinX4 hown hW.K hW.P 0 (he_G G M0) rfl 0 (by decide) (hts _ (List.mem_cons_of_mem _ (inB_1 _ (List.mem_of_getElem? (i := 13) rfl)))) (fun _ h9 => h9) rfl dX4_mend_11 ?_
    refine lv_iload_n hx hb dX4_mend_14 rfl (lv_at hl 1 rfl) ?_
    refine k_cVz (As := [.int (i3 (x1))]) (rest := []) ⟨hx, hb, hml, hown, hts⟩ (mW_isCracked l G M0 (0) (by decide) x1 hx1 _ rfl) (cwV 1 hts (gbV (inB_10 _ (List.mem_of_getElem? (i := 18) rfl)) (inB_6 _ (List.mem_of_getElem? (i := 20) rfl)) (inB_6 _ (List.mem_of_getElem? (i := 21) rfl)) (inB_1 _ (List.mem_of_getElem? (i := 12) rfl)) (inB_6 _ (List.mem_of_getElem? (i := 22) rfl))) rfl rfl rfl (by decide +kernel) ⟨Nat.le_of_ble_eq_true rfl, Nat.le_of_ble_eq_true rfl⟩) (rv_wall (by decide) hW) hW hS rfl hl.1 rfl (lv_room (Nat.le_of_ble_eq_true rfl)) dX4_mend_15 ⟨Nat.zero_le _, Nat.zero_le _⟩ (fun hv3 H locs hW hS => ?_)
    refine k_if_ne (tgt := 29) hx hb (inR_z hv3) dX4_mend_18 (by decide) (fun hc4 => ?_) (fun hc4 => ?_)
    · rw [if_neg hc4] at hf
      refine lv_aload_n hx hb dX4_mend_29 rfl (lv_at hl 0 rfl) ?_
      refine va_get (D := G.1) (ci := 4) (v := .ref (gA G (5 + 0))) (C := RX4) (T := TX4) (N := 10) hx hb hts hinX4 hown hW.K hW.P 0 (he_G G M0) rfl 0 (by decide) (hts _ (List.mem_cons_of_mem _ (inB_1 _ (List.mem_of_getElem? (i := 13) rfl)))) (fun _ h9 => h9) rfl dX4_mend_30 ?_
      refine lv_iload_n hx hb dX4_mend_33 rfl (lv_at hl 1 rfl) ?_
      refine k_cVi (As := [.int (i3 (x1))]) (rest := []) ⟨hx, hb, hml, hown, hts⟩ (mW_sumOf l G M0 (0) (by decide) x1 hx1 _ rfl) (cwV 1 hts (gbV (inB_10 _ (List.mem_of_getElem? (i := 16) rfl)) (inB_7 _ (List.mem_of_getElem? (i := 0) rfl)) (inB_7 _ (List.mem_of_getElem? (i := 1) rfl)) (inB_1 _ (List.mem_of_getElem? (i := 12) rfl)) (inB_7 _ (List.mem_of_getElem? (i := 2) rfl))) rfl rfl rfl (by decide +kernel) ⟨Nat.le_of_ble_eq_true rfl, Nat.le_of_ble_eq_true rfl⟩) (rv_wall (by decide) hW) hW hS rfl hl.1 rfl (lv_room (Nat.le_of_ble_eq_true rfl)) dX4_mend_34 ⟨Nat.zero_le _, Nat.zero_le _⟩ (fun hv5 H locs hW hS => ?_)
      refine lv_iload_n hx hb dX4_mend_37 rfl (lv_at hl 1 rfl) ?_
      obtain ⟨q6, hq6, hf⟩ := bind_el hf
      refine k_cSi (As := [.int (i3 (x1))]) (rest := [.int (i3 ((fW_sumOf M0 0 x1)))]) ⟨hx, hb, hml, hown, hts⟩ (mG_loadOf l G M0 x1 hx1 q6 hq6) (va_cwS 1 hts (gbS (inB_10 _ (List.mem_of_getElem? (i := 17) rfl)) (inB_7 _ (List.mem_of_getElem? (i := 3) rfl)) (inB_1 _ (List.mem_of_getElem? (i := 2) rfl)) (inB_7 _ (List.mem_of_getElem? (i := 4) rfl))) rfl rfl rfl (by decide +kernel) ⟨Nat.le_of_ble_eq_true rfl, Nat.le_of_ble_eq_true rfl⟩) hW hS rfl hl.1 rfl (lv_room (Nat.le_of_ble_eq_true rfl)) dX4_mend_38 ⟨Nat.zero_le _, Nat.zero_le _⟩ (fun hv7 H locs hW hS => ?_)
      refine k_icmp_le (tgt := 64) hx hb hv5 hv7 dX4_mend_41 (by decide) (fun hc8 => ?_) (fun hc8 => ?_)
      · rw [if_neg hc8] at hf
        refine lv_iload_n hx hb dX4_mend_64 rfl (lv_at hl 1 rfl) ?_
        refine k_cSi (As := [.int (i3 (x1))]) (rest := []) ⟨hx, hb, hml, hown, hts⟩ (mG_sizeOf l G M0 x1 hx1 _ rfl) (va_cwS 1 hts (gbS (inB_7 _ (List.mem_of_getElem? (i := 5) rfl)) (inB_6 _ (List.mem_of_getElem? (i := 13) rfl)) (inB_1 _ (List.mem_of_getElem? (i := 2) rfl)) (inB_6 _ (List.mem_of_getElem? (i := 14) rfl))) rfl rfl rfl (by decide +kernel) ⟨Nat.le_of_ble_eq_true rfl, Nat.le_of_ble_eq_true rfl⟩) hW hS rfl hl.1 rfl (lv_room (Nat.le_of_ble_eq_true rfl)) dX4_mend_65 ⟨Nat.zero_le _, Nat.zero_le _⟩ (fun hv9 H locs hW hS => ?_)
        refine k_const hx hb dX4_mend_68 ?_
        refine k_add hx hb dX4_mend_69 ?_
        obtain ⟨hg10, hf⟩ := gd_el hf
        refine lv_istore_n (lv' := [(2, .int (i3 (((fG_sizeOf x1)) + 1))), (0, .ref (gA G (0))), (1, .int (i3 (x1)))]) hx hb dX4_mend_70 rfl hl (by decide) rfl (fun ls hl => ?_)
        refine lv_aload_n hx hb dX4_mend_71 rfl (lv_at hl 1 rfl) ?_
        refine va_get (D := G.1) (ci := 4) (v := .ref (gA G (5 + 0))) (C := RX4) (T := TX4) (N := 10) hx hb hts hinX4 hown hW.K hW.P 0 (he_G G M0) rfl 0 (by decide) (hts _ (List.mem_cons_of_mem _ (inB_1 _ (List.mem_of_getElem? (i := 13) rfl)))) (fun _ h9 => h9) rfl dX4_mend_72 ?_
        refine k_const hx hb dX4_mend_75 ?_
        refine k_cVi (As := [.int (i3 (1))]) (rest := []) ⟨hx, hb, hml, hown, hts⟩ (mW_counted l G M0 (0) (by decide) 1 (show inR (1) by decide) _ rfl) (cwV 1 hts (gbV (inB_9 _ (List.mem_of_getElem? (i := 13) rfl)) (inB_9 _ (List.mem_of_getElem? (i := 14) rfl)) (inB_9 _ (List.mem_of_getElem? (i := 15) rfl)) (inB_1 _ (List.mem_of_getElem? (i := 12) rfl)) (inB_9 _ (List.mem_of_getElem? (i := 16) rfl))) rfl rfl rfl (by decide +kernel) ⟨Nat.le_of_ble_eq_true rfl, Nat.le_of_ble_eq_true rfl⟩) (rv_wall (by decide) hW) hW hS rfl hl.1 rfl (lv_room (Nat.le_of_ble_eq_true rfl)) dX4_mend_76 ⟨Nat.zero_le _, Nat.zero_le _⟩ (fun hv11 H locs hW hS => ?_)
        refine lv_iload_n hx hb dX4_mend_79 rfl (lv_at hl 0 rfl) ?_
        refine k_icmp_ge (tgt := 99) hx hb hv11 hg10 dX4_mend_80 (by decide) (fun hc12 => ?_) (fun hc12 => ?_)
        · rw [if_neg hc12] at hf
          refine lv_aload_n hx hb dX4_mend_99 rfl (lv_at hl 1 rfl) ?_
          refine va_get (D := G.1) (ci := 4) (v := .ref (gA G (5 + 0))) (C := RX4) (T := TX4) (N := 10) hx hb hts hinX4 hown hW.K hW.P 0 (he_G G M0) rfl 0 (by decide) (hts _ (List.mem_cons_of_mem _ (inB_1 _ (List.mem_of_getElem? (i := 13) rfl)))) (fun _ h9 => h9) rfl dX4_mend_100 ?_
          refine lv_iload_n hx hb dX4_mend_103 rfl (lv_at hl 2 rfl) ?_
          obtain ⟨m13, hm13, hf⟩ := bind_el hf
          refine k_cVv (As := [.int (i3 (x1))]) (rest := []) ⟨hx, hb, hml, hown, hts⟩ (mW_makeSound l G M0 (0) (by decide) x1 hx1 m13 hm13) (cwV 1 hts (gbV (inB_13 _ (List.mem_of_getElem? (i := 17) rfl)) (inB_13 _ (List.mem_of_getElem? (i := 18) rfl)) (inB_13 _ (List.mem_of_getElem? (i := 19) rfl)) (inB_1 _ (List.mem_of_getElem? (i := 12) rfl)) (inB_13 _ (List.mem_of_getElem? (i := 20) rfl))) rfl rfl rfl (by decide +kernel) ⟨Nat.le_of_ble_eq_true rfl, Nat.le_of_ble_eq_true rfl⟩) (rv_wall (by decide) hW) hW hS rfl hl.1 rfl (lv_room (Nat.le_of_ble_eq_true rfl)) dX4_mend_104 ⟨Nat.zero_le _, Nat.zero_le _⟩ (fun H locs hW hS => ?_)
          refine lv_aload_n hx hb dX4_mend_107 rfl (lv_at hl 1 rfl) ?_
          refine va_get (D := G.1) (ci := 4) (v := .ref (gA G (5 + 0))) (C := RX4) (T := TX4) (N := 10) hx hb hts hinX4 hown hW.K hW.P 0 (he_G G m13) rfl 0 (by decide) (hts _ (List.mem_cons_of_mem _ (inB_1 _ (List.mem_of_getElem? (i := 13) rfl)))) (fun _ h9 => h9) rfl dX4_mend_108 ?_
          refine k_const hx hb dX4_mend_111 ?_
          refine lv_iload_n hx hb dX4_mend_112 rfl (lv_at hl 0 rfl) ?_
          refine k_neg hx hb dX4_mend_113 ?_
          obtain ⟨hg15, hf⟩ := gd_el hf
          obtain ⟨m16, hm16, hf⟩ := bind_el hf
          refine k_cVv (As := [.int (i3 (1)), .int (i3 (-(((fG_sizeOf x1)) + 1)))]) (rest := []) ⟨hx, hb, hml, hown, hts⟩ (mW_count l G m13 (0) (by decide) 1 (show inR (1) by decide) (-(((fG_sizeOf x1)) + 1)) hg15 m16 hm16) (cwV 2 hts (gbV (inB_5 _ (List.mem_of_getElem? (i := 19) rfl)) (inB_5 _ (List.mem_of_getElem? (i := 20) rfl)) (inB_5 _ (List.mem_of_getElem? (i := 21) rfl)) (inB_1 _ (List.mem_of_getElem? (i := 12) rfl)) (inB_5 _ (List.mem_of_getElem? (i := 22) rfl))) rfl rfl rfl (by decide +kernel) ⟨Nat.le_of_ble_eq_true rfl, Nat.le_of_ble_eq_true rfl⟩) (rv_wall (by decide) hW) hW hS rfl hl.1 rfl (lv_room (Nat.le_of_ble_eq_true rfl)) dX4_mend_114 ⟨Nat.zero_le _, Nat.zero_le _⟩ (fun H locs hW hS => ?_)
          refine lv_aload_n hx hb dX4_mend_117 rfl (lv_at hl 1 rfl) ?_
          refine va_get (D := G.1) (ci := 4) (v := .ref (gA G (5 + 0))) (C := RX4) (T := TX4) (N := 10) hx hb hts hinX4 hown hW.K hW.P 0 (he_G G m16) rfl 0 (by decide) (hts _ (List.mem_cons_of_mem _ (inB_1 _ (List.mem_of_getElem? (i := 13) rfl)))) (fun _ h9 => h9) rfl dX4_mend_118 ?_
          refine k_bipush hx hb dX4_mend_121 (by decide +kernel) ?_
          refine lv_iload_n hx hb dX4_mend_123 rfl (lv_at hl 0 rfl) ?_
          obtain ⟨m18, hm18, hf⟩ := bind_el hf
          refine k_cVv (As := [.int (i3 (15)), .int (i3 (((fG_sizeOf x1)) + 1))]) (rest := []) ⟨hx, hb, hml, hown, hts⟩ (mW_count l G m16 (0) (by decide) 15 (show inR (15) by decide) (((fG_sizeOf x1)) + 1) hg10 m18 hm18) (cwV 2 hts (gbV (inB_5 _ (List.mem_of_getElem? (i := 19) rfl)) (inB_5 _ (List.mem_of_getElem? (i := 20) rfl)) (inB_5 _ (List.mem_of_getElem? (i := 21) rfl)) (inB_1 _ (List.mem_of_getElem? (i := 12) rfl)) (inB_5 _ (List.mem_of_getElem? (i := 22) rfl))) rfl rfl rfl (by decide +kernel) ⟨Nat.le_of_ble_eq_true rfl, Nat.le_of_ble_eq_true rfl⟩) (rv_wall (by decide) hW) hW hS rfl hl.1 rfl (lv_room (Nat.le_of_ble_eq_true rfl)) dX4_mend_124 ⟨Nat.zero_le _, Nat.zero_le _⟩ (fun H locs hW hS => ?_)
          refine lv_aload_n hx hb dX4_mend_127 rfl (lv_at hl 1 rfl) ?_
          refine va_get (D := G.1) (ci := 4) (v := .ref (gA G (5 + 0))) (C := RX4) (T := TX4) (N := 10) hx hb hts hinX4 hown hW.K hW.P 0 (he_G G m18) rfl 0 (by decide) (hts _ (List.mem_cons_of_mem _ (inB_1 _ (List.mem_of_getElem? (i := 13) rfl)))) (fun _ h9 => h9) rfl dX4_mend_128 ?_
          refine k_const hx hb dX4_mend_131 ?_
          refine k_cVi (As := [.int (i3 (1))]) (rest := []) ⟨hx, hb, hml, hown, hts⟩ (mW_counted l G m18 (0) (by decide) 1 (show inR (1) by decide) _ rfl) (cwV 1 hts (gbV (inB_9 _ (List.mem_of_getElem? (i := 13) rfl)) (inB_9 _ (List.mem_of_getElem? (i := 14) rfl)) (inB_9 _ (List.mem_of_getElem? (i := 15) rfl)) (inB_1 _ (List.mem_of_getElem? (i := 12) rfl)) (inB_9 _ (List.mem_of_getElem? (i := 16) rfl))) rfl rfl rfl (by decide +kernel) ⟨Nat.le_of_ble_eq_true rfl, Nat.le_of_ble_eq_true rfl⟩) (rv_wall (by decide) hW) hW hS rfl hl.1 rfl (lv_room (Nat.le_of_ble_eq_true rfl)) dX4_mend_132 ⟨Nat.zero_le _, Nat.zero_le _⟩ (fun hv20 H locs hW hS => ?_)
          obtain rfl := some_el hf
          exact k_ret hx hb hr hlocks hW hS rfl hv20 dX4_mend_135
        · rw [if_pos hc12] at hf
          refine lv_aload_n hx hb dX4_mend_83 rfl (lv_at hl 1 rfl) ?_
          refine k_const hx hb dX4_mend_84 ?_
          refine lv_iload_n hx hb dX4_mend_85 rfl (lv_at hl 0 rfl) ?_
          refine lv_aload_n hx hb dX4_mend_86 rfl (lv_at hl 1 rfl) ?_
          refine va_get (D := G.1) (ci := 4) (v := .ref (gA G (5 + 0))) (C := RX4) (T := TX4) (N := 10) hx hb hts hinX4 hown hW.K hW.P 0 (he_G G M0) rfl 0 (by decide) (hts _ (List.mem_cons_of_mem _ (inB_1 _ (List.mem_of_getElem? (i := 13) rfl)))) (fun _ h9 => h9) rfl dX4_mend_87 ?_
          refine k_const hx hb dX4_mend_90 ?_
          refine k_cVi (As := [.int (i3 (1))]) (rest := [.int (i3 (((fG_sizeOf x1)) + 1)), .int (i3 (5)), .ref (gA G (0))]) ⟨hx, hb, hml, hown, hts⟩ (mW_counted l G M0 (0) (by decide) 1 (show inR (1) by decide) _ rfl) (cwV 1 hts (gbV (inB_9 _ (List.mem_of_getElem? (i := 13) rfl)) (inB_9 _ (List.mem_of_getElem? (i := 14) rfl)) (inB_9 _ (List.mem_of_getElem? (i := 15) rfl)) (inB_1 _ (List.mem_of_getElem? (i := 12) rfl)) (inB_9 _ (List.mem_of_getElem? (i := 16) rfl))) rfl rfl rfl (by decide +kernel) ⟨Nat.le_of_ble_eq_true rfl, Nat.le_of_ble_eq_true rfl⟩) (rv_wall (by decide) hW) hW hS rfl hl.1 rfl (lv_room (Nat.le_of_ble_eq_true rfl)) dX4_mend_91 ⟨Nat.zero_le _, Nat.zero_le _⟩ (fun hv21 H locs hW hS => ?_)
          refine k_sub hx hb dX4_mend_94 ?_
          obtain ⟨hg22, hf⟩ := gd_el hf
          obtain ⟨q23, hq23, hf⟩ := bind_el hf
          refine k_cVi (As := [.int (i3 (5)), .int (i3 ((((fG_sizeOf x1)) + 1) - ((fW_counted M0 0 1))))]) (rest := []) ⟨hx, hb, hml, hown, hts⟩ (mG_refuse l G M0 5 (show inR (5) by decide) ((((fG_sizeOf x1)) + 1) - ((fW_counted M0 0 1))) hg22 q23 hq23) (cwV 2 hts (gbV (inB_5 _ (List.mem_of_getElem? (i := 15) rfl)) (inB_5 _ (List.mem_of_getElem? (i := 16) rfl)) (inB_5 _ (List.mem_of_getElem? (i := 17) rfl)) (inB_1 _ (List.mem_of_getElem? (i := 2) rfl)) (inB_5 _ (List.mem_of_getElem? (i := 18) rfl))) rfl rfl rfl (by decide +kernel) ⟨Nat.le_of_ble_eq_true rfl, Nat.le_of_ble_eq_true rfl⟩) (rv_G hW) hW hS rfl hl.1 rfl (lv_room (Nat.le_of_ble_eq_true rfl)) dX4_mend_95 ⟨Nat.zero_le _, Nat.zero_le _⟩ (fun hv24 H locs hW hS => ?_)
          obtain rfl := some_el hf
          exact k_ret hx hb hr hlocks hW hS rfl hv24 dX4_mend_98
      · rw [if_pos hc8] at hf
        refine lv_aload_n hx hb dX4_mend_44 rfl (lv_at hl 0 rfl) ?_
        refine k_bipush hx hb dX4_mend_45 (by decide +kernel) ?_
        refine lv_aload_n hx hb dX4_mend_47 rfl (lv_at hl 0 rfl) ?_
        refine va_get (D := G.1) (ci := 4) (v := .ref (gA G (5 + 0))) (C := RX4) (T := TX4) (N := 10) hx hb hts hinX4 hown hW.K hW.P 0 (he_G G M0) rfl 0 (by decide) (hts _ (List.mem_cons_of_mem _ (inB_1 _ (List.mem_of_getElem? (i := 13) rfl)))) (fun _ h9 => h9) rfl dX4_mend_48 ?_
        refine lv_iload_n hx hb dX4_mend_51 rfl (lv_at hl 1 rfl) ?_
        refine k_cVi (As := [.int (i3 (x1))]) (rest := [.int (i3 (7)), .ref (gA G (0))]) ⟨hx, hb, hml, hown, hts⟩ (mW_sumOf l G M0 (0) (by decide) x1 hx1 _ rfl) (cwV 1 hts (gbV (inB_10 _ (List.mem_of_getElem? (i := 16) rfl)) (inB_7 _ (List.mem_of_getElem? (i := 0) rfl)) (inB_7 _ (List.mem_of_getElem? (i := 1) rfl)) (inB_1 _ (List.mem_of_getElem? (i := 12) rfl)) (inB_7 _ (List.mem_of_getElem? (i := 2) rfl))) rfl rfl rfl (by decide +kernel) ⟨Nat.le_of_ble_eq_true rfl, Nat.le_of_ble_eq_true rfl⟩) (rv_wall (by decide) hW) hW hS rfl hl.1 rfl (lv_room (Nat.le_of_ble_eq_true rfl)) dX4_mend_52 ⟨Nat.zero_le _, Nat.zero_le _⟩ (fun hv25 H locs hW hS => ?_)
        refine lv_iload_n hx hb dX4_mend_55 rfl (lv_at hl 1 rfl) ?_
        obtain ⟨q26, hq26, hf⟩ := bind_el hf
        refine k_cSi (As := [.int (i3 (x1))]) (rest := [.int (i3 ((fW_sumOf M0 0 x1))), .int (i3 (7)), .ref (gA G (0))]) ⟨hx, hb, hml, hown, hts⟩ (mG_loadOf l G M0 x1 hx1 q26 hq26) (va_cwS 1 hts (gbS (inB_10 _ (List.mem_of_getElem? (i := 17) rfl)) (inB_7 _ (List.mem_of_getElem? (i := 3) rfl)) (inB_1 _ (List.mem_of_getElem? (i := 2) rfl)) (inB_7 _ (List.mem_of_getElem? (i := 4) rfl))) rfl rfl rfl (by decide +kernel) ⟨Nat.le_of_ble_eq_true rfl, Nat.le_of_ble_eq_true rfl⟩) hW hS rfl hl.1 rfl (lv_room (Nat.le_of_ble_eq_true rfl)) dX4_mend_56 ⟨Nat.zero_le _, Nat.zero_le _⟩ (fun hv27 H locs hW hS => ?_)
        refine k_sub hx hb dX4_mend_59 ?_
        obtain ⟨hg28, hf⟩ := gd_el hf
        obtain ⟨q29, hq29, hf⟩ := bind_el hf
        refine k_cVi (As := [.int (i3 (7)), .int (i3 (((fW_sumOf M0 0 x1)) - q26))]) (rest := []) ⟨hx, hb, hml, hown, hts⟩ (mG_refuse l G M0 7 (show inR (7) by decide) (((fW_sumOf M0 0 x1)) - q26) hg28 q29 hq29) (cwV 2 hts (gbV (inB_5 _ (List.mem_of_getElem? (i := 15) rfl)) (inB_5 _ (List.mem_of_getElem? (i := 16) rfl)) (inB_5 _ (List.mem_of_getElem? (i := 17) rfl)) (inB_1 _ (List.mem_of_getElem? (i := 2) rfl)) (inB_5 _ (List.mem_of_getElem? (i := 18) rfl))) rfl rfl rfl (by decide +kernel) ⟨Nat.le_of_ble_eq_true rfl, Nat.le_of_ble_eq_true rfl⟩) (rv_G hW) hW hS rfl hl.1 rfl (lv_room (Nat.le_of_ble_eq_true rfl)) dX4_mend_60 ⟨Nat.zero_le _, Nat.zero_le _⟩ (fun hv30 H locs hW hS => ?_)
        obtain rfl := some_el hf
        exact k_ret hx hb hr hlocks hW hS rfl hv30 dX4_mend_63
    · rw [if_pos hc4] at hf
      refine lv_aload_n hx hb dX4_mend_21 rfl (lv_at hl 0 rfl) ?_
      refine k_bipush hx hb dX4_mend_22 (by decide +kernel) ?_
      refine lv_iload_n hx hb dX4_mend_24 rfl (lv_at hl 1 rfl) ?_
      obtain ⟨q31, hq31, hf⟩ := bind_el hf
      refine k_cVi (As := [.int (i3 (6)), .int (i3 (x1))]) (rest := []) ⟨hx, hb, hml, hown, hts⟩ (mG_refuse l G M0 6 (show inR (6) by decide) x1 hx1 q31 hq31) (cwV 2 hts (gbV (inB_5 _ (List.mem_of_getElem? (i := 15) rfl)) (inB_5 _ (List.mem_of_getElem? (i := 16) rfl)) (inB_5 _ (List.mem_of_getElem? (i := 17) rfl)) (inB_1 _ (List.mem_of_getElem? (i := 2) rfl)) (inB_5 _ (List.mem_of_getElem? (i := 18) rfl))) rfl rfl rfl (by decide +kernel) ⟨Nat.le_of_ble_eq_true rfl, Nat.le_of_ble_eq_true rfl⟩) (rv_G hW) hW hS rfl hl.1 rfl (lv_room (Nat.le_of_ble_eq_true rfl)) dX4_mend_25 ⟨Nat.zero_le _, Nat.zero_le _⟩ (fun hv32 H locs hW hS => ?_)
      obtain rfl := some_el hf
      exact k_ret hx hb hr hlocks hW hS rfl hv32 dX4_mend_28
  · rw [if_pos hc2] at hf
    refine k_bipush hx hb dX4_mend_7 (by decide +kernel) ?_
    obtain rfl := some_el hf
    exact k_ret hx hb hr hlocks hW hS rfl (show inR (-11) by decide) dX4_mend_9
set_option maxHeartbeats 4000000 in
set_option maxRecDepth 100000 in
theorem mG_remember (l : Launch) (G : gG) (M0 : MemG) (x1 : Int) (hx1 : inR x1) (r : MemG × Int) (hf : fG_remember M0 x1 = some r) : Met l yX4_remember (wb yX4_remember cX4_remember 2 (some .int)) ({ frames := 3, cells := 0, slots := 0, locals := 64 } : Room) (PcG G M0 [.ref (gA G (0)), .int (i3 (x1))]) (QcI G r.1 r.2) 0 0 (PA G) := by
  refine Met.ofW (cc := cX4_remember) (maxL := 2) (ret := (some .int)) (by decide) rfl ?_
  intro p e s m args below meth c s₁ B hml hv0
  obtain ⟨hav, hW⟩ := hv0
  have hx := B.exec
  have hb := B.bytes
  have hr := B.returns
  have hts := atoms_spec (ws := (wb yX4_remember cX4_remember 2 (some .int))) B.pre
  have hown : s.vm.findClass RX4 = some m.cls := findClass_of_methodNamed B.named
  have hlocks := B.notSynchronized
  have hinX4 : ∀ w ∈ u_ws RX4 TX4 10, w ∈ (wb yX4_remember cX4_remember 2 (some .int)) := fun _ h => List.mem_cons_of_mem _ (inlX4 _ h)
  have hW : Wd G M0 s s.heap := hW
  have hS : va_S (PA G) s.heap s.heap [] := va_S.rf
  have hl := lv_entry [.ref (gA G (0)), .int (i3 (x1))] (n := 2) (Nat.le_of_ble_eq_true rfl)
  have hent := lg_entry_eq m [.ref (gA G (0)), .int (i3 (x1))] 2
  rw [← hav] at hent
  rw [hent]
  clear hent
  generalize (lg_sl [.ref (gA G (0)), .int (i3 (x1))] ++ List.replicate (2 - (lg_sl [.ref (gA G (0)), .int (i3 (x1))]).length) Slot.unset).toArray = ls at hl ⊢
  have hl : lv_has ls 2 [(0, .ref (gA G (0))), (1, .int (i3 (x1)))] := hl
  unfold fG_remember at hf
  show W p l e ({ frames := 3, cells := 0, slots := 0, locals := 64 } : Room) s m args below meth c s.heap [] 0 0 (MQ below (QcI G r.1 r.2) args s 0 0 (PA G)) (F0 m 0 ls [])
  refine lv_iload_n hx hb dX4_remember_0 rfl (lv_at hl 1 rfl) ?_
  refine k_if_lt (tgt := 15) hx hb hx1 dX4_remember_1 (by decide) (fun hc1 => ?_) (fun hc1 => ?_)
  · rw [if_pos hc1] at hf
    refine lv_iload_n hx hb dX4_remember_15 rfl (lv_at hl 1 rfl) ?_
    obtain rfl := some_el hf
    exact k_ret hx hb hr hlocks hW hS rfl hx1 dX4_remember_16
  · rw [if_neg hc1] at hf
    refine lv_aload_n hx hb dX4_remember_4 rfl (lv_at hl 0 rfl) ?_
    refine va_get (D := G.1) (ci := 4) (v := .ref (gA G (1))) (C := RX4) (T := TX4) (N := 10) hx hb hts hinX4 hown hW.K hW.P 0 (he_G G M0) rfl 4 (by decide) (hts _ (List.mem_cons_of_mem _ (inB_1 _ (List.mem_of_getElem? (i := 20) rfl)))) (fun _ h9 => h9) rfl dX4_remember_5 ?_
    refine lv_aload_n hx hb dX4_remember_8 rfl (lv_at hl 0 rfl) ?_
    refine va_get (D := G.1) (ci := 4) (v := .ref (gA G (5 + 1))) (C := RX4) (T := TX4) (N := 10) hx hb hts hinX4 hown hW.K hW.P 0 (he_G G M0) rfl 1 (by decide) (hts _ (List.mem_cons_of_mem _ (inB_1 _ (List.mem_of_getElem? (i := 14) rfl)))) (fun _ h9 => h9) rfl dX4_remember_9 ?_
    obtain ⟨m2, hm2, hf⟩ := bind_el hf
    refine k_cVv (As := [.ref (gA G (5 + 1))]) (rest := []) ⟨hx, hb, hml, hown, hts⟩ (mP_keep l G M0 (1) (by decide) m2 hm2) (cwV 1 hts (gbV (inB_7 _ (List.mem_of_getElem? (i := 11) rfl)) (inB_7 _ (List.mem_of_getElem? (i := 12) rfl)) (inB_7 _ (List.mem_of_getElem? (i := 13) rfl)) (inB_1 _ (List.mem_of_getElem? (i := 19) rfl)) (inB_7 _ (List.mem_of_getElem? (i := 14) rfl))) rfl rfl rfl (by decide +kernel) ⟨Nat.le_of_ble_eq_true rfl, Nat.le_of_ble_eq_true rfl⟩) (rv_P hW) hW hS rfl hl.1 rfl (lv_room (Nat.le_of_ble_eq_true rfl)) dX4_remember_12 ⟨Nat.zero_le _, Nat.zero_le _⟩ (fun H locs hW hS => ?_)
    refine lv_iload_n hx hb dX4_remember_15 rfl (lv_at hl 1 rfl) ?_
    obtain rfl := some_el hf
    exact k_ret hx hb hr hlocks hW hS rfl hx1 dX4_remember_16
set_option maxHeartbeats 4000000 in
set_option maxRecDepth 100000 in
theorem mG_fix (l : Launch) (G : gG) (M0 : MemG) (x1 : Int) (hx1 : inR x1) (r : MemG × Int) (hf : fG_fix M0 x1 = some r) : Met l yX4_fix (wb yX4_fix cX4_fix 2 (some .int)) ({ frames := 4, cells := 0, slots := 0, locals := 85 } : Room) (PcG G M0 [.ref (gA G (0)), .int (i3 (x1))]) (QcI G r.1 r.2) 0 0 (PA G) := by
  refine Met.ofW (cc := cX4_fix) (maxL := 2) (ret := (some .int)) (by decide) rfl ?_
  intro p e s m args below meth c s₁ B hml hv0
  obtain ⟨hav, hW⟩ := hv0
  have hx := B.exec
  have hb := B.bytes
  have hr := B.returns
  have hts := atoms_spec (ws := (wb yX4_fix cX4_fix 2 (some .int))) B.pre
  have hown : s.vm.findClass RX4 = some m.cls := findClass_of_methodNamed B.named
  have hlocks := B.notSynchronized
  have hinX4 : ∀ w ∈ u_ws RX4 TX4 10, w ∈ (wb yX4_fix cX4_fix 2 (some .int)) := fun _ h => List.mem_cons_of_mem _ (inlX4 _ h)
  have hW : Wd G M0 s s.heap := hW
  have hS : va_S (PA G) s.heap s.heap [] := va_S.rf
  have hl := lv_entry [.ref (gA G (0)), .int (i3 (x1))] (n := 2) (Nat.le_of_ble_eq_true rfl)
  have hent := lg_entry_eq m [.ref (gA G (0)), .int (i3 (x1))] 2
  rw [← hav] at hent
  rw [hent]
  clear hent
  generalize (lg_sl [.ref (gA G (0)), .int (i3 (x1))] ++ List.replicate (2 - (lg_sl [.ref (gA G (0)), .int (i3 (x1))]).length) Slot.unset).toArray = ls at hl ⊢
  have hl : lv_has ls 2 [(0, .ref (gA G (0))), (1, .int (i3 (x1)))] := hl
  unfold fG_fix at hf
  show W p l e ({ frames := 4, cells := 0, slots := 0, locals := 85 } : Room) s m args below meth c s.heap [] 0 0 (MQ below (QcI G r.1 r.2) args s 0 0 (PA G)) (F0 m 0 ls [])
  refine lv_aload_n hx hb dX4_fix_0 rfl (lv_at hl 0 rfl) ?_
  refine va_get (D := G.1) (ci := 4) (v := .ref (gA G (5 + 1))) (C := RX4) (T := TX4) (N := 10) hx hb hts hinX4 hown hW.K hW.P 0 (he_G G M0) rfl 1 (by decide) (hts _ (List.mem_cons_of_mem _ (inB_1 _ (List.mem_of_getElem? (i := 14) rfl)))) (fun _ h9 => h9) rfl dX4_fix_1 ?_
  refine lv_aload_n hx hb dX4_fix_4 rfl (lv_at hl 0 rfl) ?_
  refine va_get (D := G.1) (ci := 4) (v := .ref (gA G (5 + 0))) (C := RX4) (T := TX4) (N := 10) hx hb hts hinX4 hown hW.K hW.P 0 (he_G G M0) rfl 0 (by decide) (hts _ (List.mem_cons_of_mem _ (inB_1 _ (List.mem_of_getElem? (i := 13) rfl)))) (fun _ h9 => h9) rfl dX4_fix_5 ?_
  obtain ⟨m1, hm1, hf⟩ := bind_el hf
  refine k_cVv (As := [.ref (gA G (5 + 0))]) (rest := []) ⟨hx, hb, hml, hown, hts⟩ (mW_copyFrom l G M0 (1) (by decide) (0) (by decide) m1 hm1) (cwV 1 hts (gbV (inB_3 _ (List.mem_of_getElem? (i := 22) rfl)) (inB_3 _ (List.mem_of_getElem? (i := 23) rfl)) (inB_4 _ (List.mem_of_getElem? (i := 0) rfl)) (inB_1 _ (List.mem_of_getElem? (i := 12) rfl)) (inB_4 _ (List.mem_of_getElem? (i := 1) rfl))) rfl rfl rfl (by decide +kernel) ⟨Nat.le_of_ble_eq_true rfl, Nat.le_of_ble_eq_true rfl⟩) (rv_wall (by decide) hW) hW hS rfl hl.1 rfl (lv_room (Nat.le_of_ble_eq_true rfl)) dX4_fix_8 ⟨Nat.zero_le _, Nat.zero_le _⟩ (fun H locs hW hS => ?_)
  refine lv_aload_n hx hb dX4_fix_11 rfl (lv_at hl 0 rfl) ?_
  refine lv_aload_n hx hb dX4_fix_12 rfl (lv_at hl 0 rfl) ?_
  refine lv_iload_n hx hb dX4_fix_13 rfl (lv_at hl 1 rfl) ?_
  obtain ⟨q3, hq3, hf⟩ := bind_el hf
  refine k_cVi (As := [.int (i3 (x1))]) (rest := [.ref (gA G (0))]) ⟨hx, hb, hml, hown, hts⟩ (mG_mend l G m1 x1 hx1 q3 hq3) (cwV 1 hts (gbV (inB_13 _ (List.mem_of_getElem? (i := 13) rfl)) (inB_13 _ (List.mem_of_getElem? (i := 14) rfl)) (inB_13 _ (List.mem_of_getElem? (i := 15) rfl)) (inB_1 _ (List.mem_of_getElem? (i := 2) rfl)) (inB_13 _ (List.mem_of_getElem? (i := 16) rfl))) rfl rfl rfl (by decide +kernel) ⟨Nat.le_of_ble_eq_true rfl, Nat.le_of_ble_eq_true rfl⟩) (rv_G hW) hW hS rfl hl.1 rfl (lv_room (Nat.le_of_ble_eq_true rfl)) dX4_fix_14 ⟨Nat.zero_le _, Nat.zero_le _⟩ (fun hv4 H locs hW hS => ?_)
  obtain ⟨q5, hq5, hf⟩ := bind_el hf
  refine k_cVi (As := [.int (i3 (q3.2))]) (rest := []) ⟨hx, hb, hml, hown, hts⟩ (mG_remember l G q3.1 q3.2 hv4 q5 hq5) (cwV 1 hts (gbV (inB_7 _ (List.mem_of_getElem? (i := 7) rfl)) (inB_7 _ (List.mem_of_getElem? (i := 8) rfl)) (inB_7 _ (List.mem_of_getElem? (i := 9) rfl)) (inB_1 _ (List.mem_of_getElem? (i := 2) rfl)) (inB_7 _ (List.mem_of_getElem? (i := 10) rfl))) rfl rfl rfl (by decide +kernel) ⟨Nat.le_of_ble_eq_true rfl, Nat.le_of_ble_eq_true rfl⟩) (rv_G hW) hW hS rfl hl.1 rfl (lv_room (Nat.le_of_ble_eq_true rfl)) dX4_fix_17 ⟨Nat.zero_le _, Nat.zero_le _⟩ (fun hv6 H locs hW hS => ?_)
  obtain rfl := some_el hf
  exact k_ret hx hb hr hlocks hW hS rfl hv6 dX4_fix_20
set_option maxHeartbeats 4000000 in
set_option maxRecDepth 100000 in
theorem mG_hasRoom (l : Launch) (G : gG) (M0 : MemG) (x1 : Int) (hx1 : inR x1) (x2 : Int) (hx2 : inR x2) (x3 : Int) (hx3 : inR x3) (r : Int) (hf : fG_hasRoom M0 x1 x2 x3 = some r) : Met l yX4_hasRoom (wb yX4_hasRoom cX4_hasRoom 4 (some .boolean)) ({ frames := 2, cells := 0, slots := 0, locals := 42 } : Room) (PcG G M0 [.ref (gA G (0)), .int (i3 (x1)), .int (i3 (x2)), .int (i3 (x3))]) (QcZ G M0 r) 0 0 (PA G) := by
  refine Met.ofW (cc := cX4_hasRoom) (maxL := 4) (ret := (some .boolean)) (by decide) rfl ?_
  intro p e s m args below meth c s₁ B hml hv0
  obtain ⟨hav, hW⟩ := hv0
  have hx := B.exec
  have hb := B.bytes
  have hr := B.returns
  have hts := atoms_spec (ws := (wb yX4_hasRoom cX4_hasRoom 4 (some .boolean))) B.pre
  have hown : s.vm.findClass RX4 = some m.cls := findClass_of_methodNamed B.named
  have hlocks := B.notSynchronized
  have hinX4 : ∀ w ∈ u_ws RX4 TX4 10, w ∈ (wb yX4_hasRoom cX4_hasRoom 4 (some .boolean)) := fun _ h => List.mem_cons_of_mem _ (inlX4 _ h)
  have hW : Wd G M0 s s.heap := hW
  have hS : va_S (PA G) s.heap s.heap [] := va_S.rf
  have hl := lv_entry [.ref (gA G (0)), .int (i3 (x1)), .int (i3 (x2)), .int (i3 (x3))] (n := 4) (Nat.le_of_ble_eq_true rfl)
  have hent := lg_entry_eq m [.ref (gA G (0)), .int (i3 (x1)), .int (i3 (x2)), .int (i3 (x3))] 4
  rw [← hav] at hent
  rw [hent]
  clear hent
  generalize (lg_sl [.ref (gA G (0)), .int (i3 (x1)), .int (i3 (x2)), .int (i3 (x3))] ++ List.replicate (4 - (lg_sl [.ref (gA G (0)), .int (i3 (x1)), .int (i3 (x2)), .int (i3 (x3))]).length) Slot.unset).toArray = ls at hl ⊢
  have hl : lv_has ls 4 [(0, .ref (gA G (0))), (1, .int (i3 (x1))), (2, .int (i3 (x2))), (3, .int (i3 (x3)))] := hl
  unfold fG_hasRoom at hf
  show W p l e ({ frames := 2, cells := 0, slots := 0, locals := 42 } : Room) s m args below meth c s.heap [] 0 0 (MQ below (QcZ G M0 r) args s 0 0 (PA G)) (F0 m 0 ls [])
  refine lv_aload_n hx hb dX4_hasRoom_0 rfl (lv_at hl 0 rfl) ?_
  refine va_get (D := G.1) (ci := 4) (v := .ref (gA G (5 + 0))) (C := RX4) (T := TX4) (N := 10) hx hb hts hinX4 hown hW.K hW.P 0 (he_G G M0) rfl 0 (by decide) (hts _ (List.mem_cons_of_mem _ (inB_1 _ (List.mem_of_getElem? (i := 13) rfl)))) (fun _ h9 => h9) rfl dX4_hasRoom_1 ?_
  refine lv_iload_n hx hb dX4_hasRoom_4 rfl (lv_at hl 1 rfl) ?_
  refine k_cVz (As := [.int (i3 (x1))]) (rest := []) ⟨hx, hb, hml, hown, hts⟩ (mW_isEmpty l G M0 (0) (by decide) x1 hx1 _ rfl) (cwV 1 hts (gbV (inB_4 _ (List.mem_of_getElem? (i := 21) rfl)) (inB_4 _ (List.mem_of_getElem? (i := 22) rfl)) (inB_4 _ (List.mem_of_getElem? (i := 23) rfl)) (inB_1 _ (List.mem_of_getElem? (i := 12) rfl)) (inB_5 _ (List.mem_of_getElem? (i := 0) rfl))) rfl rfl rfl (by decide +kernel) ⟨Nat.le_of_ble_eq_true rfl, Nat.le_of_ble_eq_true rfl⟩) (rv_wall (by decide) hW) hW hS rfl hl.1 rfl (lv_room (Nat.le_of_ble_eq_true rfl)) dX4_hasRoom_5 ⟨Nat.zero_le _, Nat.zero_le _⟩ (fun hv1 H locs hW hS => ?_)
  refine k_if_ne (tgt := 39) hx hb (inR_z hv1) dX4_hasRoom_8 (by decide) (fun hc2 => ?_) (fun hc2 => ?_)
  · rw [if_neg hc2] at hf
    refine k_const hx hb dX4_hasRoom_39 ?_
    refine lv_goto (tgt := 44) hx hb dX4_hasRoom_40 (by decide) ?_
    obtain rfl := some_el hf
    exact k_retz hx hb hr hlocks hW hS rfl (show (1 : Int) = 0 ∨ (1 : Int) = 1 by decide) dX4_hasRoom_44
  · rw [if_pos hc2] at hf
    refine lv_aload_n hx hb dX4_hasRoom_11 rfl (lv_at hl 0 rfl) ?_
    refine va_get (D := G.1) (ci := 4) (v := .ref (gA G (5 + 0))) (C := RX4) (T := TX4) (N := 10) hx hb hts hinX4 hown hW.K hW.P 0 (he_G G M0) rfl 0 (by decide) (hts _ (List.mem_cons_of_mem _ (inB_1 _ (List.mem_of_getElem? (i := 13) rfl)))) (fun _ h9 => h9) rfl dX4_hasRoom_12 ?_
    refine lv_iload_n hx hb dX4_hasRoom_15 rfl (lv_at hl 1 rfl) ?_
    refine k_cVi (As := [.int (i3 (x1))]) (rest := []) ⟨hx, hb, hml, hown, hts⟩ (mW_kindIn l G M0 (0) (by decide) x1 hx1 _ rfl) (cwV 1 hts (gbV (inB_5 _ (List.mem_of_getElem? (i := 3) rfl)) (inB_5 _ (List.mem_of_getElem? (i := 4) rfl)) (inB_5 _ (List.mem_of_getElem? (i := 5) rfl)) (inB_1 _ (List.mem_of_getElem? (i := 12) rfl)) (inB_5 _ (List.mem_of_getElem? (i := 6) rfl))) rfl rfl rfl (by decide +kernel) ⟨Nat.le_of_ble_eq_true rfl, Nat.le_of_ble_eq_true rfl⟩) (rv_wall (by decide) hW) hW hS rfl hl.1 rfl (lv_room (Nat.le_of_ble_eq_true rfl)) dX4_hasRoom_16 ⟨Nat.zero_le _, Nat.zero_le _⟩ (fun hv3 H locs hW hS => ?_)
    refine lv_iload_n hx hb dX4_hasRoom_19 rfl (lv_at hl 2 rfl) ?_
    refine k_icmp_ne (tgt := 43) hx hb hv3 hx2 dX4_hasRoom_20 (by decide) (fun hc4 => ?_) (fun hc4 => ?_)
    · rw [if_neg hc4] at hf
      refine k_const hx hb dX4_hasRoom_43 ?_
      obtain rfl := some_el hf
      exact k_retz hx hb hr hlocks hW hS rfl (show (0 : Int) = 0 ∨ (0 : Int) = 1 by decide) dX4_hasRoom_44
    · rw [if_pos hc4] at hf
      refine lv_aload_n hx hb dX4_hasRoom_23 rfl (lv_at hl 0 rfl) ?_
      refine va_get (D := G.1) (ci := 4) (v := .ref (gA G (5 + 0))) (C := RX4) (T := TX4) (N := 10) hx hb hts hinX4 hown hW.K hW.P 0 (he_G G M0) rfl 0 (by decide) (hts _ (List.mem_cons_of_mem _ (inB_1 _ (List.mem_of_getElem? (i := 13) rfl)))) (fun _ h9 => h9) rfl dX4_hasRoom_24 ?_
      refine lv_iload_n hx hb dX4_hasRoom_27 rfl (lv_at hl 1 rfl) ?_
      refine k_cVi (As := [.int (i3 (x1))]) (rest := []) ⟨hx, hb, hml, hown, hts⟩ (mW_sacksIn l G M0 (0) (by decide) x1 hx1 _ rfl) (cwV 1 hts (gbV (inB_5 _ (List.mem_of_getElem? (i := 7) rfl)) (inB_5 _ (List.mem_of_getElem? (i := 8) rfl)) (inB_5 _ (List.mem_of_getElem? (i := 9) rfl)) (inB_1 _ (List.mem_of_getElem? (i := 12) rfl)) (inB_5 _ (List.mem_of_getElem? (i := 10) rfl))) rfl rfl rfl (by decide +kernel) ⟨Nat.le_of_ble_eq_true rfl, Nat.le_of_ble_eq_true rfl⟩) (rv_wall (by decide) hW) hW hS rfl hl.1 rfl (lv_room (Nat.le_of_ble_eq_true rfl)) dX4_hasRoom_28 ⟨Nat.zero_le _, Nat.zero_le _⟩ (fun hv5 H locs hW hS => ?_)
      refine lv_iload_n hx hb dX4_hasRoom_31 rfl (lv_at hl 3 rfl) ?_
      refine k_add hx hb dX4_hasRoom_32 ?_
      refine k_sipush hx hb dX4_hasRoom_33 (by decide +kernel) ?_
      obtain ⟨hg6, hf⟩ := gd_el hf
      refine k_icmp_gt (tgt := 43) hx hb hg6 (show inR (200) by decide) dX4_hasRoom_36 (by decide) (fun hc7 => ?_) (fun hc7 => ?_)
      · rw [if_pos hc7] at hf
        refine k_const hx hb dX4_hasRoom_43 ?_
        obtain rfl := some_el hf
        exact k_retz hx hb hr hlocks hW hS rfl (show (0 : Int) = 0 ∨ (0 : Int) = 1 by decide) dX4_hasRoom_44
      · rw [if_neg hc7] at hf
        refine k_const hx hb dX4_hasRoom_39 ?_
        refine lv_goto (tgt := 44) hx hb dX4_hasRoom_40 (by decide) ?_
        obtain rfl := some_el hf
        exact k_retz hx hb hr hlocks hW hS rfl (show (1 : Int) = 0 ∨ (1 : Int) = 1 by decide) dX4_hasRoom_44
set_option maxHeartbeats 4000000 in
set_option maxRecDepth 100000 in
theorem mG_hasSacks (l : Launch) (G : gG) (M0 : MemG) (x1 : Int) (hx1 : inR x1) (x2 : Int) (hx2 : inR x2) (r : Int) (hf : fG_hasSacks M0 x1 x2 = r) : Met l yX4_hasSacks (wb yX4_hasSacks cX4_hasSacks 3 (some .boolean)) ({ frames := 2, cells := 0, slots := 0, locals := 42 } : Room) (PcG G M0 [.ref (gA G (0)), .int (i3 (x1)), .int (i3 (x2))]) (QcZ G M0 r) 0 0 (PA G) := by
  refine Met.ofW (cc := cX4_hasSacks) (maxL := 3) (ret := (some .boolean)) (by decide) rfl ?_
  intro p e s m args below meth c s₁ B hml hv0
  obtain ⟨hav, hW⟩ := hv0
  have hx := B.exec
  have hb := B.bytes
  have hr := B.returns
  have hts := atoms_spec (ws := (wb yX4_hasSacks cX4_hasSacks 3 (some .boolean))) B.pre
  have hown : s.vm.findClass RX4 = some m.cls := findClass_of_methodNamed B.named
  have hlocks := B.notSynchronized
  have hinX4 : ∀ w ∈ u_ws RX4 TX4 10, w ∈ (wb yX4_hasSacks cX4_hasSacks 3 (some .boolean)) := fun _ h => List.mem_cons_of_mem _ (inlX4 _ h)
  have hW : Wd G M0 s s.heap := hW
  have hS : va_S (PA G) s.heap s.heap [] := va_S.rf
  have hl := lv_entry [.ref (gA G (0)), .int (i3 (x1)), .int (i3 (x2))] (n := 3) (Nat.le_of_ble_eq_true rfl)
  have hent := lg_entry_eq m [.ref (gA G (0)), .int (i3 (x1)), .int (i3 (x2))] 3
  rw [← hav] at hent
  rw [hent]
  clear hent
  generalize (lg_sl [.ref (gA G (0)), .int (i3 (x1)), .int (i3 (x2))] ++ List.replicate (3 - (lg_sl [.ref (gA G (0)), .int (i3 (x1)), .int (i3 (x2))]).length) Slot.unset).toArray = ls at hl ⊢
  have hl : lv_has ls 3 [(0, .ref (gA G (0))), (1, .int (i3 (x1))), (2, .int (i3 (x2)))] := hl
  unfold fG_hasSacks at hf
  show W p l e ({ frames := 2, cells := 0, slots := 0, locals := 42 } : Room) s m args below meth c s.heap [] 0 0 (MQ below (QcZ G M0 r) args s 0 0 (PA G)) (F0 m 0 ls [])
  refine lv_aload_n hx hb dX4_hasSacks_0 rfl (lv_at hl 0 rfl) ?_
  refine va_get (D := G.1) (ci := 4) (v := .ref (gA G (5 + 0))) (C := RX4) (T := TX4) (N := 10) hx hb hts hinX4 hown hW.K hW.P 0 (he_G G M0) rfl 0 (by decide) (hts _ (List.mem_cons_of_mem _ (inB_1 _ (List.mem_of_getElem? (i := 13) rfl)))) (fun _ h9 => h9) rfl dX4_hasSacks_1 ?_
  refine lv_iload_n hx hb dX4_hasSacks_4 rfl (lv_at hl 1 rfl) ?_
  refine k_cVi (As := [.int (i3 (x1))]) (rest := []) ⟨hx, hb, hml, hown, hts⟩ (mW_sacksIn l G M0 (0) (by decide) x1 hx1 _ rfl) (cwV 1 hts (gbV (inB_5 _ (List.mem_of_getElem? (i := 7) rfl)) (inB_5 _ (List.mem_of_getElem? (i := 8) rfl)) (inB_5 _ (List.mem_of_getElem? (i := 9) rfl)) (inB_1 _ (List.mem_of_getElem? (i := 12) rfl)) (inB_5 _ (List.mem_of_getElem? (i := 10) rfl))) rfl rfl rfl (by decide +kernel) ⟨Nat.le_of_ble_eq_true rfl, Nat.le_of_ble_eq_true rfl⟩) (rv_wall (by decide) hW) hW hS rfl hl.1 rfl (lv_room (Nat.le_of_ble_eq_true rfl)) dX4_hasSacks_5 ⟨Nat.zero_le _, Nat.zero_le _⟩ (fun hv1 H locs hW hS => ?_)
  refine lv_iload_n hx hb dX4_hasSacks_8 rfl (lv_at hl 2 rfl) ?_
  refine k_icmp_lt (tgt := 16) hx hb hv1 hx2 dX4_hasSacks_9 (by decide) (fun hc2 => ?_) (fun hc2 => ?_)
  · rw [if_pos hc2] at hf
    refine k_const hx hb dX4_hasSacks_16 ?_
    subst hf
    exact k_retz hx hb hr hlocks hW hS rfl (show (0 : Int) = 0 ∨ (0 : Int) = 1 by decide) dX4_hasSacks_17
  · rw [if_neg hc2] at hf
    refine k_const hx hb dX4_hasSacks_12 ?_
    refine lv_goto (tgt := 17) hx hb dX4_hasSacks_13 (by decide) ?_
    subst hf
    exact k_retz hx hb hr hlocks hW hS rfl (show (1 : Int) = 0 ∨ (1 : Int) = 1 by decide) dX4_hasSacks_17
set_option maxHeartbeats 4000000 in
set_option maxRecDepth 100000 in
theorem mG_refuseRoom (l : Launch) (G : gG) (M0 : MemG) (x1 : Int) (hx1 : inR x1) (x2 : Int) (hx2 : inR x2) (x3 : Int) (hx3 : inR x3) (r : MemG × Int) (hf : fG_refuseRoom M0 x1 x2 x3 = some r) : Met l yX4_refuseRoom (wb yX4_refuseRoom cX4_refuseRoom 4 (some .int)) ({ frames := 2, cells := 0, slots := 0, locals := 42 } : Room) (PcG G M0 [.ref (gA G (0)), .int (i3 (x1)), .int (i3 (x2)), .int (i3 (x3))]) (QcI G r.1 r.2) 0 0 (PA G) := by
  refine Met.ofW (cc := cX4_refuseRoom) (maxL := 4) (ret := (some .int)) (by decide) rfl ?_
  intro p e s m args below meth c s₁ B hml hv0
  obtain ⟨hav, hW⟩ := hv0
  have hx := B.exec
  have hb := B.bytes
  have hr := B.returns
  have hts := atoms_spec (ws := (wb yX4_refuseRoom cX4_refuseRoom 4 (some .int))) B.pre
  have hown : s.vm.findClass RX4 = some m.cls := findClass_of_methodNamed B.named
  have hlocks := B.notSynchronized
  have hinX4 : ∀ w ∈ u_ws RX4 TX4 10, w ∈ (wb yX4_refuseRoom cX4_refuseRoom 4 (some .int)) := fun _ h => List.mem_cons_of_mem _ (inlX4 _ h)
  have hW : Wd G M0 s s.heap := hW
  have hS : va_S (PA G) s.heap s.heap [] := va_S.rf
  have hl := lv_entry [.ref (gA G (0)), .int (i3 (x1)), .int (i3 (x2)), .int (i3 (x3))] (n := 4) (Nat.le_of_ble_eq_true rfl)
  have hent := lg_entry_eq m [.ref (gA G (0)), .int (i3 (x1)), .int (i3 (x2)), .int (i3 (x3))] 4
  rw [← hav] at hent
  rw [hent]
  clear hent
  generalize (lg_sl [.ref (gA G (0)), .int (i3 (x1)), .int (i3 (x2)), .int (i3 (x3))] ++ List.replicate (4 - (lg_sl [.ref (gA G (0)), .int (i3 (x1)), .int (i3 (x2)), .int (i3 (x3))]).length) Slot.unset).toArray = ls at hl ⊢
  have hl : lv_has ls 4 [(0, .ref (gA G (0))), (1, .int (i3 (x1))), (2, .int (i3 (x2))), (3, .int (i3 (x3)))] := hl
  unfold fG_refuseRoom at hf
  show W p l e ({ frames := 2, cells := 0, slots := 0, locals := 42 } : Room) s m args below meth c s.heap [] 0 0 (MQ below (QcI G r.1 r.2) args s 0 0 (PA G)) (F0 m 0 ls [])
  refine lv_aload_n hx hb dX4_refuseRoom_0 rfl (lv_at hl 0 rfl) ?_
  refine va_get (D := G.1) (ci := 4) (v := .ref (gA G (5 + 0))) (C := RX4) (T := TX4) (N := 10) hx hb hts hinX4 hown hW.K hW.P 0 (he_G G M0) rfl 0 (by decide) (hts _ (List.mem_cons_of_mem _ (inB_1 _ (List.mem_of_getElem? (i := 13) rfl)))) (fun _ h9 => h9) rfl dX4_refuseRoom_1 ?_
  refine lv_iload_n hx hb dX4_refuseRoom_4 rfl (lv_at hl 1 rfl) ?_
  refine k_cVi (As := [.int (i3 (x1))]) (rest := []) ⟨hx, hb, hml, hown, hts⟩ (mW_kindIn l G M0 (0) (by decide) x1 hx1 _ rfl) (cwV 1 hts (gbV (inB_5 _ (List.mem_of_getElem? (i := 3) rfl)) (inB_5 _ (List.mem_of_getElem? (i := 4) rfl)) (inB_5 _ (List.mem_of_getElem? (i := 5) rfl)) (inB_1 _ (List.mem_of_getElem? (i := 12) rfl)) (inB_5 _ (List.mem_of_getElem? (i := 6) rfl))) rfl rfl rfl (by decide +kernel) ⟨Nat.le_of_ble_eq_true rfl, Nat.le_of_ble_eq_true rfl⟩) (rv_wall (by decide) hW) hW hS rfl hl.1 rfl (lv_room (Nat.le_of_ble_eq_true rfl)) dX4_refuseRoom_5 ⟨Nat.zero_le _, Nat.zero_le _⟩ (fun hv1 H locs hW hS => ?_)
  refine lv_iload_n hx hb dX4_refuseRoom_8 rfl (lv_at hl 2 rfl) ?_
  refine k_icmp_eq (tgt := 26) hx hb hv1 hx2 dX4_refuseRoom_9 (by decide) (fun hc2 => ?_) (fun hc2 => ?_)
  · rw [if_pos hc2] at hf
    refine lv_aload_n hx hb dX4_refuseRoom_26 rfl (lv_at hl 0 rfl) ?_
    refine k_const hx hb dX4_refuseRoom_27 ?_
    refine lv_aload_n hx hb dX4_refuseRoom_28 rfl (lv_at hl 0 rfl) ?_
    refine va_get (D := G.1) (ci := 4) (v := .ref (gA G (5 + 0))) (C := RX4) (T := TX4) (N := 10) hx hb hts hinX4 hown hW.K hW.P 0 (he_G G M0) rfl 0 (by decide) (hts _ (List.mem_cons_of_mem _ (inB_1 _ (List.mem_of_getElem? (i := 13) rfl)))) (fun _ h9 => h9) rfl dX4_refuseRoom_29 ?_
    refine lv_iload_n hx hb dX4_refuseRoom_32 rfl (lv_at hl 1 rfl) ?_
    refine k_cVi (As := [.int (i3 (x1))]) (rest := [.int (i3 (2)), .ref (gA G (0))]) ⟨hx, hb, hml, hown, hts⟩ (mW_sacksIn l G M0 (0) (by decide) x1 hx1 _ rfl) (cwV 1 hts (gbV (inB_5 _ (List.mem_of_getElem? (i := 7) rfl)) (inB_5 _ (List.mem_of_getElem? (i := 8) rfl)) (inB_5 _ (List.mem_of_getElem? (i := 9) rfl)) (inB_1 _ (List.mem_of_getElem? (i := 12) rfl)) (inB_5 _ (List.mem_of_getElem? (i := 10) rfl))) rfl rfl rfl (by decide +kernel) ⟨Nat.le_of_ble_eq_true rfl, Nat.le_of_ble_eq_true rfl⟩) (rv_wall (by decide) hW) hW hS rfl hl.1 rfl (lv_room (Nat.le_of_ble_eq_true rfl)) dX4_refuseRoom_33 ⟨Nat.zero_le _, Nat.zero_le _⟩ (fun hv3 H locs hW hS => ?_)
    refine lv_iload_n hx hb dX4_refuseRoom_36 rfl (lv_at hl 3 rfl) ?_
    refine k_add hx hb dX4_refuseRoom_37 ?_
    refine k_sipush hx hb dX4_refuseRoom_38 (by decide +kernel) ?_
    refine k_sub hx hb dX4_refuseRoom_41 ?_
    obtain ⟨hg4, hf⟩ := gd_el hf
    obtain ⟨q5, hq5, hf⟩ := bind_el hf
    refine k_cVi (As := [.int (i3 (2)), .int (i3 ((((fW_sacksIn M0 0 x1)) + x3) - 200))]) (rest := []) ⟨hx, hb, hml, hown, hts⟩ (mG_refuse l G M0 2 (show inR (2) by decide) ((((fW_sacksIn M0 0 x1)) + x3) - 200) hg4 q5 hq5) (cwV 2 hts (gbV (inB_5 _ (List.mem_of_getElem? (i := 15) rfl)) (inB_5 _ (List.mem_of_getElem? (i := 16) rfl)) (inB_5 _ (List.mem_of_getElem? (i := 17) rfl)) (inB_1 _ (List.mem_of_getElem? (i := 2) rfl)) (inB_5 _ (List.mem_of_getElem? (i := 18) rfl))) rfl rfl rfl (by decide +kernel) ⟨Nat.le_of_ble_eq_true rfl, Nat.le_of_ble_eq_true rfl⟩) (rv_G hW) hW hS rfl hl.1 rfl (lv_room (Nat.le_of_ble_eq_true rfl)) dX4_refuseRoom_42 ⟨Nat.zero_le _, Nat.zero_le _⟩ (fun hv6 H locs hW hS => ?_)
    obtain rfl := some_el hf
    exact k_ret hx hb hr hlocks hW hS rfl hv6 dX4_refuseRoom_45
  · rw [if_neg hc2] at hf
    refine lv_aload_n hx hb dX4_refuseRoom_12 rfl (lv_at hl 0 rfl) ?_
    refine k_const hx hb dX4_refuseRoom_13 ?_
    refine lv_aload_n hx hb dX4_refuseRoom_14 rfl (lv_at hl 0 rfl) ?_
    refine va_get (D := G.1) (ci := 4) (v := .ref (gA G (5 + 0))) (C := RX4) (T := TX4) (N := 10) hx hb hts hinX4 hown hW.K hW.P 0 (he_G G M0) rfl 0 (by decide) (hts _ (List.mem_cons_of_mem _ (inB_1 _ (List.mem_of_getElem? (i := 13) rfl)))) (fun _ h9 => h9) rfl dX4_refuseRoom_15 ?_
    refine lv_iload_n hx hb dX4_refuseRoom_18 rfl (lv_at hl 1 rfl) ?_
    refine k_cVi (As := [.int (i3 (x1))]) (rest := [.int (i3 (1)), .ref (gA G (0))]) ⟨hx, hb, hml, hown, hts⟩ (mW_kindIn l G M0 (0) (by decide) x1 hx1 _ rfl) (cwV 1 hts (gbV (inB_5 _ (List.mem_of_getElem? (i := 3) rfl)) (inB_5 _ (List.mem_of_getElem? (i := 4) rfl)) (inB_5 _ (List.mem_of_getElem? (i := 5) rfl)) (inB_1 _ (List.mem_of_getElem? (i := 12) rfl)) (inB_5 _ (List.mem_of_getElem? (i := 6) rfl))) rfl rfl rfl (by decide +kernel) ⟨Nat.le_of_ble_eq_true rfl, Nat.le_of_ble_eq_true rfl⟩) (rv_wall (by decide) hW) hW hS rfl hl.1 rfl (lv_room (Nat.le_of_ble_eq_true rfl)) dX4_refuseRoom_19 ⟨Nat.zero_le _, Nat.zero_le _⟩ (fun hv7 H locs hW hS => ?_)
    obtain ⟨q8, hq8, hf⟩ := bind_el hf
    refine k_cVi (As := [.int (i3 (1)), .int (i3 ((fW_kindIn M0 0 x1)))]) (rest := []) ⟨hx, hb, hml, hown, hts⟩ (mG_refuse l G M0 1 (show inR (1) by decide) ((fW_kindIn M0 0 x1)) hv7 q8 hq8) (cwV 2 hts (gbV (inB_5 _ (List.mem_of_getElem? (i := 15) rfl)) (inB_5 _ (List.mem_of_getElem? (i := 16) rfl)) (inB_5 _ (List.mem_of_getElem? (i := 17) rfl)) (inB_1 _ (List.mem_of_getElem? (i := 2) rfl)) (inB_5 _ (List.mem_of_getElem? (i := 18) rfl))) rfl rfl rfl (by decide +kernel) ⟨Nat.le_of_ble_eq_true rfl, Nat.le_of_ble_eq_true rfl⟩) (rv_G hW) hW hS rfl hl.1 rfl (lv_room (Nat.le_of_ble_eq_true rfl)) dX4_refuseRoom_22 ⟨Nat.zero_le _, Nat.zero_le _⟩ (fun hv9 H locs hW hS => ?_)
    obtain rfl := some_el hf
    exact k_ret hx hb hr hlocks hW hS rfl hv9 dX4_refuseRoom_25
set_option maxHeartbeats 4000000 in
set_option maxRecDepth 100000 in
theorem mG_refuseSacks (l : Launch) (G : gG) (M0 : MemG) (x1 : Int) (hx1 : inR x1) (r : MemG × Int) (hf : fG_refuseSacks M0 x1 = some r) : Met l yX4_refuseSacks (wb yX4_refuseSacks cX4_refuseSacks 2 (some .int)) ({ frames := 2, cells := 0, slots := 0, locals := 42 } : Room) (PcG G M0 [.ref (gA G (0)), .int (i3 (x1))]) (QcI G r.1 r.2) 0 0 (PA G) := by
  refine Met.ofW (cc := cX4_refuseSacks) (maxL := 2) (ret := (some .int)) (by decide) rfl ?_
  intro p e s m args below meth c s₁ B hml hv0
  obtain ⟨hav, hW⟩ := hv0
  have hx := B.exec
  have hb := B.bytes
  have hr := B.returns
  have hts := atoms_spec (ws := (wb yX4_refuseSacks cX4_refuseSacks 2 (some .int))) B.pre
  have hown : s.vm.findClass RX4 = some m.cls := findClass_of_methodNamed B.named
  have hlocks := B.notSynchronized
  have hinX4 : ∀ w ∈ u_ws RX4 TX4 10, w ∈ (wb yX4_refuseSacks cX4_refuseSacks 2 (some .int)) := fun _ h => List.mem_cons_of_mem _ (inlX4 _ h)
  have hW : Wd G M0 s s.heap := hW
  have hS : va_S (PA G) s.heap s.heap [] := va_S.rf
  have hl := lv_entry [.ref (gA G (0)), .int (i3 (x1))] (n := 2) (Nat.le_of_ble_eq_true rfl)
  have hent := lg_entry_eq m [.ref (gA G (0)), .int (i3 (x1))] 2
  rw [← hav] at hent
  rw [hent]
  clear hent
  generalize (lg_sl [.ref (gA G (0)), .int (i3 (x1))] ++ List.replicate (2 - (lg_sl [.ref (gA G (0)), .int (i3 (x1))]).length) Slot.unset).toArray = ls at hl ⊢
  have hl : lv_has ls 2 [(0, .ref (gA G (0))), (1, .int (i3 (x1)))] := hl
  unfold fG_refuseSacks at hf
  show W p l e ({ frames := 2, cells := 0, slots := 0, locals := 42 } : Room) s m args below meth c s.heap [] 0 0 (MQ below (QcI G r.1 r.2) args s 0 0 (PA G)) (F0 m 0 ls [])
  refine lv_aload_n hx hb dX4_refuseSacks_0 rfl (lv_at hl 0 rfl) ?_
  refine va_get (D := G.1) (ci := 4) (v := .ref (gA G (5 + 0))) (C := RX4) (T := TX4) (N := 10) hx hb hts hinX4 hown hW.K hW.P 0 (he_G G M0) rfl 0 (by decide) (hts _ (List.mem_cons_of_mem _ (inB_1 _ (List.mem_of_getElem? (i := 13) rfl)))) (fun _ h9 => h9) rfl dX4_refuseSacks_1 ?_
  refine lv_iload_n hx hb dX4_refuseSacks_4 rfl (lv_at hl 1 rfl) ?_
  refine k_cVz (As := [.int (i3 (x1))]) (rest := []) ⟨hx, hb, hml, hown, hts⟩ (mW_isEmpty l G M0 (0) (by decide) x1 hx1 _ rfl) (cwV 1 hts (gbV (inB_4 _ (List.mem_of_getElem? (i := 21) rfl)) (inB_4 _ (List.mem_of_getElem? (i := 22) rfl)) (inB_4 _ (List.mem_of_getElem? (i := 23) rfl)) (inB_1 _ (List.mem_of_getElem? (i := 12) rfl)) (inB_5 _ (List.mem_of_getElem? (i := 0) rfl))) rfl rfl rfl (by decide +kernel) ⟨Nat.le_of_ble_eq_true rfl, Nat.le_of_ble_eq_true rfl⟩) (rv_wall (by decide) hW) hW hS rfl hl.1 rfl (lv_room (Nat.le_of_ble_eq_true rfl)) dX4_refuseSacks_5 ⟨Nat.zero_le _, Nat.zero_le _⟩ (fun hv1 H locs hW hS => ?_)
  refine k_if_eq (tgt := 19) hx hb (inR_z hv1) dX4_refuseSacks_8 (by decide) (fun hc2 => ?_) (fun hc2 => ?_)
  · rw [if_pos hc2] at hf
    refine lv_aload_n hx hb dX4_refuseSacks_19 rfl (lv_at hl 0 rfl) ?_
    refine k_const hx hb dX4_refuseSacks_20 ?_
    refine lv_aload_n hx hb dX4_refuseSacks_21 rfl (lv_at hl 0 rfl) ?_
    refine va_get (D := G.1) (ci := 4) (v := .ref (gA G (5 + 0))) (C := RX4) (T := TX4) (N := 10) hx hb hts hinX4 hown hW.K hW.P 0 (he_G G M0) rfl 0 (by decide) (hts _ (List.mem_cons_of_mem _ (inB_1 _ (List.mem_of_getElem? (i := 13) rfl)))) (fun _ h9 => h9) rfl dX4_refuseSacks_22 ?_
    refine lv_iload_n hx hb dX4_refuseSacks_25 rfl (lv_at hl 1 rfl) ?_
    refine k_cVi (As := [.int (i3 (x1))]) (rest := [.int (i3 (3)), .ref (gA G (0))]) ⟨hx, hb, hml, hown, hts⟩ (mW_sacksIn l G M0 (0) (by decide) x1 hx1 _ rfl) (cwV 1 hts (gbV (inB_5 _ (List.mem_of_getElem? (i := 7) rfl)) (inB_5 _ (List.mem_of_getElem? (i := 8) rfl)) (inB_5 _ (List.mem_of_getElem? (i := 9) rfl)) (inB_1 _ (List.mem_of_getElem? (i := 12) rfl)) (inB_5 _ (List.mem_of_getElem? (i := 10) rfl))) rfl rfl rfl (by decide +kernel) ⟨Nat.le_of_ble_eq_true rfl, Nat.le_of_ble_eq_true rfl⟩) (rv_wall (by decide) hW) hW hS rfl hl.1 rfl (lv_room (Nat.le_of_ble_eq_true rfl)) dX4_refuseSacks_26 ⟨Nat.zero_le _, Nat.zero_le _⟩ (fun hv3 H locs hW hS => ?_)
    obtain ⟨q4, hq4, hf⟩ := bind_el hf
    refine k_cVi (As := [.int (i3 (3)), .int (i3 ((fW_sacksIn M0 0 x1)))]) (rest := []) ⟨hx, hb, hml, hown, hts⟩ (mG_refuse l G M0 3 (show inR (3) by decide) ((fW_sacksIn M0 0 x1)) hv3 q4 hq4) (cwV 2 hts (gbV (inB_5 _ (List.mem_of_getElem? (i := 15) rfl)) (inB_5 _ (List.mem_of_getElem? (i := 16) rfl)) (inB_5 _ (List.mem_of_getElem? (i := 17) rfl)) (inB_1 _ (List.mem_of_getElem? (i := 2) rfl)) (inB_5 _ (List.mem_of_getElem? (i := 18) rfl))) rfl rfl rfl (by decide +kernel) ⟨Nat.le_of_ble_eq_true rfl, Nat.le_of_ble_eq_true rfl⟩) (rv_G hW) hW hS rfl hl.1 rfl (lv_room (Nat.le_of_ble_eq_true rfl)) dX4_refuseSacks_29 ⟨Nat.zero_le _, Nat.zero_le _⟩ (fun hv5 H locs hW hS => ?_)
    obtain rfl := some_el hf
    exact k_ret hx hb hr hlocks hW hS rfl hv5 dX4_refuseSacks_32
  · rw [if_neg hc2] at hf
    refine lv_aload_n hx hb dX4_refuseSacks_11 rfl (lv_at hl 0 rfl) ?_
    refine k_bipush hx hb dX4_refuseSacks_12 (by decide +kernel) ?_
    refine lv_iload_n hx hb dX4_refuseSacks_14 rfl (lv_at hl 1 rfl) ?_
    obtain ⟨q6, hq6, hf⟩ := bind_el hf
    refine k_cVi (As := [.int (i3 (8)), .int (i3 (x1))]) (rest := []) ⟨hx, hb, hml, hown, hts⟩ (mG_refuse l G M0 8 (show inR (8) by decide) x1 hx1 q6 hq6) (cwV 2 hts (gbV (inB_5 _ (List.mem_of_getElem? (i := 15) rfl)) (inB_5 _ (List.mem_of_getElem? (i := 16) rfl)) (inB_5 _ (List.mem_of_getElem? (i := 17) rfl)) (inB_1 _ (List.mem_of_getElem? (i := 2) rfl)) (inB_5 _ (List.mem_of_getElem? (i := 18) rfl))) rfl rfl rfl (by decide +kernel) ⟨Nat.le_of_ble_eq_true rfl, Nat.le_of_ble_eq_true rfl⟩) (rv_G hW) hW hS rfl hl.1 rfl (lv_room (Nat.le_of_ble_eq_true rfl)) dX4_refuseSacks_15 ⟨Nat.zero_le _, Nat.zero_le _⟩ (fun hv7 H locs hW hS => ?_)
    obtain rfl := some_el hf
    exact k_ret hx hb hr hlocks hW hS rfl hv7 dX4_refuseSacks_18
set_option maxHeartbeats 4000000 in
set_option maxRecDepth 100000 in
theorem mG_moveSacks (l : Launch) (G : gG) (M0 : MemG) (x1 : Int) (hx1 : inR x1) (x2 : Int) (hx2 : inR x2) (x3 : Int) (hx3 : inR x3) (r : MemG × Int) (hf : fG_moveSacks M0 x1 x2 x3 = some r) : Met l yX4_moveSacks (wb yX4_moveSacks cX4_moveSacks 6 (some .int)) ({ frames := 4, cells := 0, slots := 0, locals := 92 } : Room) (PcG G M0 [.ref (gA G (0)), .int (i3 (x1)), .int (i3 (x2)), .int (i3 (x3))]) (QcI G r.1 r.2) 0 0 (PA G) := by
  refine Met.ofW (cc := cX4_moveSacks) (maxL := 6) (ret := (some .int)) (by decide) rfl ?_
  intro p e s m args below meth c s₁ B hml hv0
  obtain ⟨hav, hW⟩ := hv0
  have hx := B.exec
  have hb := B.bytes
  have hr := B.returns
  have hts := atoms_spec (ws := (wb yX4_moveSacks cX4_moveSacks 6 (some .int))) B.pre
  have hown : s.vm.findClass RX4 = some m.cls := findClass_of_methodNamed B.named
  have hlocks := B.notSynchronized
  have hinX4 : ∀ w ∈ u_ws RX4 TX4 10, w ∈ (wb yX4_moveSacks cX4_moveSacks 6 (some .int)) := fun _ h => List.mem_cons_of_mem _ (inlX4 _ h)
  have hW : Wd G M0 s s.heap := hW
  have hS : va_S (PA G) s.heap s.heap [] := va_S.rf
  have hl := lv_entry [.ref (gA G (0)), .int (i3 (x1)), .int (i3 (x2)), .int (i3 (x3))] (n := 6) (Nat.le_of_ble_eq_true rfl)
  have hent := lg_entry_eq m [.ref (gA G (0)), .int (i3 (x1)), .int (i3 (x2)), .int (i3 (x3))] 6
  rw [← hav] at hent
  rw [hent]
  clear hent
  generalize (lg_sl [.ref (gA G (0)), .int (i3 (x1)), .int (i3 (x2)), .int (i3 (x3))] ++ List.replicate (6 - (lg_sl [.ref (gA G (0)), .int (i3 (x1)), .int (i3 (x2)), .int (i3 (x3))]).length) Slot.unset).toArray = ls at hl ⊢
  have hl : lv_has ls 6 [(0, .ref (gA G (0))), (1, .int (i3 (x1))), (2, .int (i3 (x2))), (3, .int (i3 (x3)))] := hl
  unfold fG_moveSacks at hf
  show W p l e ({ frames := 4, cells := 0, slots := 0, locals := 92 } : Room) s m args below meth c s.heap [] 0 0 (MQ below (QcI G r.1 r.2) args s 0 0 (PA G)) (F0 m 0 ls [])
  refine lv_iload_n hx hb dX4_moveSacks_0 rfl (lv_at hl 1 rfl) ?_
  refine k_cSz (As := [.int (i3 (x1))]) (rest := []) ⟨hx, hb, hml, hown, hts⟩ (mG_isBay l G M0 x1 hx1 _ rfl) (va_cwS 1 hts (gbS (inB_4 _ (List.mem_of_getElem? (i := 8) rfl)) (inB_4 _ (List.mem_of_getElem? (i := 9) rfl)) (inB_1 _ (List.mem_of_getElem? (i := 2) rfl)) (inB_4 _ (List.mem_of_getElem? (i := 10) rfl))) rfl rfl rfl (by decide +kernel) ⟨Nat.le_of_ble_eq_true rfl, Nat.le_of_ble_eq_true rfl⟩) hW hS rfl hl.1 rfl (lv_room (Nat.le_of_ble_eq_true rfl)) dX4_moveSacks_1 ⟨Nat.zero_le _, Nat.zero_le _⟩ (fun hv1 H locs hW hS => ?_)
  refine k_if_eq (tgt := 14) hx hb (inR_z hv1) dX4_moveSacks_4 (by decide) (fun hc2 => ?_) (fun hc2 => ?_)
  · rw [if_pos hc2] at hf
    refine k_bipush hx hb dX4_moveSacks_14 (by decide +kernel) ?_
    obtain rfl := some_el hf
    exact k_ret hx hb hr hlocks hW hS rfl (show inR (-11) by decide) dX4_moveSacks_16
  · rw [if_neg hc2] at hf
    refine lv_iload_n hx hb dX4_moveSacks_7 rfl (lv_at hl 2 rfl) ?_
    refine k_cSz (As := [.int (i3 (x2))]) (rest := []) ⟨hx, hb, hml, hown, hts⟩ (mG_isBay l G M0 x2 hx2 _ rfl) (va_cwS 1 hts (gbS (inB_4 _ (List.mem_of_getElem? (i := 8) rfl)) (inB_4 _ (List.mem_of_getElem? (i := 9) rfl)) (inB_1 _ (List.mem_of_getElem? (i := 2) rfl)) (inB_4 _ (List.mem_of_getElem? (i := 10) rfl))) rfl rfl rfl (by decide +kernel) ⟨Nat.le_of_ble_eq_true rfl, Nat.le_of_ble_eq_true rfl⟩) hW hS rfl hl.1 rfl (lv_room (Nat.le_of_ble_eq_true rfl)) dX4_moveSacks_8 ⟨Nat.zero_le _, Nat.zero_le _⟩ (fun hv3 H locs hW hS => ?_)
    refine k_if_ne (tgt := 17) hx hb (inR_z hv3) dX4_moveSacks_11 (by decide) (fun hc4 => ?_) (fun hc4 => ?_)
    · rw [if_neg hc4] at hf
      refine lv_iload_n hx hb dX4_moveSacks_17 rfl (lv_at hl 3 rfl) ?_
      refine k_const hx hb dX4_moveSacks_18 ?_
      refine k_sipush hx hb dX4_moveSacks_19 (by decide +kernel) ?_
      refine k_cSz (As := [.int (i3 (x3)), .int (i3 (1)), .int (i3 (200))]) (rest := []) ⟨hx, hb, hml, hown, hts⟩ (mG_isWithin l G M0 x3 hx3 1 (show inR (1) by decide) 200 (show inR (200) by decide) _ rfl) (va_cwS 3 hts (gbS (inB_4 _ (List.mem_of_getElem? (i := 11) rfl)) (inB_4 _ (List.mem_of_getElem? (i := 12) rfl)) (inB_1 _ (List.mem_of_getElem? (i := 2) rfl)) (inB_4 _ (List.mem_of_getElem? (i := 13) rfl))) rfl rfl rfl (by decide +kernel) ⟨Nat.le_of_ble_eq_true rfl, Nat.le_of_ble_eq_true rfl⟩) hW hS rfl hl.1 rfl (lv_room (Nat.le_of_ble_eq_true rfl)) dX4_moveSacks_22 ⟨Nat.zero_le _, Nat.zero_le _⟩ (fun hv5 H locs hW hS => ?_)
      refine k_if_ne (tgt := 31) hx hb (inR_z hv5) dX4_moveSacks_25 (by decide) (fun hc6 => ?_) (fun hc6 => ?_)
      · rw [if_neg hc6] at hf
        refine lv_iload_n hx hb dX4_moveSacks_31 rfl (lv_at hl 1 rfl) ?_
        refine lv_iload_n hx hb dX4_moveSacks_32 rfl (lv_at hl 2 rfl) ?_
        refine k_icmp_ne (tgt := 43) hx hb hx1 hx2 dX4_moveSacks_33 (by decide) (fun hc7 => ?_) (fun hc7 => ?_)
        · rw [if_neg hc7] at hf
          refine lv_aload_n hx hb dX4_moveSacks_43 rfl (lv_at hl 0 rfl) ?_
          refine lv_iload_n hx hb dX4_moveSacks_44 rfl (lv_at hl 1 rfl) ?_
          refine lv_iload_n hx hb dX4_moveSacks_45 rfl (lv_at hl 3 rfl) ?_
          refine k_cVz (As := [.int (i3 (x1)), .int (i3 (x3))]) (rest := []) ⟨hx, hb, hml, hown, hts⟩ (mG_hasSacks l G M0 x1 hx1 x3 hx3 _ rfl) (cwV 2 hts (gbV (inB_11 _ (List.mem_of_getElem? (i := 19) rfl)) (inB_11 _ (List.mem_of_getElem? (i := 20) rfl)) (inB_11 _ (List.mem_of_getElem? (i := 21) rfl)) (inB_1 _ (List.mem_of_getElem? (i := 2) rfl)) (inB_11 _ (List.mem_of_getElem? (i := 22) rfl))) rfl rfl rfl (by decide +kernel) ⟨Nat.le_of_ble_eq_true rfl, Nat.le_of_ble_eq_true rfl⟩) (rv_G hW) hW hS rfl hl.1 rfl (lv_room (Nat.le_of_ble_eq_true rfl)) dX4_moveSacks_46 ⟨Nat.zero_le _, Nat.zero_le _⟩ (fun hv8 H locs hW hS => ?_)
          refine k_if_ne (tgt := 58) hx hb (inR_z hv8) dX4_moveSacks_49 (by decide) (fun hc9 => ?_) (fun hc9 => ?_)
          · rw [if_neg hc9] at hf
            refine lv_aload_n hx hb dX4_moveSacks_58 rfl (lv_at hl 0 rfl) ?_
            refine va_get (D := G.1) (ci := 4) (v := .ref (gA G (5 + 0))) (C := RX4) (T := TX4) (N := 10) hx hb hts hinX4 hown hW.K hW.P 0 (he_G G M0) rfl 0 (by decide) (hts _ (List.mem_cons_of_mem _ (inB_1 _ (List.mem_of_getElem? (i := 13) rfl)))) (fun _ h9 => h9) rfl dX4_moveSacks_59 ?_
            refine lv_iload_n hx hb dX4_moveSacks_62 rfl (lv_at hl 1 rfl) ?_
            refine k_cVi (As := [.int (i3 (x1))]) (rest := []) ⟨hx, hb, hml, hown, hts⟩ (mW_kindIn l G M0 (0) (by decide) x1 hx1 _ rfl) (cwV 1 hts (gbV (inB_5 _ (List.mem_of_getElem? (i := 3) rfl)) (inB_5 _ (List.mem_of_getElem? (i := 4) rfl)) (inB_5 _ (List.mem_of_getElem? (i := 5) rfl)) (inB_1 _ (List.mem_of_getElem? (i := 12) rfl)) (inB_5 _ (List.mem_of_getElem? (i := 6) rfl))) rfl rfl rfl (by decide +kernel) ⟨Nat.le_of_ble_eq_true rfl, Nat.le_of_ble_eq_true rfl⟩) (rv_wall (by decide) hW) hW hS rfl hl.1 rfl (lv_room (Nat.le_of_ble_eq_true rfl)) dX4_moveSacks_63 ⟨Nat.zero_le _, Nat.zero_le _⟩ (fun hv10 H locs hW hS => ?_)
            refine lv_istore (lv' := [(4, .int (i3 ((fW_kindIn M0 0 x1)))), (0, .ref (gA G (0))), (1, .int (i3 (x1))), (2, .int (i3 (x2))), (3, .int (i3 (x3)))]) hx hb dX4_moveSacks_66 hl (by decide) rfl (fun ls hl => ?_)
            refine lv_aload_n hx hb dX4_moveSacks_68 rfl (lv_at hl 1 rfl) ?_
            refine lv_iload_n hx hb dX4_moveSacks_69 rfl (lv_at hl 3 rfl) ?_
            refine lv_iload hx hb dX4_moveSacks_70 (lv_at hl 0 rfl) ?_
            refine lv_iload_n hx hb dX4_moveSacks_72 rfl (lv_at hl 4 rfl) ?_
            obtain ⟨q11, hq11, hf⟩ := bind_el hf
            refine k_cVz (As := [.int (i3 (x2)), .int (i3 ((fW_kindIn M0 0 x1))), .int (i3 (x3))]) (rest := []) ⟨hx, hb, hml, hown, hts⟩ (mG_hasRoom l G M0 x2 hx2 ((fW_kindIn M0 0 x1)) hv10 x3 hx3 q11 hq11) (cwV 3 hts (gbV (inB_4 _ (List.mem_of_getElem? (i := 17) rfl)) (inB_4 _ (List.mem_of_getElem? (i := 18) rfl)) (inB_4 _ (List.mem_of_getElem? (i := 19) rfl)) (inB_1 _ (List.mem_of_getElem? (i := 2) rfl)) (inB_4 _ (List.mem_of_getElem? (i := 20) rfl))) rfl rfl rfl (by decide +kernel) ⟨Nat.le_of_ble_eq_true rfl, Nat.le_of_ble_eq_true rfl⟩) (rv_G hW) hW hS rfl hl.1 rfl (lv_room (Nat.le_of_ble_eq_true rfl)) dX4_moveSacks_73 ⟨Nat.zero_le _, Nat.zero_le _⟩ (fun hv12 H locs hW hS => ?_)
            refine k_if_ne (tgt := 88) hx hb (inR_z hv12) dX4_moveSacks_76 (by decide) (fun hc13 => ?_) (fun hc13 => ?_)
            · rw [if_neg hc13] at hf
              refine lv_aload_n hx hb dX4_moveSacks_88 rfl (lv_at hl 1 rfl) ?_
              refine va_get (D := G.1) (ci := 4) (v := .ref (gA G (5 + 0))) (C := RX4) (T := TX4) (N := 10) hx hb hts hinX4 hown hW.K hW.P 0 (he_G G M0) rfl 0 (by decide) (hts _ (List.mem_cons_of_mem _ (inB_1 _ (List.mem_of_getElem? (i := 13) rfl)))) (fun _ h9 => h9) rfl dX4_moveSacks_89 ?_
              refine lv_iload_n hx hb dX4_moveSacks_92 rfl (lv_at hl 2 rfl) ?_
              refine k_cVi (As := [.int (i3 (x1))]) (rest := []) ⟨hx, hb, hml, hown, hts⟩ (mW_ageIn l G M0 (0) (by decide) x1 hx1 _ rfl) (cwV 1 hts (gbV (inB_6 _ (List.mem_of_getElem? (i := 1) rfl)) (inB_6 _ (List.mem_of_getElem? (i := 2) rfl)) (inB_6 _ (List.mem_of_getElem? (i := 3) rfl)) (inB_1 _ (List.mem_of_getElem? (i := 12) rfl)) (inB_6 _ (List.mem_of_getElem? (i := 4) rfl))) rfl rfl rfl (by decide +kernel) ⟨Nat.le_of_ble_eq_true rfl, Nat.le_of_ble_eq_true rfl⟩) (rv_wall (by decide) hW) hW hS rfl hl.1 rfl (lv_room (Nat.le_of_ble_eq_true rfl)) dX4_moveSacks_93 ⟨Nat.zero_le _, Nat.zero_le _⟩ (fun hv14 H locs hW hS => ?_)
              refine lv_aload_n hx hb dX4_moveSacks_96 rfl (lv_at hl 1 rfl) ?_
              refine va_get (D := G.1) (ci := 4) (v := .ref (gA G (5 + 0))) (C := RX4) (T := TX4) (N := 10) hx hb hts hinX4 hown hW.K hW.P 0 (he_G G M0) rfl 0 (by decide) (hts _ (List.mem_cons_of_mem _ (inB_1 _ (List.mem_of_getElem? (i := 13) rfl)))) (fun _ h9 => h9) rfl dX4_moveSacks_97 ?_
              refine lv_iload_n hx hb dX4_moveSacks_100 rfl (lv_at hl 3 rfl) ?_
              refine k_cVi (As := [.int (i3 (x2))]) (rest := [.int (i3 ((fW_ageIn M0 0 x1)))]) ⟨hx, hb, hml, hown, hts⟩ (mW_ageIn l G M0 (0) (by decide) x2 hx2 _ rfl) (cwV 1 hts (gbV (inB_6 _ (List.mem_of_getElem? (i := 1) rfl)) (inB_6 _ (List.mem_of_getElem? (i := 2) rfl)) (inB_6 _ (List.mem_of_getElem? (i := 3) rfl)) (inB_1 _ (List.mem_of_getElem? (i := 12) rfl)) (inB_6 _ (List.mem_of_getElem? (i := 4) rfl))) rfl rfl rfl (by decide +kernel) ⟨Nat.le_of_ble_eq_true rfl, Nat.le_of_ble_eq_true rfl⟩) (rv_wall (by decide) hW) hW hS rfl hl.1 rfl (lv_room (Nat.le_of_ble_eq_true rfl)) dX4_moveSacks_101 ⟨Nat.zero_le _, Nat.zero_le _⟩ (fun hv15 H locs hW hS => ?_)
              refine k_max hx hb (hml.trans hl.1.symm) hown (hts _ (List.mem_cons_of_mem _ (inB_12 _ (List.mem_of_getElem? (i := 15) rfl)))) (hts _ (List.mem_cons_of_mem _ (inB_11 _ (List.mem_of_getElem? (i := 9) rfl)))) (hts _ (List.mem_cons_of_mem _ (inB_7 _ (List.mem_of_getElem? (i := 17) rfl)))) (hts _ (List.mem_cons_of_mem _ (inB_11 _ (List.mem_of_getElem? (i := 10) rfl)))) (Nat.le_of_ble_eq_true rfl) (Nat.le_of_ble_eq_true rfl) (Nat.le_of_ble_eq_true rfl) (Nat.le_of_ble_eq_true rfl) hv14 hv15 dX4_moveSacks_104 ?_
              refine lv_istore (lv' := [(5, .int (i3 (max ((fW_ageIn M0 0 x1)) ((fW_ageIn M0 0 x2))))), (4, .int (i3 ((fW_kindIn M0 0 x1)))), (0, .ref (gA G (0))), (1, .int (i3 (x1))), (2, .int (i3 (x2))), (3, .int (i3 (x3)))]) hx hb dX4_moveSacks_107 hl (by decide) rfl (fun ls hl => ?_)
              refine lv_aload_n hx hb dX4_moveSacks_109 rfl (lv_at hl 2 rfl) ?_
              refine va_get (D := G.1) (ci := 4) (v := .ref (gA G (5 + 0))) (C := RX4) (T := TX4) (N := 10) hx hb hts hinX4 hown hW.K hW.P 0 (he_G G M0) rfl 0 (by decide) (hts _ (List.mem_cons_of_mem _ (inB_1 _ (List.mem_of_getElem? (i := 13) rfl)))) (fun _ h9 => h9) rfl dX4_moveSacks_110 ?_
              refine lv_iload_n hx hb dX4_moveSacks_113 rfl (lv_at hl 3 rfl) ?_
              refine lv_iload_n hx hb dX4_moveSacks_114 rfl (lv_at hl 5 rfl) ?_
              obtain ⟨m16, hm16, hf⟩ := bind_el hf
              refine k_cVv (As := [.int (i3 (x1)), .int (i3 (x3))]) (rest := []) ⟨hx, hb, hml, hown, hts⟩ (mW_remove l G M0 (0) (by decide) x1 hx1 x3 hx3 m16 hm16) (cwV 2 hts (gbV (inB_12 _ (List.mem_of_getElem? (i := 3) rfl)) (inB_12 _ (List.mem_of_getElem? (i := 4) rfl)) (inB_12 _ (List.mem_of_getElem? (i := 5) rfl)) (inB_1 _ (List.mem_of_getElem? (i := 12) rfl)) (inB_12 _ (List.mem_of_getElem? (i := 6) rfl))) rfl rfl rfl (by decide +kernel) ⟨Nat.le_of_ble_eq_true rfl, Nat.le_of_ble_eq_true rfl⟩) (rv_wall (by decide) hW) hW hS rfl hl.1 rfl (lv_room (Nat.le_of_ble_eq_true rfl)) dX4_moveSacks_115 ⟨Nat.zero_le _, Nat.zero_le _⟩ (fun H locs hW hS => ?_)
              refine lv_aload_n hx hb dX4_moveSacks_118 rfl (lv_at hl 2 rfl) ?_
              refine va_get (D := G.1) (ci := 4) (v := .ref (gA G (5 + 0))) (C := RX4) (T := TX4) (N := 10) hx hb hts hinX4 hown hW.K hW.P 0 (he_G G m16) rfl 0 (by decide) (hts _ (List.mem_cons_of_mem _ (inB_1 _ (List.mem_of_getElem? (i := 13) rfl)))) (fun _ h9 => h9) rfl dX4_moveSacks_119 ?_
              refine k_bipush hx hb dX4_moveSacks_122 (by decide +kernel) ?_
              refine lv_iload_n hx hb dX4_moveSacks_124 rfl (lv_at hl 5 rfl) ?_
              obtain ⟨m18, hm18, hf⟩ := bind_el hf
              refine k_cVv (As := [.int (i3 (12)), .int (i3 (x3))]) (rest := []) ⟨hx, hb, hml, hown, hts⟩ (mW_count l G m16 (0) (by decide) 12 (show inR (12) by decide) x3 hx3 m18 hm18) (cwV 2 hts (gbV (inB_5 _ (List.mem_of_getElem? (i := 19) rfl)) (inB_5 _ (List.mem_of_getElem? (i := 20) rfl)) (inB_5 _ (List.mem_of_getElem? (i := 21) rfl)) (inB_1 _ (List.mem_of_getElem? (i := 12) rfl)) (inB_5 _ (List.mem_of_getElem? (i := 22) rfl))) rfl rfl rfl (by decide +kernel) ⟨Nat.le_of_ble_eq_true rfl, Nat.le_of_ble_eq_true rfl⟩) (rv_wall (by decide) hW) hW hS rfl hl.1 rfl (lv_room (Nat.le_of_ble_eq_true rfl)) dX4_moveSacks_125 ⟨Nat.zero_le _, Nat.zero_le _⟩ (fun H locs hW hS => ?_)
              refine lv_aload_n hx hb dX4_moveSacks_128 rfl (lv_at hl 2 rfl) ?_
              refine va_get (D := G.1) (ci := 4) (v := .ref (gA G (5 + 0))) (C := RX4) (T := TX4) (N := 10) hx hb hts hinX4 hown hW.K hW.P 0 (he_G G m18) rfl 0 (by decide) (hts _ (List.mem_cons_of_mem _ (inB_1 _ (List.mem_of_getElem? (i := 13) rfl)))) (fun _ h9 => h9) rfl dX4_moveSacks_129 ?_
              refine lv_iload_n hx hb dX4_moveSacks_132 rfl (lv_at hl 4 rfl) ?_
              refine lv_iload hx hb dX4_moveSacks_133 (lv_at hl 1 rfl) ?_
              refine lv_iload_n hx hb dX4_moveSacks_135 rfl (lv_at hl 5 rfl) ?_
              refine lv_iload hx hb dX4_moveSacks_136 (lv_at hl 0 rfl) ?_
              obtain ⟨q20, hq20, hf⟩ := bind_el hf
              refine k_cVi (As := [.int (i3 (x2)), .int (i3 ((fW_kindIn M0 0 x1))), .int (i3 (x3)), .int (i3 (max ((fW_ageIn M0 0 x1)) ((fW_ageIn M0 0 x2))))]) (rest := []) ⟨hx, hb, hml, hown, hts⟩ (mW_bring l G m18 (0) (by decide) x2 hx2 ((fW_kindIn M0 0 x1)) hv10 x3 hx3 (max ((fW_ageIn M0 0 x1)) ((fW_ageIn M0 0 x2))) (inR_max hv14 hv15) q20 hq20) (cwV 4 hts (gbV (inB_6 _ (List.mem_of_getElem? (i := 5) rfl)) (inB_6 _ (List.mem_of_getElem? (i := 6) rfl)) (inB_6 _ (List.mem_of_getElem? (i := 7) rfl)) (inB_1 _ (List.mem_of_getElem? (i := 12) rfl)) (inB_6 _ (List.mem_of_getElem? (i := 8) rfl))) rfl rfl rfl (by decide +kernel) ⟨Nat.le_of_ble_eq_true rfl, Nat.le_of_ble_eq_true rfl⟩) (rv_wall (by decide) hW) hW hS rfl hl.1 rfl (lv_room (Nat.le_of_ble_eq_true rfl)) dX4_moveSacks_138 ⟨Nat.zero_le _, Nat.zero_le _⟩ (fun hv21 H locs hW hS => ?_)
              obtain rfl := some_el hf
              exact k_ret hx hb hr hlocks hW hS rfl hv21 dX4_moveSacks_141
            · rw [if_pos hc13] at hf
              refine lv_aload_n hx hb dX4_moveSacks_79 rfl (lv_at hl 1 rfl) ?_
              refine lv_iload_n hx hb dX4_moveSacks_80 rfl (lv_at hl 3 rfl) ?_
              refine lv_iload hx hb dX4_moveSacks_81 (lv_at hl 0 rfl) ?_
              refine lv_iload_n hx hb dX4_moveSacks_83 rfl (lv_at hl 4 rfl) ?_
              obtain ⟨q22, hq22, hf⟩ := bind_el hf
              refine k_cVi (As := [.int (i3 (x2)), .int (i3 ((fW_kindIn M0 0 x1))), .int (i3 (x3))]) (rest := []) ⟨hx, hb, hml, hown, hts⟩ (mG_refuseRoom l G M0 x2 hx2 ((fW_kindIn M0 0 x1)) hv10 x3 hx3 q22 hq22) (cwV 3 hts (gbV (inB_5 _ (List.mem_of_getElem? (i := 11) rfl)) (inB_5 _ (List.mem_of_getElem? (i := 12) rfl)) (inB_5 _ (List.mem_of_getElem? (i := 13) rfl)) (inB_1 _ (List.mem_of_getElem? (i := 2) rfl)) (inB_5 _ (List.mem_of_getElem? (i := 14) rfl))) rfl rfl rfl (by decide +kernel) ⟨Nat.le_of_ble_eq_true rfl, Nat.le_of_ble_eq_true rfl⟩) (rv_G hW) hW hS rfl hl.1 rfl (lv_room (Nat.le_of_ble_eq_true rfl)) dX4_moveSacks_84 ⟨Nat.zero_le _, Nat.zero_le _⟩ (fun hv23 H locs hW hS => ?_)
              obtain rfl := some_el hf
              exact k_ret hx hb hr hlocks hW hS rfl hv23 dX4_moveSacks_87
          · rw [if_pos hc9] at hf
            refine lv_aload_n hx hb dX4_moveSacks_52 rfl (lv_at hl 0 rfl) ?_
            refine lv_iload_n hx hb dX4_moveSacks_53 rfl (lv_at hl 1 rfl) ?_
            obtain ⟨q24, hq24, hf⟩ := bind_el hf
            refine k_cVi (As := [.int (i3 (x1))]) (rest := []) ⟨hx, hb, hml, hown, hts⟩ (mG_refuseSacks l G M0 x1 hx1 q24 hq24) (cwV 1 hts (gbV (inB_11 _ (List.mem_of_getElem? (i := 23) rfl)) (inB_12 _ (List.mem_of_getElem? (i := 0) rfl)) (inB_12 _ (List.mem_of_getElem? (i := 1) rfl)) (inB_1 _ (List.mem_of_getElem? (i := 2) rfl)) (inB_12 _ (List.mem_of_getElem? (i := 2) rfl))) rfl rfl rfl (by decide +kernel) ⟨Nat.le_of_ble_eq_true rfl, Nat.le_of_ble_eq_true rfl⟩) (rv_G hW) hW hS rfl hl.1 rfl (lv_room (Nat.le_of_ble_eq_true rfl)) dX4_moveSacks_54 ⟨Nat.zero_le _, Nat.zero_le _⟩ (fun hv25 H locs hW hS => ?_)
            obtain rfl := some_el hf
            exact k_ret hx hb hr hlocks hW hS rfl hv25 dX4_moveSacks_57
        · rw [if_pos hc7] at hf
          refine lv_aload_n hx hb dX4_moveSacks_36 rfl (lv_at hl 0 rfl) ?_
          refine k_const hx hb dX4_moveSacks_37 ?_
          refine lv_iload_n hx hb dX4_moveSacks_38 rfl (lv_at hl 1 rfl) ?_
          obtain ⟨q26, hq26, hf⟩ := bind_el hf
          refine k_cVi (As := [.int (i3 (4)), .int (i3 (x1))]) (rest := []) ⟨hx, hb, hml, hown, hts⟩ (mG_refuse l G M0 4 (show inR (4) by decide) x1 hx1 q26 hq26) (cwV 2 hts (gbV (inB_5 _ (List.mem_of_getElem? (i := 15) rfl)) (inB_5 _ (List.mem_of_getElem? (i := 16) rfl)) (inB_5 _ (List.mem_of_getElem? (i := 17) rfl)) (inB_1 _ (List.mem_of_getElem? (i := 2) rfl)) (inB_5 _ (List.mem_of_getElem? (i := 18) rfl))) rfl rfl rfl (by decide +kernel) ⟨Nat.le_of_ble_eq_true rfl, Nat.le_of_ble_eq_true rfl⟩) (rv_G hW) hW hS rfl hl.1 rfl (lv_room (Nat.le_of_ble_eq_true rfl)) dX4_moveSacks_39 ⟨Nat.zero_le _, Nat.zero_le _⟩ (fun hv27 H locs hW hS => ?_)
          obtain rfl := some_el hf
          exact k_ret hx hb hr hlocks hW hS rfl hv27 dX4_moveSacks_42
      · rw [if_pos hc6] at hf
        refine k_bipush hx hb dX4_moveSacks_28 (by decide +kernel) ?_
        obtain rfl := some_el hf
        exact k_ret hx hb hr hlocks hW hS rfl (show inR (-12) by decide) dX4_moveSacks_30
    · rw [if_pos hc4] at hf
      refine k_bipush hx hb dX4_moveSacks_14 (by decide +kernel) ?_
      obtain rfl := some_el hf
      exact k_ret hx hb hr hlocks hW hS rfl (show inR (-11) by decide) dX4_moveSacks_16
set_option maxHeartbeats 4000000 in
set_option maxRecDepth 100000 in
theorem mG_move (l : Launch) (G : gG) (M0 : MemG) (x1 : Int) (hx1 : inR x1) (x2 : Int) (hx2 : inR x2) (x3 : Int) (hx3 : inR x3) (r : MemG × Int) (hf : fG_move M0 x1 x2 x3 = some r) : Met l yX4_move (wb yX4_move cX4_move 4 (some .int)) ({ frames := 5, cells := 0, slots := 0, locals := 117 } : Room) (PcG G M0 [.ref (gA G (0)), .int (i3 (x1)), .int (i3 (x2)), .int (i3 (x3))]) (QcI G r.1 r.2) 0 0 (PA G) := by
  refine Met.ofW (cc := cX4_move) (maxL := 4) (ret := (some .int)) (by decide) rfl ?_
  intro p e s m args below meth c s₁ B hml hv0
  obtain ⟨hav, hW⟩ := hv0
  have hx := B.exec
  have hb := B.bytes
  have hr := B.returns
  have hts := atoms_spec (ws := (wb yX4_move cX4_move 4 (some .int))) B.pre
  have hown : s.vm.findClass RX4 = some m.cls := findClass_of_methodNamed B.named
  have hlocks := B.notSynchronized
  have hinX4 : ∀ w ∈ u_ws RX4 TX4 10, w ∈ (wb yX4_move cX4_move 4 (some .int)) := fun _ h => List.mem_cons_of_mem _ (inlX4 _ h)
  have hW : Wd G M0 s s.heap := hW
  have hS : va_S (PA G) s.heap s.heap [] := va_S.rf
  have hl := lv_entry [.ref (gA G (0)), .int (i3 (x1)), .int (i3 (x2)), .int (i3 (x3))] (n := 4) (Nat.le_of_ble_eq_true rfl)
  have hent := lg_entry_eq m [.ref (gA G (0)), .int (i3 (x1)), .int (i3 (x2)), .int (i3 (x3))] 4
  rw [← hav] at hent
  rw [hent]
  clear hent
  generalize (lg_sl [.ref (gA G (0)), .int (i3 (x1)), .int (i3 (x2)), .int (i3 (x3))] ++ List.replicate (4 - (lg_sl [.ref (gA G (0)), .int (i3 (x1)), .int (i3 (x2)), .int (i3 (x3))]).length) Slot.unset).toArray = ls at hl ⊢
  have hl : lv_has ls 4 [(0, .ref (gA G (0))), (1, .int (i3 (x1))), (2, .int (i3 (x2))), (3, .int (i3 (x3)))] := hl
  unfold fG_move at hf
  show W p l e ({ frames := 5, cells := 0, slots := 0, locals := 117 } : Room) s m args below meth c s.heap [] 0 0 (MQ below (QcI G r.1 r.2) args s 0 0 (PA G)) (F0 m 0 ls [])
  refine lv_aload_n hx hb dX4_move_0 rfl (lv_at hl 0 rfl) ?_
  refine va_get (D := G.1) (ci := 4) (v := .ref (gA G (5 + 1))) (C := RX4) (T := TX4) (N := 10) hx hb hts hinX4 hown hW.K hW.P 0 (he_G G M0) rfl 1 (by decide) (hts _ (List.mem_cons_of_mem _ (inB_1 _ (List.mem_of_getElem? (i := 14) rfl)))) (fun _ h9 => h9) rfl dX4_move_1 ?_
  refine lv_aload_n hx hb dX4_move_4 rfl (lv_at hl 0 rfl) ?_
  refine va_get (D := G.1) (ci := 4) (v := .ref (gA G (5 + 0))) (C := RX4) (T := TX4) (N := 10) hx hb hts hinX4 hown hW.K hW.P 0 (he_G G M0) rfl 0 (by decide) (hts _ (List.mem_cons_of_mem _ (inB_1 _ (List.mem_of_getElem? (i := 13) rfl)))) (fun _ h9 => h9) rfl dX4_move_5 ?_
  obtain ⟨m1, hm1, hf⟩ := bind_el hf
  refine k_cVv (As := [.ref (gA G (5 + 0))]) (rest := []) ⟨hx, hb, hml, hown, hts⟩ (mW_copyFrom l G M0 (1) (by decide) (0) (by decide) m1 hm1) (cwV 1 hts (gbV (inB_3 _ (List.mem_of_getElem? (i := 22) rfl)) (inB_3 _ (List.mem_of_getElem? (i := 23) rfl)) (inB_4 _ (List.mem_of_getElem? (i := 0) rfl)) (inB_1 _ (List.mem_of_getElem? (i := 12) rfl)) (inB_4 _ (List.mem_of_getElem? (i := 1) rfl))) rfl rfl rfl (by decide +kernel) ⟨Nat.le_of_ble_eq_true rfl, Nat.le_of_ble_eq_true rfl⟩) (rv_wall (by decide) hW) hW hS rfl hl.1 rfl (lv_room (Nat.le_of_ble_eq_true rfl)) dX4_move_8 ⟨Nat.zero_le _, Nat.zero_le _⟩ (fun H locs hW hS => ?_)
  refine lv_aload_n hx hb dX4_move_11 rfl (lv_at hl 0 rfl) ?_
  refine lv_aload_n hx hb dX4_move_12 rfl (lv_at hl 0 rfl) ?_
  refine lv_iload_n hx hb dX4_move_13 rfl (lv_at hl 1 rfl) ?_
  refine lv_iload_n hx hb dX4_move_14 rfl (lv_at hl 2 rfl) ?_
  refine lv_iload_n hx hb dX4_move_15 rfl (lv_at hl 3 rfl) ?_
  obtain ⟨q3, hq3, hf⟩ := bind_el hf
  refine k_cVi (As := [.int (i3 (x1)), .int (i3 (x2)), .int (i3 (x3))]) (rest := [.ref (gA G (0))]) ⟨hx, hb, hml, hown, hts⟩ (mG_moveSacks l G m1 x1 hx1 x2 hx2 x3 hx3 q3 hq3) (cwV 3 hts (gbV (inB_12 _ (List.mem_of_getElem? (i := 11) rfl)) (inB_12 _ (List.mem_of_getElem? (i := 12) rfl)) (inB_12 _ (List.mem_of_getElem? (i := 13) rfl)) (inB_1 _ (List.mem_of_getElem? (i := 2) rfl)) (inB_12 _ (List.mem_of_getElem? (i := 14) rfl))) rfl rfl rfl (by decide +kernel) ⟨Nat.le_of_ble_eq_true rfl, Nat.le_of_ble_eq_true rfl⟩) (rv_G hW) hW hS rfl hl.1 rfl (lv_room (Nat.le_of_ble_eq_true rfl)) dX4_move_16 ⟨Nat.zero_le _, Nat.zero_le _⟩ (fun hv4 H locs hW hS => ?_)
  obtain ⟨q5, hq5, hf⟩ := bind_el hf
  refine k_cVi (As := [.int (i3 (q3.2))]) (rest := []) ⟨hx, hb, hml, hown, hts⟩ (mG_remember l G q3.1 q3.2 hv4 q5 hq5) (cwV 1 hts (gbV (inB_7 _ (List.mem_of_getElem? (i := 7) rfl)) (inB_7 _ (List.mem_of_getElem? (i := 8) rfl)) (inB_7 _ (List.mem_of_getElem? (i := 9) rfl)) (inB_1 _ (List.mem_of_getElem? (i := 2) rfl)) (inB_7 _ (List.mem_of_getElem? (i := 10) rfl))) rfl rfl rfl (by decide +kernel) ⟨Nat.le_of_ble_eq_true rfl, Nat.le_of_ble_eq_true rfl⟩) (rv_G hW) hW hS rfl hl.1 rfl (lv_room (Nat.le_of_ble_eq_true rfl)) dX4_move_19 ⟨Nat.zero_le _, Nat.zero_le _⟩ (fun hv6 H locs hW hS => ?_)
  obtain rfl := some_el hf
  exact k_ret hx hb hr hlocks hW hS rfl hv6 dX4_move_22
set_option maxHeartbeats 4000000 in
set_option maxRecDepth 100000 in
theorem mG_fillOrder (l : Launch) (G : gG) (M0 : MemG) (x1 : Int) (hx1 : inR x1) (x2 : Int) (hx2 : inR x2) (r : MemG × Int) (hf : fG_fillOrder M0 x1 x2 = some r) : Met l yX4_fillOrder (wb yX4_fillOrder cX4_fillOrder 8 (some .int)) ({ frames := 3, cells := 0, slots := 0, locals := 68 } : Room) (PcG G M0 [.ref (gA G (0)), .int (i3 (x1)), .int (i3 (x2))]) (QcI G r.1 r.2) 0 0 (PA G) := by
  refine Met.ofW (cc := cX4_fillOrder) (maxL := 8) (ret := (some .int)) (by decide) rfl ?_
  intro p e s m args below meth c s₁ B hml hv0
  obtain ⟨hav, hW⟩ := hv0
  have hx := B.exec
  have hb := B.bytes
  have hr := B.returns
  have hts := atoms_spec (ws := (wb yX4_fillOrder cX4_fillOrder 8 (some .int))) B.pre
  have hown : s.vm.findClass RX4 = some m.cls := findClass_of_methodNamed B.named
  have hlocks := B.notSynchronized
  have hinX4 : ∀ w ∈ u_ws RX4 TX4 10, w ∈ (wb yX4_fillOrder cX4_fillOrder 8 (some .int)) := fun _ h => List.mem_cons_of_mem _ (inlX4 _ h)
  have hW : Wd G M0 s s.heap := hW
  have hS : va_S (PA G) s.heap s.heap [] := va_S.rf
  have hl := lv_entry [.ref (gA G (0)), .int (i3 (x1)), .int (i3 (x2))] (n := 8) (Nat.le_of_ble_eq_true rfl)
  have hent := lg_entry_eq m [.ref (gA G (0)), .int (i3 (x1)), .int (i3 (x2))] 8
  rw [← hav] at hent
  rw [hent]
  clear hent
  generalize (lg_sl [.ref (gA G (0)), .int (i3 (x1)), .int (i3 (x2))] ++ List.replicate (8 - (lg_sl [.ref (gA G (0)), .int (i3 (x1)), .int (i3 (x2))]).length) Slot.unset).toArray = ls at hl ⊢
  have hl : lv_has ls 8 [(0, .ref (gA G (0))), (1, .int (i3 (x1))), (2, .int (i3 (x2)))] := hl
  unfold fG_fillOrder at hf
  show W p l e ({ frames := 3, cells := 0, slots := 0, locals := 68 } : Room) s m args below meth c s.heap [] 0 0 (MQ below (QcI G r.1 r.2) args s 0 0 (PA G)) (F0 m 0 ls [])
  have L17 : ∀ (x1 : Int) (hx1 : inR x1) (x2 : Int) (hx2 : inR x2), ∀ (z : (Int × Int × MemG)) (q : (MemG)), loopN (fG_fillOrder_l48 x1 x2) 200 z = some q → (∀ (H : Heap) (locs : List Loc) (ls : Array Slot), Wd G (q) s H → va_S (PA G) s.heap H locs → lv_has ls 8 [(0, .ref (gA G (0))), (1, .int (i3 (x1))), (2, .int (i3 (x2)))] → W p l e ({ frames := 3, cells := 0, slots := 0, locals := 68 } : Room) s m args below meth c H locs 0 0 (MQ below (QcI G r.1 r.2) args s 0 0 (PA G)) (F0 m 110 ls [])) → (inR (z.1) → inR (z.2.1) → ∀ (H : Heap) (locs : List Loc) (ls : Array Slot), Wd G (z.2.2) s H → va_S (PA G) s.heap H locs → lv_has ls 8 [(0, .ref (gA G (0))), (1, .int (i3 (x1))), (2, .int (i3 (x2))), (4, .int (i3 (z.1))), (5, .int (i3 (z.2.1)))] → W p l e ({ frames := 3, cells := 0, slots := 0, locals := 68 } : Room) s m args below meth c H locs 0 0 (MQ below (QcI G r.1 r.2) args s 0 0 (PA G)) (F0 m 48 ls [])) := by
    intro x1 hx1 x2 hx2 z q hq hex
    refine loop_rule (fG_fillOrder_l48 x1 x2) (fun z => inR (z.1) → inR (z.2.1) → ∀ (H : Heap) (locs : List Loc) (ls : Array Slot), Wd G (z.2.2) s H → va_S (PA G) s.heap H locs → lv_has ls 8 [(0, .ref (gA G (0))), (1, .int (i3 (x1))), (2, .int (i3 (x2))), (4, .int (i3 (z.1))), (5, .int (i3 (z.2.1)))] → W p l e ({ frames := 3, cells := 0, slots := 0, locals := 68 } : Room) s m args below meth c H locs 0 0 (MQ below (QcI G r.1 r.2) args s 0 0 (PA G)) (F0 m 48 ls [])) (fun q => (∀ (H : Heap) (locs : List Loc) (ls : Array Slot), Wd G (q) s H → va_S (PA G) s.heap H locs → lv_has ls 8 [(0, .ref (gA G (0))), (1, .int (i3 (x1))), (2, .int (i3 (x2)))] → W p l e ({ frames := 3, cells := 0, slots := 0, locals := 68 } : Room) s m args below meth c H locs 0 0 (MQ below (QcI G r.1 r.2) args s 0 0 (PA G)) (F0 m 110 ls []))) ?_ 200 z q hq hex
    clear hq hex q z
    intro z x hf hK hz4 hz5 H locs ls hW hS hl
    unfold fG_fillOrder_l48 at hf
    refine lv_iload hx hb dX4_fillOrder_48 (lv_at hl 4 rfl) ?_
    refine k_bipush hx hb dX4_fillOrder_50 (by decide +kernel) ?_
    refine k_icmp_ge (tgt := 110) hx hb hz5 (show inR (32) by decide) dX4_fillOrder_52 (by decide) (fun hc8 => ?_) (fun hc8 => ?_)
    · rw [if_neg hc8] at hf
      obtain rfl := some_el hf
      exact hK  _ _ _ hW hS (lv_sub hl [0, 1, 2] rfl)
    · rw [if_pos hc8] at hf
      refine lv_iload hx hb dX4_fillOrder_55 (lv_at hl 3 rfl) ?_
      refine k_if_le (tgt := 110) hx hb hz4 dX4_fillOrder_57 (by decide) (fun hc9 => ?_) (fun hc9 => ?_)
      · rw [if_neg hc9] at hf
        obtain rfl := some_el hf
        exact hK  _ _ _ hW hS (lv_sub hl [0, 1, 2] rfl)
      · rw [if_pos hc9] at hf
        refine lv_aload_n hx hb dX4_fillOrder_60 rfl (lv_at hl 0 rfl) ?_
        refine va_get (D := G.1) (ci := 4) (v := .ref (gA G (5 + 0))) (C := RX4) (T := TX4) (N := 10) hx hb hts hinX4 hown hW.K hW.P 0 (he_G G z.2.2) rfl 0 (by decide) (hts _ (List.mem_cons_of_mem _ (inB_1 _ (List.mem_of_getElem? (i := 13) rfl)))) (fun _ h9 => h9) rfl dX4_fillOrder_61 ?_
        refine lv_iload_n hx hb dX4_fillOrder_64 rfl (lv_at hl 1 rfl) ?_
        obtain ⟨q10, hq10, hf⟩ := bind_el hf
        refine k_cVi (As := [.int (i3 (x1))]) (rest := []) ⟨hx, hb, hml, hown, hts⟩ (mW_oldestOfKind l G z.2.2 (0) (by decide) x1 hx1 q10 hq10) (cwV 1 hts (gbV (inB_13 _ (List.mem_of_getElem? (i := 1) rfl)) (inB_13 _ (List.mem_of_getElem? (i := 2) rfl)) (inB_13 _ (List.mem_of_getElem? (i := 3) rfl)) (inB_1 _ (List.mem_of_getElem? (i := 12) rfl)) (inB_13 _ (List.mem_of_getElem? (i := 4) rfl))) rfl rfl rfl (by decide +kernel) ⟨Nat.le_of_ble_eq_true rfl, Nat.le_of_ble_eq_true rfl⟩) (rv_wall (by decide) hW) hW hS rfl hl.1 rfl (lv_room (Nat.le_of_ble_eq_true rfl)) dX4_fillOrder_65 ⟨Nat.zero_le _, Nat.zero_le _⟩ (fun hv11 H locs hW hS => ?_)
        refine lv_istore (lv' := [(6, .int (i3 (q10))), (0, .ref (gA G (0))), (1, .int (i3 (x1))), (2, .int (i3 (x2))), (4, .int (i3 (z.1))), (5, .int (i3 (z.2.1)))]) hx hb dX4_fillOrder_68 hl (by decide) rfl (fun ls hl => ?_)
        refine lv_iload hx hb dX4_fillOrder_70 (lv_at hl 4 rfl) ?_
        refine lv_aload_n hx hb dX4_fillOrder_72 rfl (lv_at hl 1 rfl) ?_
        refine va_get (D := G.1) (ci := 4) (v := .ref (gA G (5 + 0))) (C := RX4) (T := TX4) (N := 10) hx hb hts hinX4 hown hW.K hW.P 0 (he_G G z.2.2) rfl 0 (by decide) (hts _ (List.mem_cons_of_mem _ (inB_1 _ (List.mem_of_getElem? (i := 13) rfl)))) (fun _ h9 => h9) rfl dX4_fillOrder_73 ?_
        refine lv_iload hx hb dX4_fillOrder_76 (lv_at hl 0 rfl) ?_
        refine k_cVi (As := [.int (i3 (q10))]) (rest := [.int (i3 (z.1))]) ⟨hx, hb, hml, hown, hts⟩ (mW_sacksIn l G z.2.2 (0) (by decide) q10 hv11 _ rfl) (cwV 1 hts (gbV (inB_5 _ (List.mem_of_getElem? (i := 7) rfl)) (inB_5 _ (List.mem_of_getElem? (i := 8) rfl)) (inB_5 _ (List.mem_of_getElem? (i := 9) rfl)) (inB_1 _ (List.mem_of_getElem? (i := 12) rfl)) (inB_5 _ (List.mem_of_getElem? (i := 10) rfl))) rfl rfl rfl (by decide +kernel) ⟨Nat.le_of_ble_eq_true rfl, Nat.le_of_ble_eq_true rfl⟩) (rv_wall (by decide) hW) hW hS rfl hl.1 rfl (lv_room (Nat.le_of_ble_eq_true rfl)) dX4_fillOrder_78 ⟨Nat.zero_le _, Nat.zero_le _⟩ (fun hv12 H locs hW hS => ?_)
        refine k_min hx hb (hml.trans hl.1.symm) hown (hts _ (List.mem_cons_of_mem _ (inB_13 _ (List.mem_of_getElem? (i := 0) rfl)))) (hts _ (List.mem_cons_of_mem _ (inB_7 _ (List.mem_of_getElem? (i := 16) rfl)))) (hts _ (List.mem_cons_of_mem _ (inB_7 _ (List.mem_of_getElem? (i := 17) rfl)))) (hts _ (List.mem_cons_of_mem _ (inB_7 _ (List.mem_of_getElem? (i := 18) rfl)))) (Nat.le_of_ble_eq_true rfl) (Nat.le_of_ble_eq_true rfl) (Nat.le_of_ble_eq_true rfl) (Nat.le_of_ble_eq_true rfl) hz4 hv12 dX4_fillOrder_81 ?_
        refine lv_istore (lv' := [(7, .int (i3 (min z.1 ((fW_sacksIn z.2.2 0 q10))))), (6, .int (i3 (q10))), (0, .ref (gA G (0))), (1, .int (i3 (x1))), (2, .int (i3 (x2))), (4, .int (i3 (z.1))), (5, .int (i3 (z.2.1)))]) hx hb dX4_fillOrder_84 hl (by decide) rfl (fun ls hl => ?_)
        refine lv_aload_n hx hb dX4_fillOrder_86 rfl (lv_at hl 2 rfl) ?_
        refine va_get (D := G.1) (ci := 4) (v := .ref (gA G (5 + 0))) (C := RX4) (T := TX4) (N := 10) hx hb hts hinX4 hown hW.K hW.P 0 (he_G G z.2.2) rfl 0 (by decide) (hts _ (List.mem_cons_of_mem _ (inB_1 _ (List.mem_of_getElem? (i := 13) rfl)))) (fun _ h9 => h9) rfl dX4_fillOrder_87 ?_
        refine lv_iload hx hb dX4_fillOrder_90 (lv_at hl 1 rfl) ?_
        refine lv_iload hx hb dX4_fillOrder_92 (lv_at hl 0 rfl) ?_
        obtain ⟨m13, hm13, hf⟩ := bind_el hf
        refine k_cVv (As := [.int (i3 (q10)), .int (i3 (min z.1 ((fW_sacksIn z.2.2 0 q10))))]) (rest := []) ⟨hx, hb, hml, hown, hts⟩ (mW_remove l G z.2.2 (0) (by decide) q10 hv11 (min z.1 ((fW_sacksIn z.2.2 0 q10))) (inR_min hz4 hv12) m13 hm13) (cwV 2 hts (gbV (inB_12 _ (List.mem_of_getElem? (i := 3) rfl)) (inB_12 _ (List.mem_of_getElem? (i := 4) rfl)) (inB_12 _ (List.mem_of_getElem? (i := 5) rfl)) (inB_1 _ (List.mem_of_getElem? (i := 12) rfl)) (inB_12 _ (List.mem_of_getElem? (i := 6) rfl))) rfl rfl rfl (by decide +kernel) ⟨Nat.le_of_ble_eq_true rfl, Nat.le_of_ble_eq_true rfl⟩) (rv_wall (by decide) hW) hW hS rfl hl.1 rfl (lv_room (Nat.le_of_ble_eq_true rfl)) dX4_fillOrder_94 ⟨Nat.zero_le _, Nat.zero_le _⟩ (fun H locs hW hS => ?_)
        refine lv_iload hx hb dX4_fillOrder_97 (lv_at hl 5 rfl) ?_
        refine lv_iload hx hb dX4_fillOrder_99 (lv_at hl 0 rfl) ?_
        refine k_sub hx hb dX4_fillOrder_101 ?_
        obtain ⟨hg15, hf⟩ := gd_el hf
        refine lv_istore (lv' := [(4, .int (i3 (z.1 - (min z.1 ((fW_sacksIn z.2.2 0 q10)))))), (7, .int (i3 (min z.1 ((fW_sacksIn z.2.2 0 q10))))), (6, .int (i3 (q10))), (0, .ref (gA G (0))), (1, .int (i3 (x1))), (2, .int (i3 (x2))), (5, .int (i3 (z.2.1)))]) hx hb dX4_fillOrder_102 hl (by decide) rfl (fun ls hl => ?_)
        obtain ⟨hg16, hf⟩ := gd_el hf
        refine k_iinc (lv' := [(5, .int (i3 (z.2.1 + 1))), (4, .int (i3 (z.1 - (min z.1 ((fW_sacksIn z.2.2 0 q10)))))), (7, .int (i3 (min z.1 ((fW_sacksIn z.2.2 0 q10))))), (6, .int (i3 (q10))), (0, .ref (gA G (0))), (1, .int (i3 (x1))), (2, .int (i3 (x2)))]) hx hb dX4_fillOrder_104 hl (k := 6) rfl (by decide) rfl (fun ls hl => ?_)
        refine lv_goto (tgt := 48) hx hb dX4_fillOrder_107 (by decide) ?_
        obtain rfl := some_el hf
        exact hK hg15 hg16 _ _ _ hW hS (lv_sub hl [4, 5, 6, 1, 0] rfl)
  refine lv_iload_n hx hb dX4_fillOrder_0 rfl (lv_at hl 1 rfl) ?_
  refine k_cSz (As := [.int (i3 (x1))]) (rest := []) ⟨hx, hb, hml, hown, hts⟩ (mG_isKind l G M0 x1 hx1 _ rfl) (va_cwS 1 hts (gbS (inB_4 _ (List.mem_of_getElem? (i := 14) rfl)) (inB_4 _ (List.mem_of_getElem? (i := 15) rfl)) (inB_1 _ (List.mem_of_getElem? (i := 2) rfl)) (inB_4 _ (List.mem_of_getElem? (i := 16) rfl))) rfl rfl rfl (by decide +kernel) ⟨Nat.le_of_ble_eq_true rfl, Nat.le_of_ble_eq_true rfl⟩) hW hS rfl hl.1 rfl (lv_room (Nat.le_of_ble_eq_true rfl)) dX4_fillOrder_1 ⟨Nat.zero_le _, Nat.zero_le _⟩ (fun hv1 H locs hW hS => ?_)
  refine k_if_eq (tgt := 18) hx hb (inR_z hv1) dX4_fillOrder_4 (by decide) (fun hc2 => ?_) (fun hc2 => ?_)
  · rw [if_pos hc2] at hf
    refine k_bipush hx hb dX4_fillOrder_18 (by decide +kernel) ?_
    obtain rfl := some_el hf
    exact k_ret hx hb hr hlocks hW hS rfl (show inR (-12) by decide) dX4_fillOrder_20
  · rw [if_neg hc2] at hf
    refine lv_iload_n hx hb dX4_fillOrder_7 rfl (lv_at hl 2 rfl) ?_
    refine k_const hx hb dX4_fillOrder_8 ?_
    refine k_sipush hx hb dX4_fillOrder_9 (by decide +kernel) ?_
    refine k_cSz (As := [.int (i3 (x2)), .int (i3 (1)), .int (i3 (999))]) (rest := []) ⟨hx, hb, hml, hown, hts⟩ (mG_isWithin l G M0 x2 hx2 1 (show inR (1) by decide) 999 (show inR (999) by decide) _ rfl) (va_cwS 3 hts (gbS (inB_4 _ (List.mem_of_getElem? (i := 11) rfl)) (inB_4 _ (List.mem_of_getElem? (i := 12) rfl)) (inB_1 _ (List.mem_of_getElem? (i := 2) rfl)) (inB_4 _ (List.mem_of_getElem? (i := 13) rfl))) rfl rfl rfl (by decide +kernel) ⟨Nat.le_of_ble_eq_true rfl, Nat.le_of_ble_eq_true rfl⟩) hW hS rfl hl.1 rfl (lv_room (Nat.le_of_ble_eq_true rfl)) dX4_fillOrder_12 ⟨Nat.zero_le _, Nat.zero_le _⟩ (fun hv3 H locs hW hS => ?_)
    refine k_if_ne (tgt := 21) hx hb (inR_z hv3) dX4_fillOrder_15 (by decide) (fun hc4 => ?_) (fun hc4 => ?_)
    · rw [if_neg hc4] at hf
      refine lv_aload_n hx hb dX4_fillOrder_21 rfl (lv_at hl 0 rfl) ?_
      refine va_get (D := G.1) (ci := 4) (v := .ref (gA G (5 + 0))) (C := RX4) (T := TX4) (N := 10) hx hb hts hinX4 hown hW.K hW.P 0 (he_G G M0) rfl 0 (by decide) (hts _ (List.mem_cons_of_mem _ (inB_1 _ (List.mem_of_getElem? (i := 13) rfl)))) (fun _ h9 => h9) rfl dX4_fillOrder_22 ?_
      refine lv_iload_n hx hb dX4_fillOrder_25 rfl (lv_at hl 1 rfl) ?_
      obtain ⟨q5, hq5, hf⟩ := bind_el hf
      refine k_cVi (As := [.int (i3 (x1))]) (rest := []) ⟨hx, hb, hml, hown, hts⟩ (mW_sacksOfKind l G M0 (0) (by decide) x1 hx1 q5 hq5) (cwV 1 hts (gbV (inB_8 _ (List.mem_of_getElem? (i := 20) rfl)) (inB_8 _ (List.mem_of_getElem? (i := 21) rfl)) (inB_8 _ (List.mem_of_getElem? (i := 22) rfl)) (inB_1 _ (List.mem_of_getElem? (i := 12) rfl)) (inB_8 _ (List.mem_of_getElem? (i := 23) rfl))) rfl rfl rfl (by decide +kernel) ⟨Nat.le_of_ble_eq_true rfl, Nat.le_of_ble_eq_true rfl⟩) (rv_wall (by decide) hW) hW hS rfl hl.1 rfl (lv_room (Nat.le_of_ble_eq_true rfl)) dX4_fillOrder_26 ⟨Nat.zero_le _, Nat.zero_le _⟩ (fun hv6 H locs hW hS => ?_)
      refine lv_istore_n (lv' := [(3, .int (i3 (q5))), (0, .ref (gA G (0))), (1, .int (i3 (x1))), (2, .int (i3 (x2)))]) hx hb dX4_fillOrder_29 rfl hl (by decide) rfl (fun ls hl => ?_)
      refine lv_iload_n hx hb dX4_fillOrder_30 rfl (lv_at hl 0 rfl) ?_
      refine lv_iload_n hx hb dX4_fillOrder_31 rfl (lv_at hl 3 rfl) ?_
      refine k_icmp_ge (tgt := 42) hx hb hv6 hx2 dX4_fillOrder_32 (by decide) (fun hc7 => ?_) (fun hc7 => ?_)
      · rw [if_neg hc7] at hf
        refine lv_iload_n hx hb dX4_fillOrder_42 rfl (lv_at hl 3 rfl) ?_
        refine lv_istore (lv' := [(4, .int (i3 (x2))), (3, .int (i3 (q5))), (0, .ref (gA G (0))), (1, .int (i3 (x1))), (2, .int (i3 (x2)))]) hx hb dX4_fillOrder_43 hl (by decide) rfl (fun ls hl => ?_)
        refine k_const hx hb dX4_fillOrder_45 ?_
        refine lv_istore (lv' := [(5, .int (i3 (0))), (4, .int (i3 (x2))), (3, .int (i3 (q5))), (0, .ref (gA G (0))), (1, .int (i3 (x1))), (2, .int (i3 (x2)))]) hx hb dX4_fillOrder_46 hl (by decide) rfl (fun ls hl => ?_)
        obtain ⟨q18, hq18, hf⟩ := bind_el hf
        refine L17 (x1) hx1 (x2) hx2 (x2, 0, M0) q18 hq18 ?_ hx2 (show inR (0) by decide) _ _ _ hW hS (lv_sub hl [3, 4, 5, 1, 0] rfl)
        intro  H locs ls hW hS hl
        refine lv_aload_n hx hb dX4_fillOrder_110 rfl (lv_at hl 0 rfl) ?_
        refine va_get (D := G.1) (ci := 4) (v := .ref (gA G (5 + 0))) (C := RX4) (T := TX4) (N := 10) hx hb hts hinX4 hown hW.K hW.P 0 (he_G G q18) rfl 0 (by decide) (hts _ (List.mem_cons_of_mem _ (inB_1 _ (List.mem_of_getElem? (i := 13) rfl)))) (fun _ h9 => h9) rfl dX4_fillOrder_111 ?_
        refine k_bipush hx hb dX4_fillOrder_114 (by decide +kernel) ?_
        refine lv_iload_n hx hb dX4_fillOrder_116 rfl (lv_at hl 2 rfl) ?_
        obtain ⟨m19, hm19, hf⟩ := bind_el hf
        refine k_cVv (As := [.int (i3 (10)), .int (i3 (x2))]) (rest := []) ⟨hx, hb, hml, hown, hts⟩ (mW_count l G q18 (0) (by decide) 10 (show inR (10) by decide) x2 hx2 m19 hm19) (cwV 2 hts (gbV (inB_5 _ (List.mem_of_getElem? (i := 19) rfl)) (inB_5 _ (List.mem_of_getElem? (i := 20) rfl)) (inB_5 _ (List.mem_of_getElem? (i := 21) rfl)) (inB_1 _ (List.mem_of_getElem? (i := 12) rfl)) (inB_5 _ (List.mem_of_getElem? (i := 22) rfl))) rfl rfl rfl (by decide +kernel) ⟨Nat.le_of_ble_eq_true rfl, Nat.le_of_ble_eq_true rfl⟩) (rv_wall (by decide) hW) hW hS rfl hl.1 rfl (lv_room (Nat.le_of_ble_eq_true rfl)) dX4_fillOrder_117 ⟨Nat.zero_le _, Nat.zero_le _⟩ (fun H locs hW hS => ?_)
        refine lv_aload_n hx hb dX4_fillOrder_120 rfl (lv_at hl 0 rfl) ?_
        refine va_get (D := G.1) (ci := 4) (v := .ref (gA G (5 + 0))) (C := RX4) (T := TX4) (N := 10) hx hb hts hinX4 hown hW.K hW.P 0 (he_G G m19) rfl 0 (by decide) (hts _ (List.mem_cons_of_mem _ (inB_1 _ (List.mem_of_getElem? (i := 13) rfl)))) (fun _ h9 => h9) rfl dX4_fillOrder_121 ?_
        refine k_const hx hb dX4_fillOrder_124 ?_
        refine lv_iload_n hx hb dX4_fillOrder_125 rfl (lv_at hl 1 rfl) ?_
        refine lv_iload_n hx hb dX4_fillOrder_126 rfl (lv_at hl 2 rfl) ?_
        obtain ⟨q21, hq21, hf⟩ := bind_el hf
        refine k_cSi (As := [.int (i3 (x1)), .int (i3 (x2))]) (rest := [.int (i3 (1)), .ref (gA G (5 + 0))]) ⟨hx, hb, hml, hown, hts⟩ (mG_coinsFor l G m19 x1 hx1 x2 hx2 q21 hq21) (va_cwS 2 hts (gbS (inB_13 _ (List.mem_of_getElem? (i := 6) rfl)) (inB_13 _ (List.mem_of_getElem? (i := 7) rfl)) (inB_1 _ (List.mem_of_getElem? (i := 2) rfl)) (inB_13 _ (List.mem_of_getElem? (i := 8) rfl))) rfl rfl rfl (by decide +kernel) ⟨Nat.le_of_ble_eq_true rfl, Nat.le_of_ble_eq_true rfl⟩) hW hS rfl hl.1 rfl (lv_room (Nat.le_of_ble_eq_true rfl)) dX4_fillOrder_127 ⟨Nat.zero_le _, Nat.zero_le _⟩ (fun hv22 H locs hW hS => ?_)
        obtain ⟨m23, hm23, hf⟩ := bind_el hf
        refine k_cVv (As := [.int (i3 (1)), .int (i3 (q21))]) (rest := []) ⟨hx, hb, hml, hown, hts⟩ (mW_count l G m19 (0) (by decide) 1 (show inR (1) by decide) q21 hv22 m23 hm23) (cwV 2 hts (gbV (inB_5 _ (List.mem_of_getElem? (i := 19) rfl)) (inB_5 _ (List.mem_of_getElem? (i := 20) rfl)) (inB_5 _ (List.mem_of_getElem? (i := 21) rfl)) (inB_1 _ (List.mem_of_getElem? (i := 12) rfl)) (inB_5 _ (List.mem_of_getElem? (i := 22) rfl))) rfl rfl rfl (by decide +kernel) ⟨Nat.le_of_ble_eq_true rfl, Nat.le_of_ble_eq_true rfl⟩) (rv_wall (by decide) hW) hW hS rfl hl.1 rfl (lv_room (Nat.le_of_ble_eq_true rfl)) dX4_fillOrder_130 ⟨Nat.zero_le _, Nat.zero_le _⟩ (fun H locs hW hS => ?_)
        refine lv_iload_n hx hb dX4_fillOrder_133 rfl (lv_at hl 1 rfl) ?_
        refine lv_iload_n hx hb dX4_fillOrder_134 rfl (lv_at hl 2 rfl) ?_
        obtain ⟨q25, hq25, hf⟩ := bind_el hf
        refine k_cSi (As := [.int (i3 (x1)), .int (i3 (x2))]) (rest := []) ⟨hx, hb, hml, hown, hts⟩ (mG_coinsFor l G m23 x1 hx1 x2 hx2 q25 hq25) (va_cwS 2 hts (gbS (inB_13 _ (List.mem_of_getElem? (i := 6) rfl)) (inB_13 _ (List.mem_of_getElem? (i := 7) rfl)) (inB_1 _ (List.mem_of_getElem? (i := 2) rfl)) (inB_13 _ (List.mem_of_getElem? (i := 8) rfl))) rfl rfl rfl (by decide +kernel) ⟨Nat.le_of_ble_eq_true rfl, Nat.le_of_ble_eq_true rfl⟩) hW hS rfl hl.1 rfl (lv_room (Nat.le_of_ble_eq_true rfl)) dX4_fillOrder_135 ⟨Nat.zero_le _, Nat.zero_le _⟩ (fun hv26 H locs hW hS => ?_)
        obtain rfl := some_el hf
        exact k_ret hx hb hr hlocks hW hS rfl hv26 dX4_fillOrder_138
      · rw [if_pos hc7] at hf
        refine lv_aload_n hx hb dX4_fillOrder_35 rfl (lv_at hl 1 rfl) ?_
        refine k_const hx hb dX4_fillOrder_36 ?_
        refine lv_iload_n hx hb dX4_fillOrder_37 rfl (lv_at hl 0 rfl) ?_
        obtain ⟨q27, hq27, hf⟩ := bind_el hf
        refine k_cVi (As := [.int (i3 (3)), .int (i3 (q5))]) (rest := []) ⟨hx, hb, hml, hown, hts⟩ (mG_refuse l G M0 3 (show inR (3) by decide) q5 hv6 q27 hq27) (cwV 2 hts (gbV (inB_5 _ (List.mem_of_getElem? (i := 15) rfl)) (inB_5 _ (List.mem_of_getElem? (i := 16) rfl)) (inB_5 _ (List.mem_of_getElem? (i := 17) rfl)) (inB_1 _ (List.mem_of_getElem? (i := 2) rfl)) (inB_5 _ (List.mem_of_getElem? (i := 18) rfl))) rfl rfl rfl (by decide +kernel) ⟨Nat.le_of_ble_eq_true rfl, Nat.le_of_ble_eq_true rfl⟩) (rv_G hW) hW hS rfl hl.1 rfl (lv_room (Nat.le_of_ble_eq_true rfl)) dX4_fillOrder_38 ⟨Nat.zero_le _, Nat.zero_le _⟩ (fun hv28 H locs hW hS => ?_)
        obtain rfl := some_el hf
        exact k_ret hx hb hr hlocks hW hS rfl hv28 dX4_fillOrder_41
    · rw [if_pos hc4] at hf
      refine k_bipush hx hb dX4_fillOrder_18 (by decide +kernel) ?_
      obtain rfl := some_el hf
      exact k_ret hx hb hr hlocks hW hS rfl (show inR (-12) by decide) dX4_fillOrder_20
set_option maxHeartbeats 4000000 in
set_option maxRecDepth 100000 in
theorem mG_order (l : Launch) (G : gG) (M0 : MemG) (x1 : Int) (hx1 : inR x1) (x2 : Int) (hx2 : inR x2) (r : MemG × Int) (hf : fG_order M0 x1 x2 = some r) : Met l yX4_order (wb yX4_order cX4_order 3 (some .int)) ({ frames := 4, cells := 0, slots := 0, locals := 95 } : Room) (PcG G M0 [.ref (gA G (0)), .int (i3 (x1)), .int (i3 (x2))]) (QcI G r.1 r.2) 0 0 (PA G) := by
  refine Met.ofW (cc := cX4_order) (maxL := 3) (ret := (some .int)) (by decide) rfl ?_
  intro p e s m args below meth c s₁ B hml hv0
  obtain ⟨hav, hW⟩ := hv0
  have hx := B.exec
  have hb := B.bytes
  have hr := B.returns
  have hts := atoms_spec (ws := (wb yX4_order cX4_order 3 (some .int))) B.pre
  have hown : s.vm.findClass RX4 = some m.cls := findClass_of_methodNamed B.named
  have hlocks := B.notSynchronized
  have hinX4 : ∀ w ∈ u_ws RX4 TX4 10, w ∈ (wb yX4_order cX4_order 3 (some .int)) := fun _ h => List.mem_cons_of_mem _ (inlX4 _ h)
  have hW : Wd G M0 s s.heap := hW
  have hS : va_S (PA G) s.heap s.heap [] := va_S.rf
  have hl := lv_entry [.ref (gA G (0)), .int (i3 (x1)), .int (i3 (x2))] (n := 3) (Nat.le_of_ble_eq_true rfl)
  have hent := lg_entry_eq m [.ref (gA G (0)), .int (i3 (x1)), .int (i3 (x2))] 3
  rw [← hav] at hent
  rw [hent]
  clear hent
  generalize (lg_sl [.ref (gA G (0)), .int (i3 (x1)), .int (i3 (x2))] ++ List.replicate (3 - (lg_sl [.ref (gA G (0)), .int (i3 (x1)), .int (i3 (x2))]).length) Slot.unset).toArray = ls at hl ⊢
  have hl : lv_has ls 3 [(0, .ref (gA G (0))), (1, .int (i3 (x1))), (2, .int (i3 (x2)))] := hl
  unfold fG_order at hf
  show W p l e ({ frames := 4, cells := 0, slots := 0, locals := 95 } : Room) s m args below meth c s.heap [] 0 0 (MQ below (QcI G r.1 r.2) args s 0 0 (PA G)) (F0 m 0 ls [])
  refine lv_aload_n hx hb dX4_order_0 rfl (lv_at hl 0 rfl) ?_
  refine va_get (D := G.1) (ci := 4) (v := .ref (gA G (5 + 1))) (C := RX4) (T := TX4) (N := 10) hx hb hts hinX4 hown hW.K hW.P 0 (he_G G M0) rfl 1 (by decide) (hts _ (List.mem_cons_of_mem _ (inB_1 _ (List.mem_of_getElem? (i := 14) rfl)))) (fun _ h9 => h9) rfl dX4_order_1 ?_
  refine lv_aload_n hx hb dX4_order_4 rfl (lv_at hl 0 rfl) ?_
  refine va_get (D := G.1) (ci := 4) (v := .ref (gA G (5 + 0))) (C := RX4) (T := TX4) (N := 10) hx hb hts hinX4 hown hW.K hW.P 0 (he_G G M0) rfl 0 (by decide) (hts _ (List.mem_cons_of_mem _ (inB_1 _ (List.mem_of_getElem? (i := 13) rfl)))) (fun _ h9 => h9) rfl dX4_order_5 ?_
  obtain ⟨m1, hm1, hf⟩ := bind_el hf
  refine k_cVv (As := [.ref (gA G (5 + 0))]) (rest := []) ⟨hx, hb, hml, hown, hts⟩ (mW_copyFrom l G M0 (1) (by decide) (0) (by decide) m1 hm1) (cwV 1 hts (gbV (inB_3 _ (List.mem_of_getElem? (i := 22) rfl)) (inB_3 _ (List.mem_of_getElem? (i := 23) rfl)) (inB_4 _ (List.mem_of_getElem? (i := 0) rfl)) (inB_1 _ (List.mem_of_getElem? (i := 12) rfl)) (inB_4 _ (List.mem_of_getElem? (i := 1) rfl))) rfl rfl rfl (by decide +kernel) ⟨Nat.le_of_ble_eq_true rfl, Nat.le_of_ble_eq_true rfl⟩) (rv_wall (by decide) hW) hW hS rfl hl.1 rfl (lv_room (Nat.le_of_ble_eq_true rfl)) dX4_order_8 ⟨Nat.zero_le _, Nat.zero_le _⟩ (fun H locs hW hS => ?_)
  refine lv_aload_n hx hb dX4_order_11 rfl (lv_at hl 0 rfl) ?_
  refine lv_aload_n hx hb dX4_order_12 rfl (lv_at hl 0 rfl) ?_
  refine lv_iload_n hx hb dX4_order_13 rfl (lv_at hl 1 rfl) ?_
  refine lv_iload_n hx hb dX4_order_14 rfl (lv_at hl 2 rfl) ?_
  obtain ⟨q3, hq3, hf⟩ := bind_el hf
  refine k_cVi (As := [.int (i3 (x1)), .int (i3 (x2))]) (rest := [.ref (gA G (0))]) ⟨hx, hb, hml, hown, hts⟩ (mG_fillOrder l G m1 x1 hx1 x2 hx2 q3 hq3) (cwV 2 hts (gbV (inB_12 _ (List.mem_of_getElem? (i := 20) rfl)) (inB_12 _ (List.mem_of_getElem? (i := 21) rfl)) (inB_12 _ (List.mem_of_getElem? (i := 22) rfl)) (inB_1 _ (List.mem_of_getElem? (i := 2) rfl)) (inB_12 _ (List.mem_of_getElem? (i := 23) rfl))) rfl rfl rfl (by decide +kernel) ⟨Nat.le_of_ble_eq_true rfl, Nat.le_of_ble_eq_true rfl⟩) (rv_G hW) hW hS rfl hl.1 rfl (lv_room (Nat.le_of_ble_eq_true rfl)) dX4_order_15 ⟨Nat.zero_le _, Nat.zero_le _⟩ (fun hv4 H locs hW hS => ?_)
  obtain ⟨q5, hq5, hf⟩ := bind_el hf
  refine k_cVi (As := [.int (i3 (q3.2))]) (rest := []) ⟨hx, hb, hml, hown, hts⟩ (mG_remember l G q3.1 q3.2 hv4 q5 hq5) (cwV 1 hts (gbV (inB_7 _ (List.mem_of_getElem? (i := 7) rfl)) (inB_7 _ (List.mem_of_getElem? (i := 8) rfl)) (inB_7 _ (List.mem_of_getElem? (i := 9) rfl)) (inB_1 _ (List.mem_of_getElem? (i := 2) rfl)) (inB_7 _ (List.mem_of_getElem? (i := 10) rfl))) rfl rfl rfl (by decide +kernel) ⟨Nat.le_of_ble_eq_true rfl, Nat.le_of_ble_eq_true rfl⟩) (rv_G hW) hW hS rfl hl.1 rfl (lv_room (Nat.le_of_ble_eq_true rfl)) dX4_order_18 ⟨Nat.zero_le _, Nat.zero_le _⟩ (fun hv6 H locs hW hS => ?_)
  obtain rfl := some_el hf
  exact k_ret hx hb hr hlocks hW hS rfl hv6 dX4_order_21
set_option maxHeartbeats 4000000 in
set_option maxRecDepth 100000 in
theorem mG_letWeeksPass (l : Launch) (G : gG) (M0 : MemG) (x1 : Int) (hx1 : inR x1) (r : MemG × Int) (hf : fG_letWeeksPass M0 x1 = some r) : Met l yX4_letWeeksPass (wb yX4_letWeeksPass cX4_letWeeksPass 4 (some .int)) ({ frames := 4, cells := 0, slots := 0, locals := 91 } : Room) (PcG G M0 [.ref (gA G (0)), .int (i3 (x1))]) (QcI G r.1 r.2) 0 0 (PA G) := by
  refine Met.ofW (cc := cX4_letWeeksPass) (maxL := 4) (ret := (some .int)) (by decide) rfl ?_
  intro p e s m args below meth c s₁ B hml hv0
  obtain ⟨hav, hW⟩ := hv0
  have hx := B.exec
  have hb := B.bytes
  have hr := B.returns
  have hts := atoms_spec (ws := (wb yX4_letWeeksPass cX4_letWeeksPass 4 (some .int))) B.pre
  have hown : s.vm.findClass RX4 = some m.cls := findClass_of_methodNamed B.named
  have hlocks := B.notSynchronized
  have hinX4 : ∀ w ∈ u_ws RX4 TX4 10, w ∈ (wb yX4_letWeeksPass cX4_letWeeksPass 4 (some .int)) := fun _ h => List.mem_cons_of_mem _ (inlX4 _ h)
  have hW : Wd G M0 s s.heap := hW
  have hS : va_S (PA G) s.heap s.heap [] := va_S.rf
  have hl := lv_entry [.ref (gA G (0)), .int (i3 (x1))] (n := 4) (Nat.le_of_ble_eq_true rfl)
  have hent := lg_entry_eq m [.ref (gA G (0)), .int (i3 (x1))] 4
  rw [← hav] at hent
  rw [hent]
  clear hent
  generalize (lg_sl [.ref (gA G (0)), .int (i3 (x1))] ++ List.replicate (4 - (lg_sl [.ref (gA G (0)), .int (i3 (x1))]).length) Slot.unset).toArray = ls at hl ⊢
  have hl : lv_has ls 4 [(0, .ref (gA G (0))), (1, .int (i3 (x1)))] := hl
  unfold fG_letWeeksPass at hf
  show W p l e ({ frames := 4, cells := 0, slots := 0, locals := 91 } : Room) s m args below meth c s.heap [] 0 0 (MQ below (QcI G r.1 r.2) args s 0 0 (PA G)) (F0 m 0 ls [])
  have L8 : ∀ (x1 : Int) (hx1 : inR x1), ∀ (z : (Int × Int × MemG)) (q : (Int × MemG)), loopN (fG_letWeeksPass_l17 x1) 200 z = some q → (inR (q.1) → ∀ (H : Heap) (locs : List Loc) (ls : Array Slot), Wd G (q.2) s H → va_S (PA G) s.heap H locs → lv_has ls 4 [(0, .ref (gA G (0))), (1, .int (i3 (x1))), (2, .int (i3 (q.1)))] → W p l e ({ frames := 4, cells := 0, slots := 0, locals := 91 } : Room) s m args below meth c H locs 0 0 (MQ below (QcI G r.1 r.2) args s 0 0 (PA G)) (F0 m 38 ls [])) → (inR (z.1) → inR (z.2.1) → ∀ (H : Heap) (locs : List Loc) (ls : Array Slot), Wd G (z.2.2) s H → va_S (PA G) s.heap H locs → lv_has ls 4 [(0, .ref (gA G (0))), (1, .int (i3 (x1))), (2, .int (i3 (z.1))), (3, .int (i3 (z.2.1)))] → W p l e ({ frames := 4, cells := 0, slots := 0, locals := 91 } : Room) s m args below meth c H locs 0 0 (MQ below (QcI G r.1 r.2) args s 0 0 (PA G)) (F0 m 17 ls [])) := by
    intro x1 hx1 z q hq hex
    refine loop_rule (fG_letWeeksPass_l17 x1) (fun z => inR (z.1) → inR (z.2.1) → ∀ (H : Heap) (locs : List Loc) (ls : Array Slot), Wd G (z.2.2) s H → va_S (PA G) s.heap H locs → lv_has ls 4 [(0, .ref (gA G (0))), (1, .int (i3 (x1))), (2, .int (i3 (z.1))), (3, .int (i3 (z.2.1)))] → W p l e ({ frames := 4, cells := 0, slots := 0, locals := 91 } : Room) s m args below meth c H locs 0 0 (MQ below (QcI G r.1 r.2) args s 0 0 (PA G)) (F0 m 17 ls [])) (fun q => (inR (q.1) → ∀ (H : Heap) (locs : List Loc) (ls : Array Slot), Wd G (q.2) s H → va_S (PA G) s.heap H locs → lv_has ls 4 [(0, .ref (gA G (0))), (1, .int (i3 (x1))), (2, .int (i3 (q.1)))] → W p l e ({ frames := 4, cells := 0, slots := 0, locals := 91 } : Room) s m args below meth c H locs 0 0 (MQ below (QcI G r.1 r.2) args s 0 0 (PA G)) (F0 m 38 ls []))) ?_ 200 z q hq hex
    clear hq hex q z
    intro z x hf hK hz2 hz3 H locs ls hW hS hl
    unfold fG_letWeeksPass_l17 at hf
    refine lv_iload_n hx hb dX4_letWeeksPass_17 rfl (lv_at hl 3 rfl) ?_
    refine lv_iload_n hx hb dX4_letWeeksPass_18 rfl (lv_at hl 1 rfl) ?_
    refine k_icmp_ge (tgt := 38) hx hb hz3 hx1 dX4_letWeeksPass_19 (by decide) (fun hc3 => ?_) (fun hc3 => ?_)
    · rw [if_neg hc3] at hf
      obtain rfl := some_el hf
      exact hK hz2 _ _ _ hW hS (lv_sub hl [0, 1, 2] rfl)
    · rw [if_pos hc3] at hf
      refine lv_iload_n hx hb dX4_letWeeksPass_22 rfl (lv_at hl 2 rfl) ?_
      refine lv_aload_n hx hb dX4_letWeeksPass_23 rfl (lv_at hl 0 rfl) ?_
      refine va_get (D := G.1) (ci := 4) (v := .ref (gA G (5 + 0))) (C := RX4) (T := TX4) (N := 10) hx hb hts hinX4 hown hW.K hW.P 0 (he_G G z.2.2) rfl 0 (by decide) (hts _ (List.mem_cons_of_mem _ (inB_1 _ (List.mem_of_getElem? (i := 13) rfl)))) (fun _ h9 => h9) rfl dX4_letWeeksPass_24 ?_
      obtain ⟨q4, hq4, hf⟩ := bind_el hf
      refine k_cVi (As := []) (rest := [.int (i3 (z.1))]) ⟨hx, hb, hml, hown, hts⟩ (mW_growOlder l G z.2.2 (0) (by decide) q4 hq4) (cwV 0 hts (gbV (inB_14 _ (List.mem_of_getElem? (i := 5) rfl)) (inB_14 _ (List.mem_of_getElem? (i := 6) rfl)) (inB_14 _ (List.mem_of_getElem? (i := 7) rfl)) (inB_1 _ (List.mem_of_getElem? (i := 12) rfl)) (inB_14 _ (List.mem_of_getElem? (i := 8) rfl))) rfl rfl rfl (by decide +kernel) ⟨Nat.le_of_ble_eq_true rfl, Nat.le_of_ble_eq_true rfl⟩) (rv_wall (by decide) hW) hW hS rfl hl.1 rfl (lv_room (Nat.le_of_ble_eq_true rfl)) dX4_letWeeksPass_27 ⟨Nat.zero_le _, Nat.zero_le _⟩ (fun hv5 H locs hW hS => ?_)
      refine k_add hx hb dX4_letWeeksPass_30 ?_
      obtain ⟨hg6, hf⟩ := gd_el hf
      refine lv_istore_n (lv' := [(2, .int (i3 (z.1 + q4.2))), (0, .ref (gA G (0))), (1, .int (i3 (x1))), (3, .int (i3 (z.2.1)))]) hx hb dX4_letWeeksPass_31 rfl hl (by decide) rfl (fun ls hl => ?_)
      obtain ⟨hg7, hf⟩ := gd_el hf
      refine k_iinc (lv' := [(3, .int (i3 (z.2.1 + 1))), (2, .int (i3 (z.1 + q4.2))), (0, .ref (gA G (0))), (1, .int (i3 (x1)))]) hx hb dX4_letWeeksPass_32 hl (k := 3) rfl (by decide) rfl (fun ls hl => ?_)
      refine lv_goto (tgt := 17) hx hb dX4_letWeeksPass_35 (by decide) ?_
      obtain rfl := some_el hf
      exact hK hg6 hg7 _ _ _ hW hS (lv_sub hl [2, 3, 1, 0] rfl)
  refine lv_iload_n hx hb dX4_letWeeksPass_0 rfl (lv_at hl 1 rfl) ?_
  refine k_const hx hb dX4_letWeeksPass_1 ?_
  refine k_bipush hx hb dX4_letWeeksPass_2 (by decide +kernel) ?_
  refine k_cSz (As := [.int (i3 (x1)), .int (i3 (1)), .int (i3 (52))]) (rest := []) ⟨hx, hb, hml, hown, hts⟩ (mG_isWithin l G M0 x1 hx1 1 (show inR (1) by decide) 52 (show inR (52) by decide) _ rfl) (va_cwS 3 hts (gbS (inB_4 _ (List.mem_of_getElem? (i := 11) rfl)) (inB_4 _ (List.mem_of_getElem? (i := 12) rfl)) (inB_1 _ (List.mem_of_getElem? (i := 2) rfl)) (inB_4 _ (List.mem_of_getElem? (i := 13) rfl))) rfl rfl rfl (by decide +kernel) ⟨Nat.le_of_ble_eq_true rfl, Nat.le_of_ble_eq_true rfl⟩) hW hS rfl hl.1 rfl (lv_room (Nat.le_of_ble_eq_true rfl)) dX4_letWeeksPass_4 ⟨Nat.zero_le _, Nat.zero_le _⟩ (fun hv1 H locs hW hS => ?_)
  refine k_if_ne (tgt := 13) hx hb (inR_z hv1) dX4_letWeeksPass_7 (by decide) (fun hc2 => ?_) (fun hc2 => ?_)
  · rw [if_neg hc2] at hf
    refine k_const hx hb dX4_letWeeksPass_13 ?_
    refine lv_istore_n (lv' := [(2, .int (i3 (0))), (0, .ref (gA G (0))), (1, .int (i3 (x1)))]) hx hb dX4_letWeeksPass_14 rfl hl (by decide) rfl (fun ls hl => ?_)
    refine k_const hx hb dX4_letWeeksPass_15 ?_
    refine lv_istore_n (lv' := [(3, .int (i3 (0))), (2, .int (i3 (0))), (0, .ref (gA G (0))), (1, .int (i3 (x1)))]) hx hb dX4_letWeeksPass_16 rfl hl (by decide) rfl (fun ls hl => ?_)
    obtain ⟨q9, hq9, hf⟩ := bind_el hf
    refine L8 (x1) hx1 (0, 0, M0) q9 hq9 ?_ (show inR (0) by decide) (show inR (0) by decide) _ _ _ hW hS (lv_sub hl [2, 3, 1, 0] rfl)
    intro hv10 H locs ls hW hS hl
    refine lv_aload_n hx hb dX4_letWeeksPass_38 rfl (lv_at hl 0 rfl) ?_
    refine va_get (D := G.1) (ci := 4) (v := .ref (gA G (5 + 0))) (C := RX4) (T := TX4) (N := 10) hx hb hts hinX4 hown hW.K hW.P 0 (he_G G q9.2) rfl 0 (by decide) (hts _ (List.mem_cons_of_mem _ (inB_1 _ (List.mem_of_getElem? (i := 13) rfl)))) (fun _ h9 => h9) rfl dX4_letWeeksPass_39 ?_
    refine k_const hx hb dX4_letWeeksPass_42 ?_
    refine lv_iload_n hx hb dX4_letWeeksPass_43 rfl (lv_at hl 1 rfl) ?_
    obtain ⟨m11, hm11, hf⟩ := bind_el hf
    refine k_cVv (As := [.int (i3 (0)), .int (i3 (x1))]) (rest := []) ⟨hx, hb, hml, hown, hts⟩ (mW_count l G q9.2 (0) (by decide) 0 (show inR (0) by decide) x1 hx1 m11 hm11) (cwV 2 hts (gbV (inB_5 _ (List.mem_of_getElem? (i := 19) rfl)) (inB_5 _ (List.mem_of_getElem? (i := 20) rfl)) (inB_5 _ (List.mem_of_getElem? (i := 21) rfl)) (inB_1 _ (List.mem_of_getElem? (i := 12) rfl)) (inB_5 _ (List.mem_of_getElem? (i := 22) rfl))) rfl rfl rfl (by decide +kernel) ⟨Nat.le_of_ble_eq_true rfl, Nat.le_of_ble_eq_true rfl⟩) (rv_wall (by decide) hW) hW hS rfl hl.1 rfl (lv_room (Nat.le_of_ble_eq_true rfl)) dX4_letWeeksPass_44 ⟨Nat.zero_le _, Nat.zero_le _⟩ (fun H locs hW hS => ?_)
    refine lv_aload_n hx hb dX4_letWeeksPass_47 rfl (lv_at hl 0 rfl) ?_
    refine va_get (D := G.1) (ci := 4) (v := .ref (gA G (5 + 0))) (C := RX4) (T := TX4) (N := 10) hx hb hts hinX4 hown hW.K hW.P 0 (he_G G m11) rfl 0 (by decide) (hts _ (List.mem_cons_of_mem _ (inB_1 _ (List.mem_of_getElem? (i := 13) rfl)))) (fun _ h9 => h9) rfl dX4_letWeeksPass_48 ?_
    refine k_bipush hx hb dX4_letWeeksPass_51 (by decide +kernel) ?_
    refine lv_iload_n hx hb dX4_letWeeksPass_53 rfl (lv_at hl 2 rfl) ?_
    obtain ⟨m13, hm13, hf⟩ := bind_el hf
    refine k_cVv (As := [.int (i3 (11)), .int (i3 (q9.1))]) (rest := []) ⟨hx, hb, hml, hown, hts⟩ (mW_count l G m11 (0) (by decide) 11 (show inR (11) by decide) q9.1 hv10 m13 hm13) (cwV 2 hts (gbV (inB_5 _ (List.mem_of_getElem? (i := 19) rfl)) (inB_5 _ (List.mem_of_getElem? (i := 20) rfl)) (inB_5 _ (List.mem_of_getElem? (i := 21) rfl)) (inB_1 _ (List.mem_of_getElem? (i := 12) rfl)) (inB_5 _ (List.mem_of_getElem? (i := 22) rfl))) rfl rfl rfl (by decide +kernel) ⟨Nat.le_of_ble_eq_true rfl, Nat.le_of_ble_eq_true rfl⟩) (rv_wall (by decide) hW) hW hS rfl hl.1 rfl (lv_room (Nat.le_of_ble_eq_true rfl)) dX4_letWeeksPass_54 ⟨Nat.zero_le _, Nat.zero_le _⟩ (fun H locs hW hS => ?_)
    refine lv_iload_n hx hb dX4_letWeeksPass_57 rfl (lv_at hl 2 rfl) ?_
    obtain rfl := some_el hf
    exact k_ret hx hb hr hlocks hW hS rfl hv10 dX4_letWeeksPass_58
  · rw [if_pos hc2] at hf
    refine k_bipush hx hb dX4_letWeeksPass_10 (by decide +kernel) ?_
    obtain rfl := some_el hf
    exact k_ret hx hb hr hlocks hW hS rfl (show inR (-12) by decide) dX4_letWeeksPass_12
set_option maxHeartbeats 4000000 in
set_option maxRecDepth 100000 in
theorem mG_pass (l : Launch) (G : gG) (M0 : MemG) (x1 : Int) (hx1 : inR x1) (r : MemG × Int) (hf : fG_pass M0 x1 = some r) : Met l yX4_pass (wb yX4_pass cX4_pass 2 (some .int)) ({ frames := 5, cells := 0, slots := 0, locals := 114 } : Room) (PcG G M0 [.ref (gA G (0)), .int (i3 (x1))]) (QcI G r.1 r.2) 0 0 (PA G) := by
  refine Met.ofW (cc := cX4_pass) (maxL := 2) (ret := (some .int)) (by decide) rfl ?_
  intro p e s m args below meth c s₁ B hml hv0
  obtain ⟨hav, hW⟩ := hv0
  have hx := B.exec
  have hb := B.bytes
  have hr := B.returns
  have hts := atoms_spec (ws := (wb yX4_pass cX4_pass 2 (some .int))) B.pre
  have hown : s.vm.findClass RX4 = some m.cls := findClass_of_methodNamed B.named
  have hlocks := B.notSynchronized
  have hinX4 : ∀ w ∈ u_ws RX4 TX4 10, w ∈ (wb yX4_pass cX4_pass 2 (some .int)) := fun _ h => List.mem_cons_of_mem _ (inlX4 _ h)
  have hW : Wd G M0 s s.heap := hW
  have hS : va_S (PA G) s.heap s.heap [] := va_S.rf
  have hl := lv_entry [.ref (gA G (0)), .int (i3 (x1))] (n := 2) (Nat.le_of_ble_eq_true rfl)
  have hent := lg_entry_eq m [.ref (gA G (0)), .int (i3 (x1))] 2
  rw [← hav] at hent
  rw [hent]
  clear hent
  generalize (lg_sl [.ref (gA G (0)), .int (i3 (x1))] ++ List.replicate (2 - (lg_sl [.ref (gA G (0)), .int (i3 (x1))]).length) Slot.unset).toArray = ls at hl ⊢
  have hl : lv_has ls 2 [(0, .ref (gA G (0))), (1, .int (i3 (x1)))] := hl
  unfold fG_pass at hf
  show W p l e ({ frames := 5, cells := 0, slots := 0, locals := 114 } : Room) s m args below meth c s.heap [] 0 0 (MQ below (QcI G r.1 r.2) args s 0 0 (PA G)) (F0 m 0 ls [])
  refine lv_aload_n hx hb dX4_pass_0 rfl (lv_at hl 0 rfl) ?_
  refine va_get (D := G.1) (ci := 4) (v := .ref (gA G (5 + 1))) (C := RX4) (T := TX4) (N := 10) hx hb hts hinX4 hown hW.K hW.P 0 (he_G G M0) rfl 1 (by decide) (hts _ (List.mem_cons_of_mem _ (inB_1 _ (List.mem_of_getElem? (i := 14) rfl)))) (fun _ h9 => h9) rfl dX4_pass_1 ?_
  refine lv_aload_n hx hb dX4_pass_4 rfl (lv_at hl 0 rfl) ?_
  refine va_get (D := G.1) (ci := 4) (v := .ref (gA G (5 + 0))) (C := RX4) (T := TX4) (N := 10) hx hb hts hinX4 hown hW.K hW.P 0 (he_G G M0) rfl 0 (by decide) (hts _ (List.mem_cons_of_mem _ (inB_1 _ (List.mem_of_getElem? (i := 13) rfl)))) (fun _ h9 => h9) rfl dX4_pass_5 ?_
  obtain ⟨m1, hm1, hf⟩ := bind_el hf
  refine k_cVv (As := [.ref (gA G (5 + 0))]) (rest := []) ⟨hx, hb, hml, hown, hts⟩ (mW_copyFrom l G M0 (1) (by decide) (0) (by decide) m1 hm1) (cwV 1 hts (gbV (inB_3 _ (List.mem_of_getElem? (i := 22) rfl)) (inB_3 _ (List.mem_of_getElem? (i := 23) rfl)) (inB_4 _ (List.mem_of_getElem? (i := 0) rfl)) (inB_1 _ (List.mem_of_getElem? (i := 12) rfl)) (inB_4 _ (List.mem_of_getElem? (i := 1) rfl))) rfl rfl rfl (by decide +kernel) ⟨Nat.le_of_ble_eq_true rfl, Nat.le_of_ble_eq_true rfl⟩) (rv_wall (by decide) hW) hW hS rfl hl.1 rfl (lv_room (Nat.le_of_ble_eq_true rfl)) dX4_pass_8 ⟨Nat.zero_le _, Nat.zero_le _⟩ (fun H locs hW hS => ?_)
  refine lv_aload_n hx hb dX4_pass_11 rfl (lv_at hl 0 rfl) ?_
  refine lv_aload_n hx hb dX4_pass_12 rfl (lv_at hl 0 rfl) ?_
  refine lv_iload_n hx hb dX4_pass_13 rfl (lv_at hl 1 rfl) ?_
  obtain ⟨q3, hq3, hf⟩ := bind_el hf
  refine k_cVi (As := [.int (i3 (x1))]) (rest := [.ref (gA G (0))]) ⟨hx, hb, hml, hown, hts⟩ (mG_letWeeksPass l G m1 x1 hx1 q3 hq3) (cwV 1 hts (gbV (inB_14 _ (List.mem_of_getElem? (i := 1) rfl)) (inB_14 _ (List.mem_of_getElem? (i := 2) rfl)) (inB_14 _ (List.mem_of_getElem? (i := 3) rfl)) (inB_1 _ (List.mem_of_getElem? (i := 2) rfl)) (inB_14 _ (List.mem_of_getElem? (i := 4) rfl))) rfl rfl rfl (by decide +kernel) ⟨Nat.le_of_ble_eq_true rfl, Nat.le_of_ble_eq_true rfl⟩) (rv_G hW) hW hS rfl hl.1 rfl (lv_room (Nat.le_of_ble_eq_true rfl)) dX4_pass_14 ⟨Nat.zero_le _, Nat.zero_le _⟩ (fun hv4 H locs hW hS => ?_)
  obtain ⟨q5, hq5, hf⟩ := bind_el hf
  refine k_cVi (As := [.int (i3 (q3.2))]) (rest := []) ⟨hx, hb, hml, hown, hts⟩ (mG_remember l G q3.1 q3.2 hv4 q5 hq5) (cwV 1 hts (gbV (inB_7 _ (List.mem_of_getElem? (i := 7) rfl)) (inB_7 _ (List.mem_of_getElem? (i := 8) rfl)) (inB_7 _ (List.mem_of_getElem? (i := 9) rfl)) (inB_1 _ (List.mem_of_getElem? (i := 2) rfl)) (inB_7 _ (List.mem_of_getElem? (i := 10) rfl))) rfl rfl rfl (by decide +kernel) ⟨Nat.le_of_ble_eq_true rfl, Nat.le_of_ble_eq_true rfl⟩) (rv_G hW) hW hS rfl hl.1 rfl (lv_room (Nat.le_of_ble_eq_true rfl)) dX4_pass_17 ⟨Nat.zero_le _, Nat.zero_le _⟩ (fun hv6 H locs hW hS => ?_)
  obtain rfl := some_el hf
  exact k_ret hx hb hr hlocks hW hS rfl hv6 dX4_pass_20
set_option maxHeartbeats 4000000 in
set_option maxRecDepth 100000 in
theorem mG_restore (l : Launch) (G : gG) (M0 : MemG)  (r : MemG × Int) (hf : fG_restore M0 = some r) : Met l yX4_restore (wb yX4_restore cX4_restore 1 (some .int)) ({ frames := 4, cells := 0, slots := 0, locals := 86 } : Room) (PcG G M0 [.ref (gA G (0))]) (QcI G r.1 r.2) 0 0 (PA G) := by
  refine Met.ofW (cc := cX4_restore) (maxL := 1) (ret := (some .int)) (by decide) rfl ?_
  intro p e s m args below meth c s₁ B hml hv0
  obtain ⟨hav, hW⟩ := hv0
  have hx := B.exec
  have hb := B.bytes
  have hr := B.returns
  have hts := atoms_spec (ws := (wb yX4_restore cX4_restore 1 (some .int))) B.pre
  have hown : s.vm.findClass RX4 = some m.cls := findClass_of_methodNamed B.named
  have hlocks := B.notSynchronized
  have hinX4 : ∀ w ∈ u_ws RX4 TX4 10, w ∈ (wb yX4_restore cX4_restore 1 (some .int)) := fun _ h => List.mem_cons_of_mem _ (inlX4 _ h)
  have hW : Wd G M0 s s.heap := hW
  have hS : va_S (PA G) s.heap s.heap [] := va_S.rf
  have hl := lv_entry [.ref (gA G (0))] (n := 1) (Nat.le_of_ble_eq_true rfl)
  have hent := lg_entry_eq m [.ref (gA G (0))] 1
  rw [← hav] at hent
  rw [hent]
  clear hent
  generalize (lg_sl [.ref (gA G (0))] ++ List.replicate (1 - (lg_sl [.ref (gA G (0))]).length) Slot.unset).toArray = ls at hl ⊢
  have hl : lv_has ls 1 [(0, .ref (gA G (0)))] := hl
  unfold fG_restore at hf
  show W p l e ({ frames := 4, cells := 0, slots := 0, locals := 86 } : Room) s m args below meth c s.heap [] 0 0 (MQ below (QcI G r.1 r.2) args s 0 0 (PA G)) (F0 m 0 ls [])
  refine lv_aload_n hx hb dX4_restore_0 rfl (lv_at hl 0 rfl) ?_
  refine va_get (D := G.1) (ci := 4) (v := .int (i3 (M0 0 3))) (C := RX4) (T := TX4) (N := 10) hx hb hts hinX4 hown hW.K hW.P 0 (he_G G M0) rfl 3 (by decide) (hts _ (List.mem_cons_of_mem _ (inB_1 _ (List.mem_of_getElem? (i := 16) rfl)))) (fun _ h9 => h9) rfl dX4_restore_1 ?_
  refine k_if_ne (tgt := 10) hx hb (hW.R 0 3) dX4_restore_4 (by decide) (fun hc1 => ?_) (fun hc1 => ?_)
  · rw [if_neg hc1] at hf
    refine lv_aload_n hx hb dX4_restore_10 rfl (lv_at hl 0 rfl) ?_
    refine va_get (D := G.1) (ci := 4) (v := .ref (gA G (5 + 0))) (C := RX4) (T := TX4) (N := 10) hx hb hts hinX4 hown hW.K hW.P 0 (he_G G M0) rfl 0 (by decide) (hts _ (List.mem_cons_of_mem _ (inB_1 _ (List.mem_of_getElem? (i := 13) rfl)))) (fun _ h9 => h9) rfl dX4_restore_11 ?_
    refine lv_aload_n hx hb dX4_restore_14 rfl (lv_at hl 0 rfl) ?_
    refine va_get (D := G.1) (ci := 4) (v := .ref (gA G (5 + 2))) (C := RX4) (T := TX4) (N := 10) hx hb hts hinX4 hown hW.K hW.P 0 (he_G G M0) rfl 2 (by decide) (hts _ (List.mem_cons_of_mem _ (inB_1 _ (List.mem_of_getElem? (i := 15) rfl)))) (fun _ h9 => h9) rfl dX4_restore_15 ?_
    obtain ⟨m2, hm2, hf⟩ := bind_el hf
    refine k_cVv (As := [.ref (gA G (5 + 2))]) (rest := []) ⟨hx, hb, hml, hown, hts⟩ (mW_copyFrom l G M0 (0) (by decide) (2) (by decide) m2 hm2) (cwV 1 hts (gbV (inB_3 _ (List.mem_of_getElem? (i := 22) rfl)) (inB_3 _ (List.mem_of_getElem? (i := 23) rfl)) (inB_4 _ (List.mem_of_getElem? (i := 0) rfl)) (inB_1 _ (List.mem_of_getElem? (i := 12) rfl)) (inB_4 _ (List.mem_of_getElem? (i := 1) rfl))) rfl rfl rfl (by decide +kernel) ⟨Nat.le_of_ble_eq_true rfl, Nat.le_of_ble_eq_true rfl⟩) (rv_wall (by decide) hW) hW hS rfl hl.1 rfl (lv_room (Nat.le_of_ble_eq_true rfl)) dX4_restore_18 ⟨Nat.zero_le _, Nat.zero_le _⟩ (fun H locs hW hS => ?_)
    refine lv_aload_n hx hb dX4_restore_21 rfl (lv_at hl 0 rfl) ?_
    refine va_get (D := G.1) (ci := 4) (v := .ref (gA G (1))) (C := RX4) (T := TX4) (N := 10) hx hb hts hinX4 hown hW.K hW.P 0 (he_G G m2) rfl 4 (by decide) (hts _ (List.mem_cons_of_mem _ (inB_1 _ (List.mem_of_getElem? (i := 20) rfl)))) (fun _ h9 => h9) rfl dX4_restore_22 ?_
    obtain ⟨m4, hm4, hf⟩ := bind_el hf
    refine k_cVv (As := []) (rest := []) ⟨hx, hb, hml, hown, hts⟩ (mP_forget l G m2 m4 hm4) (cwV 0 hts (gbV (inB_20 _ (List.mem_of_getElem? (i := 4) rfl)) (inB_20 _ (List.mem_of_getElem? (i := 5) rfl)) (inB_20 _ (List.mem_of_getElem? (i := 6) rfl)) (inB_1 _ (List.mem_of_getElem? (i := 19) rfl)) (inB_20 _ (List.mem_of_getElem? (i := 7) rfl))) rfl rfl rfl (by decide +kernel) ⟨Nat.le_of_ble_eq_true rfl, Nat.le_of_ble_eq_true rfl⟩) (rv_P hW) hW hS rfl hl.1 rfl (lv_room (Nat.le_of_ble_eq_true rfl)) dX4_restore_25 ⟨Nat.zero_le _, Nat.zero_le _⟩ (fun H locs hW hS => ?_)
    refine lv_aload_n hx hb dX4_restore_28 rfl (lv_at hl 0 rfl) ?_
    refine va_get (D := G.1) (ci := 4) (v := .ref (gA G (5 + 0))) (C := RX4) (T := TX4) (N := 10) hx hb hts hinX4 hown hW.K hW.P 0 (he_G G m4) rfl 0 (by decide) (hts _ (List.mem_cons_of_mem _ (inB_1 _ (List.mem_of_getElem? (i := 13) rfl)))) (fun _ h9 => h9) rfl dX4_restore_29 ?_
    obtain ⟨q6, hq6, hf⟩ := bind_el hf
    refine k_cVi (As := []) (rest := []) ⟨hx, hb, hml, hown, hts⟩ (mW_allSacks l G m4 (0) (by decide) q6 hq6) (cwV 0 hts (gbV (inB_8 _ (List.mem_of_getElem? (i := 11) rfl)) (inB_8 _ (List.mem_of_getElem? (i := 12) rfl)) (inB_8 _ (List.mem_of_getElem? (i := 13) rfl)) (inB_1 _ (List.mem_of_getElem? (i := 12) rfl)) (inB_8 _ (List.mem_of_getElem? (i := 14) rfl))) rfl rfl rfl (by decide +kernel) ⟨Nat.le_of_ble_eq_true rfl, Nat.le_of_ble_eq_true rfl⟩) (rv_wall (by decide) hW) hW hS rfl hl.1 rfl (lv_room (Nat.le_of_ble_eq_true rfl)) dX4_restore_32 ⟨Nat.zero_le _, Nat.zero_le _⟩ (fun hv7 H locs hW hS => ?_)
    obtain rfl := some_el hf
    exact k_ret hx hb hr hlocks hW hS rfl hv7 dX4_restore_35
  · rw [if_pos hc1] at hf
    refine k_bipush hx hb dX4_restore_7 (by decide +kernel) ?_
    obtain rfl := some_el hf
    exact k_ret hx hb hr hlocks hW hS rfl (show inR (-15) by decide) dX4_restore_9
set_option maxHeartbeats 4000000 in
set_option maxRecDepth 100000 in
theorem mG_storeSacks (l : Launch) (G : gG) (M0 : MemG) (x1 : Int) (hx1 : inR x1) (x2 : Int) (hx2 : inR x2) (x3 : Int) (hx3 : inR x3) (r : MemG × Int) (hf : fG_storeSacks M0 x1 x2 x3 = some r) : Met l yX4_storeSacks (wb yX4_storeSacks cX4_storeSacks 4 (some .int)) ({ frames := 4, cells := 0, slots := 0, locals := 92 } : Room) (PcG G M0 [.ref (gA G (0)), .int (i3 (x1)), .int (i3 (x2)), .int (i3 (x3))]) (QcI G r.1 r.2) 0 0 (PA G) := by
  refine Met.ofW (cc := cX4_storeSacks) (maxL := 4) (ret := (some .int)) (by decide) rfl ?_
  intro p e s m args below meth c s₁ B hml hv0
  obtain ⟨hav, hW⟩ := hv0
  have hx := B.exec
  have hb := B.bytes
  have hr := B.returns
  have hts := atoms_spec (ws := (wb yX4_storeSacks cX4_storeSacks 4 (some .int))) B.pre
  have hown : s.vm.findClass RX4 = some m.cls := findClass_of_methodNamed B.named
  have hlocks := B.notSynchronized
  have hinX4 : ∀ w ∈ u_ws RX4 TX4 10, w ∈ (wb yX4_storeSacks cX4_storeSacks 4 (some .int)) := fun _ h => List.mem_cons_of_mem _ (inlX4 _ h)
  have hW : Wd G M0 s s.heap := hW
  have hS : va_S (PA G) s.heap s.heap [] := va_S.rf
  have hl := lv_entry [.ref (gA G (0)), .int (i3 (x1)), .int (i3 (x2)), .int (i3 (x3))] (n := 4) (Nat.le_of_ble_eq_true rfl)
  have hent := lg_entry_eq m [.ref (gA G (0)), .int (i3 (x1)), .int (i3 (x2)), .int (i3 (x3))] 4
  rw [← hav] at hent
  rw [hent]
  clear hent
  generalize (lg_sl [.ref (gA G (0)), .int (i3 (x1)), .int (i3 (x2)), .int (i3 (x3))] ++ List.replicate (4 - (lg_sl [.ref (gA G (0)), .int (i3 (x1)), .int (i3 (x2)), .int (i3 (x3))]).length) Slot.unset).toArray = ls at hl ⊢
  have hl : lv_has ls 4 [(0, .ref (gA G (0))), (1, .int (i3 (x1))), (2, .int (i3 (x2))), (3, .int (i3 (x3)))] := hl
  unfold fG_storeSacks at hf
  show W p l e ({ frames := 4, cells := 0, slots := 0, locals := 92 } : Room) s m args below meth c s.heap [] 0 0 (MQ below (QcI G r.1 r.2) args s 0 0 (PA G)) (F0 m 0 ls [])
  refine lv_iload_n hx hb dX4_storeSacks_0 rfl (lv_at hl 1 rfl) ?_
  refine k_cSz (As := [.int (i3 (x1))]) (rest := []) ⟨hx, hb, hml, hown, hts⟩ (mG_isBay l G M0 x1 hx1 _ rfl) (va_cwS 1 hts (gbS (inB_4 _ (List.mem_of_getElem? (i := 8) rfl)) (inB_4 _ (List.mem_of_getElem? (i := 9) rfl)) (inB_1 _ (List.mem_of_getElem? (i := 2) rfl)) (inB_4 _ (List.mem_of_getElem? (i := 10) rfl))) rfl rfl rfl (by decide +kernel) ⟨Nat.le_of_ble_eq_true rfl, Nat.le_of_ble_eq_true rfl⟩) hW hS rfl hl.1 rfl (lv_room (Nat.le_of_ble_eq_true rfl)) dX4_storeSacks_1 ⟨Nat.zero_le _, Nat.zero_le _⟩ (fun hv1 H locs hW hS => ?_)
  refine k_if_ne (tgt := 10) hx hb (inR_z hv1) dX4_storeSacks_4 (by decide) (fun hc2 => ?_) (fun hc2 => ?_)
  · rw [if_neg hc2] at hf
    refine lv_iload_n hx hb dX4_storeSacks_10 rfl (lv_at hl 2 rfl) ?_
    refine k_cSz (As := [.int (i3 (x2))]) (rest := []) ⟨hx, hb, hml, hown, hts⟩ (mG_isKind l G M0 x2 hx2 _ rfl) (va_cwS 1 hts (gbS (inB_4 _ (List.mem_of_getElem? (i := 14) rfl)) (inB_4 _ (List.mem_of_getElem? (i := 15) rfl)) (inB_1 _ (List.mem_of_getElem? (i := 2) rfl)) (inB_4 _ (List.mem_of_getElem? (i := 16) rfl))) rfl rfl rfl (by decide +kernel) ⟨Nat.le_of_ble_eq_true rfl, Nat.le_of_ble_eq_true rfl⟩) hW hS rfl hl.1 rfl (lv_room (Nat.le_of_ble_eq_true rfl)) dX4_storeSacks_11 ⟨Nat.zero_le _, Nat.zero_le _⟩ (fun hv3 H locs hW hS => ?_)
    refine k_if_eq (tgt := 28) hx hb (inR_z hv3) dX4_storeSacks_14 (by decide) (fun hc4 => ?_) (fun hc4 => ?_)
    · rw [if_pos hc4] at hf
      refine k_bipush hx hb dX4_storeSacks_28 (by decide +kernel) ?_
      obtain rfl := some_el hf
      exact k_ret hx hb hr hlocks hW hS rfl (show inR (-12) by decide) dX4_storeSacks_30
    · rw [if_neg hc4] at hf
      refine lv_iload_n hx hb dX4_storeSacks_17 rfl (lv_at hl 3 rfl) ?_
      refine k_const hx hb dX4_storeSacks_18 ?_
      refine k_sipush hx hb dX4_storeSacks_19 (by decide +kernel) ?_
      refine k_cSz (As := [.int (i3 (x3)), .int (i3 (1)), .int (i3 (200))]) (rest := []) ⟨hx, hb, hml, hown, hts⟩ (mG_isWithin l G M0 x3 hx3 1 (show inR (1) by decide) 200 (show inR (200) by decide) _ rfl) (va_cwS 3 hts (gbS (inB_4 _ (List.mem_of_getElem? (i := 11) rfl)) (inB_4 _ (List.mem_of_getElem? (i := 12) rfl)) (inB_1 _ (List.mem_of_getElem? (i := 2) rfl)) (inB_4 _ (List.mem_of_getElem? (i := 13) rfl))) rfl rfl rfl (by decide +kernel) ⟨Nat.le_of_ble_eq_true rfl, Nat.le_of_ble_eq_true rfl⟩) hW hS rfl hl.1 rfl (lv_room (Nat.le_of_ble_eq_true rfl)) dX4_storeSacks_22 ⟨Nat.zero_le _, Nat.zero_le _⟩ (fun hv5 H locs hW hS => ?_)
      refine k_if_ne (tgt := 31) hx hb (inR_z hv5) dX4_storeSacks_25 (by decide) (fun hc6 => ?_) (fun hc6 => ?_)
      · rw [if_neg hc6] at hf
        refine lv_aload_n hx hb dX4_storeSacks_31 rfl (lv_at hl 0 rfl) ?_
        refine lv_iload_n hx hb dX4_storeSacks_32 rfl (lv_at hl 1 rfl) ?_
        refine lv_iload_n hx hb dX4_storeSacks_33 rfl (lv_at hl 2 rfl) ?_
        refine lv_iload_n hx hb dX4_storeSacks_34 rfl (lv_at hl 3 rfl) ?_
        obtain ⟨q7, hq7, hf⟩ := bind_el hf
        refine k_cVz (As := [.int (i3 (x1)), .int (i3 (x2)), .int (i3 (x3))]) (rest := []) ⟨hx, hb, hml, hown, hts⟩ (mG_hasRoom l G M0 x1 hx1 x2 hx2 x3 hx3 q7 hq7) (cwV 3 hts (gbV (inB_4 _ (List.mem_of_getElem? (i := 17) rfl)) (inB_4 _ (List.mem_of_getElem? (i := 18) rfl)) (inB_4 _ (List.mem_of_getElem? (i := 19) rfl)) (inB_1 _ (List.mem_of_getElem? (i := 2) rfl)) (inB_4 _ (List.mem_of_getElem? (i := 20) rfl))) rfl rfl rfl (by decide +kernel) ⟨Nat.le_of_ble_eq_true rfl, Nat.le_of_ble_eq_true rfl⟩) (rv_G hW) hW hS rfl hl.1 rfl (lv_room (Nat.le_of_ble_eq_true rfl)) dX4_storeSacks_35 ⟨Nat.zero_le _, Nat.zero_le _⟩ (fun hv8 H locs hW hS => ?_)
        refine k_if_ne (tgt := 49) hx hb (inR_z hv8) dX4_storeSacks_38 (by decide) (fun hc9 => ?_) (fun hc9 => ?_)
        · rw [if_neg hc9] at hf
          refine lv_aload_n hx hb dX4_storeSacks_49 rfl (lv_at hl 0 rfl) ?_
          refine va_get (D := G.1) (ci := 4) (v := .ref (gA G (5 + 0))) (C := RX4) (T := TX4) (N := 10) hx hb hts hinX4 hown hW.K hW.P 0 (he_G G M0) rfl 0 (by decide) (hts _ (List.mem_cons_of_mem _ (inB_1 _ (List.mem_of_getElem? (i := 13) rfl)))) (fun _ h9 => h9) rfl dX4_storeSacks_50 ?_
          refine k_bipush hx hb dX4_storeSacks_53 (by decide +kernel) ?_
          refine lv_iload_n hx hb dX4_storeSacks_55 rfl (lv_at hl 3 rfl) ?_
          obtain ⟨m10, hm10, hf⟩ := bind_el hf
          refine k_cVv (As := [.int (i3 (8)), .int (i3 (x3))]) (rest := []) ⟨hx, hb, hml, hown, hts⟩ (mW_count l G M0 (0) (by decide) 8 (show inR (8) by decide) x3 hx3 m10 hm10) (cwV 2 hts (gbV (inB_5 _ (List.mem_of_getElem? (i := 19) rfl)) (inB_5 _ (List.mem_of_getElem? (i := 20) rfl)) (inB_5 _ (List.mem_of_getElem? (i := 21) rfl)) (inB_1 _ (List.mem_of_getElem? (i := 12) rfl)) (inB_5 _ (List.mem_of_getElem? (i := 22) rfl))) rfl rfl rfl (by decide +kernel) ⟨Nat.le_of_ble_eq_true rfl, Nat.le_of_ble_eq_true rfl⟩) (rv_wall (by decide) hW) hW hS rfl hl.1 rfl (lv_room (Nat.le_of_ble_eq_true rfl)) dX4_storeSacks_56 ⟨Nat.zero_le _, Nat.zero_le _⟩ (fun H locs hW hS => ?_)
          refine lv_aload_n hx hb dX4_storeSacks_59 rfl (lv_at hl 0 rfl) ?_
          refine va_get (D := G.1) (ci := 4) (v := .ref (gA G (5 + 0))) (C := RX4) (T := TX4) (N := 10) hx hb hts hinX4 hown hW.K hW.P 0 (he_G G m10) rfl 0 (by decide) (hts _ (List.mem_cons_of_mem _ (inB_1 _ (List.mem_of_getElem? (i := 13) rfl)))) (fun _ h9 => h9) rfl dX4_storeSacks_60 ?_
          refine lv_iload_n hx hb dX4_storeSacks_63 rfl (lv_at hl 1 rfl) ?_
          refine lv_iload_n hx hb dX4_storeSacks_64 rfl (lv_at hl 2 rfl) ?_
          refine lv_iload_n hx hb dX4_storeSacks_65 rfl (lv_at hl 3 rfl) ?_
          refine lv_aload_n hx hb dX4_storeSacks_66 rfl (lv_at hl 0 rfl) ?_
          refine va_get (D := G.1) (ci := 4) (v := .ref (gA G (5 + 0))) (C := RX4) (T := TX4) (N := 10) hx hb hts hinX4 hown hW.K hW.P 0 (he_G G m10) rfl 0 (by decide) (hts _ (List.mem_cons_of_mem _ (inB_1 _ (List.mem_of_getElem? (i := 13) rfl)))) (fun _ h9 => h9) rfl dX4_storeSacks_67 ?_
          refine lv_iload_n hx hb dX4_storeSacks_70 rfl (lv_at hl 1 rfl) ?_
          refine k_cVi (As := [.int (i3 (x1))]) (rest := [.int (i3 (x3)), .int (i3 (x2)), .int (i3 (x1)), .ref (gA G (5 + 0))]) ⟨hx, hb, hml, hown, hts⟩ (mW_ageIn l G m10 (0) (by decide) x1 hx1 _ rfl) (cwV 1 hts (gbV (inB_6 _ (List.mem_of_getElem? (i := 1) rfl)) (inB_6 _ (List.mem_of_getElem? (i := 2) rfl)) (inB_6 _ (List.mem_of_getElem? (i := 3) rfl)) (inB_1 _ (List.mem_of_getElem? (i := 12) rfl)) (inB_6 _ (List.mem_of_getElem? (i := 4) rfl))) rfl rfl rfl (by decide +kernel) ⟨Nat.le_of_ble_eq_true rfl, Nat.le_of_ble_eq_true rfl⟩) (rv_wall (by decide) hW) hW hS rfl hl.1 rfl (lv_room (Nat.le_of_ble_eq_true rfl)) dX4_storeSacks_71 ⟨Nat.zero_le _, Nat.zero_le _⟩ (fun hv12 H locs hW hS => ?_)
          obtain ⟨q13, hq13, hf⟩ := bind_el hf
          refine k_cVi (As := [.int (i3 (x1)), .int (i3 (x2)), .int (i3 (x3)), .int (i3 ((fW_ageIn m10 0 x1)))]) (rest := []) ⟨hx, hb, hml, hown, hts⟩ (mW_bring l G m10 (0) (by decide) x1 hx1 x2 hx2 x3 hx3 ((fW_ageIn m10 0 x1)) hv12 q13 hq13) (cwV 4 hts (gbV (inB_6 _ (List.mem_of_getElem? (i := 5) rfl)) (inB_6 _ (List.mem_of_getElem? (i := 6) rfl)) (inB_6 _ (List.mem_of_getElem? (i := 7) rfl)) (inB_1 _ (List.mem_of_getElem? (i := 12) rfl)) (inB_6 _ (List.mem_of_getElem? (i := 8) rfl))) rfl rfl rfl (by decide +kernel) ⟨Nat.le_of_ble_eq_true rfl, Nat.le_of_ble_eq_true rfl⟩) (rv_wall (by decide) hW) hW hS rfl hl.1 rfl (lv_room (Nat.le_of_ble_eq_true rfl)) dX4_storeSacks_74 ⟨Nat.zero_le _, Nat.zero_le _⟩ (fun hv14 H locs hW hS => ?_)
          obtain rfl := some_el hf
          exact k_ret hx hb hr hlocks hW hS rfl hv14 dX4_storeSacks_77
        · rw [if_pos hc9] at hf
          refine lv_aload_n hx hb dX4_storeSacks_41 rfl (lv_at hl 0 rfl) ?_
          refine lv_iload_n hx hb dX4_storeSacks_42 rfl (lv_at hl 1 rfl) ?_
          refine lv_iload_n hx hb dX4_storeSacks_43 rfl (lv_at hl 2 rfl) ?_
          refine lv_iload_n hx hb dX4_storeSacks_44 rfl (lv_at hl 3 rfl) ?_
          obtain ⟨q15, hq15, hf⟩ := bind_el hf
          refine k_cVi (As := [.int (i3 (x1)), .int (i3 (x2)), .int (i3 (x3))]) (rest := []) ⟨hx, hb, hml, hown, hts⟩ (mG_refuseRoom l G M0 x1 hx1 x2 hx2 x3 hx3 q15 hq15) (cwV 3 hts (gbV (inB_5 _ (List.mem_of_getElem? (i := 11) rfl)) (inB_5 _ (List.mem_of_getElem? (i := 12) rfl)) (inB_5 _ (List.mem_of_getElem? (i := 13) rfl)) (inB_1 _ (List.mem_of_getElem? (i := 2) rfl)) (inB_5 _ (List.mem_of_getElem? (i := 14) rfl))) rfl rfl rfl (by decide +kernel) ⟨Nat.le_of_ble_eq_true rfl, Nat.le_of_ble_eq_true rfl⟩) (rv_G hW) hW hS rfl hl.1 rfl (lv_room (Nat.le_of_ble_eq_true rfl)) dX4_storeSacks_45 ⟨Nat.zero_le _, Nat.zero_le _⟩ (fun hv16 H locs hW hS => ?_)
          obtain rfl := some_el hf
          exact k_ret hx hb hr hlocks hW hS rfl hv16 dX4_storeSacks_48
      · rw [if_pos hc6] at hf
        refine k_bipush hx hb dX4_storeSacks_28 (by decide +kernel) ?_
        obtain rfl := some_el hf
        exact k_ret hx hb hr hlocks hW hS rfl (show inR (-12) by decide) dX4_storeSacks_30
  · rw [if_pos hc2] at hf
    refine k_bipush hx hb dX4_storeSacks_7 (by decide +kernel) ?_
    obtain rfl := some_el hf
    exact k_ret hx hb hr hlocks hW hS rfl (show inR (-11) by decide) dX4_storeSacks_9
set_option maxHeartbeats 4000000 in
set_option maxRecDepth 100000 in
theorem mG_takeSacks (l : Launch) (G : gG) (M0 : MemG) (x1 : Int) (hx1 : inR x1) (x2 : Int) (hx2 : inR x2) (r : MemG × Int) (hf : fG_takeSacks M0 x1 x2 = some r) : Met l yX4_takeSacks (wb yX4_takeSacks cX4_takeSacks 3 (some .int)) ({ frames := 3, cells := 0, slots := 0, locals := 68 } : Room) (PcG G M0 [.ref (gA G (0)), .int (i3 (x1)), .int (i3 (x2))]) (QcI G r.1 r.2) 0 0 (PA G) := by
  refine Met.ofW (cc := cX4_takeSacks) (maxL := 3) (ret := (some .int)) (by decide) rfl ?_
  intro p e s m args below meth c s₁ B hml hv0
  obtain ⟨hav, hW⟩ := hv0
  have hx := B.exec
  have hb := B.bytes
  have hr := B.returns
  have hts := atoms_spec (ws := (wb yX4_takeSacks cX4_takeSacks 3 (some .int))) B.pre
  have hown : s.vm.findClass RX4 = some m.cls := findClass_of_methodNamed B.named
  have hlocks := B.notSynchronized
  have hinX4 : ∀ w ∈ u_ws RX4 TX4 10, w ∈ (wb yX4_takeSacks cX4_takeSacks 3 (some .int)) := fun _ h => List.mem_cons_of_mem _ (inlX4 _ h)
  have hW : Wd G M0 s s.heap := hW
  have hS : va_S (PA G) s.heap s.heap [] := va_S.rf
  have hl := lv_entry [.ref (gA G (0)), .int (i3 (x1)), .int (i3 (x2))] (n := 3) (Nat.le_of_ble_eq_true rfl)
  have hent := lg_entry_eq m [.ref (gA G (0)), .int (i3 (x1)), .int (i3 (x2))] 3
  rw [← hav] at hent
  rw [hent]
  clear hent
  generalize (lg_sl [.ref (gA G (0)), .int (i3 (x1)), .int (i3 (x2))] ++ List.replicate (3 - (lg_sl [.ref (gA G (0)), .int (i3 (x1)), .int (i3 (x2))]).length) Slot.unset).toArray = ls at hl ⊢
  have hl : lv_has ls 3 [(0, .ref (gA G (0))), (1, .int (i3 (x1))), (2, .int (i3 (x2)))] := hl
  unfold fG_takeSacks at hf
  show W p l e ({ frames := 3, cells := 0, slots := 0, locals := 68 } : Room) s m args below meth c s.heap [] 0 0 (MQ below (QcI G r.1 r.2) args s 0 0 (PA G)) (F0 m 0 ls [])
  refine lv_iload_n hx hb dX4_takeSacks_0 rfl (lv_at hl 1 rfl) ?_
  refine k_cSz (As := [.int (i3 (x1))]) (rest := []) ⟨hx, hb, hml, hown, hts⟩ (mG_isBay l G M0 x1 hx1 _ rfl) (va_cwS 1 hts (gbS (inB_4 _ (List.mem_of_getElem? (i := 8) rfl)) (inB_4 _ (List.mem_of_getElem? (i := 9) rfl)) (inB_1 _ (List.mem_of_getElem? (i := 2) rfl)) (inB_4 _ (List.mem_of_getElem? (i := 10) rfl))) rfl rfl rfl (by decide +kernel) ⟨Nat.le_of_ble_eq_true rfl, Nat.le_of_ble_eq_true rfl⟩) hW hS rfl hl.1 rfl (lv_room (Nat.le_of_ble_eq_true rfl)) dX4_takeSacks_1 ⟨Nat.zero_le _, Nat.zero_le _⟩ (fun hv1 H locs hW hS => ?_)
  refine k_if_ne (tgt := 10) hx hb (inR_z hv1) dX4_takeSacks_4 (by decide) (fun hc2 => ?_) (fun hc2 => ?_)
  · rw [if_neg hc2] at hf
    refine lv_iload_n hx hb dX4_takeSacks_10 rfl (lv_at hl 2 rfl) ?_
    refine k_const hx hb dX4_takeSacks_11 ?_
    refine k_sipush hx hb dX4_takeSacks_12 (by decide +kernel) ?_
    refine k_cSz (As := [.int (i3 (x2)), .int (i3 (1)), .int (i3 (200))]) (rest := []) ⟨hx, hb, hml, hown, hts⟩ (mG_isWithin l G M0 x2 hx2 1 (show inR (1) by decide) 200 (show inR (200) by decide) _ rfl) (va_cwS 3 hts (gbS (inB_4 _ (List.mem_of_getElem? (i := 11) rfl)) (inB_4 _ (List.mem_of_getElem? (i := 12) rfl)) (inB_1 _ (List.mem_of_getElem? (i := 2) rfl)) (inB_4 _ (List.mem_of_getElem? (i := 13) rfl))) rfl rfl rfl (by decide +kernel) ⟨Nat.le_of_ble_eq_true rfl, Nat.le_of_ble_eq_true rfl⟩) hW hS rfl hl.1 rfl (lv_room (Nat.le_of_ble_eq_true rfl)) dX4_takeSacks_15 ⟨Nat.zero_le _, Nat.zero_le _⟩ (fun hv3 H locs hW hS => ?_)
    refine k_if_ne (tgt := 24) hx hb (inR_z hv3) dX4_takeSacks_18 (by decide) (fun hc4 => ?_) (fun hc4 => ?_)
    · rw [if_neg hc4] at hf
      refine lv_aload_n hx hb dX4_takeSacks_24 rfl (lv_at hl 0 rfl) ?_
      refine lv_iload_n hx hb dX4_takeSacks_25 rfl (lv_at hl 1 rfl) ?_
      refine lv_iload_n hx hb dX4_takeSacks_26 rfl (lv_at hl 2 rfl) ?_
      refine k_cVz (As := [.int (i3 (x1)), .int (i3 (x2))]) (rest := []) ⟨hx, hb, hml, hown, hts⟩ (mG_hasSacks l G M0 x1 hx1 x2 hx2 _ rfl) (cwV 2 hts (gbV (inB_11 _ (List.mem_of_getElem? (i := 19) rfl)) (inB_11 _ (List.mem_of_getElem? (i := 20) rfl)) (inB_11 _ (List.mem_of_getElem? (i := 21) rfl)) (inB_1 _ (List.mem_of_getElem? (i := 2) rfl)) (inB_11 _ (List.mem_of_getElem? (i := 22) rfl))) rfl rfl rfl (by decide +kernel) ⟨Nat.le_of_ble_eq_true rfl, Nat.le_of_ble_eq_true rfl⟩) (rv_G hW) hW hS rfl hl.1 rfl (lv_room (Nat.le_of_ble_eq_true rfl)) dX4_takeSacks_27 ⟨Nat.zero_le _, Nat.zero_le _⟩ (fun hv5 H locs hW hS => ?_)
      refine k_if_ne (tgt := 39) hx hb (inR_z hv5) dX4_takeSacks_30 (by decide) (fun hc6 => ?_) (fun hc6 => ?_)
      · rw [if_neg hc6] at hf
        refine lv_aload_n hx hb dX4_takeSacks_39 rfl (lv_at hl 0 rfl) ?_
        refine va_get (D := G.1) (ci := 4) (v := .ref (gA G (5 + 0))) (C := RX4) (T := TX4) (N := 10) hx hb hts hinX4 hown hW.K hW.P 0 (he_G G M0) rfl 0 (by decide) (hts _ (List.mem_cons_of_mem _ (inB_1 _ (List.mem_of_getElem? (i := 13) rfl)))) (fun _ h9 => h9) rfl dX4_takeSacks_40 ?_
        refine lv_iload_n hx hb dX4_takeSacks_43 rfl (lv_at hl 1 rfl) ?_
        refine lv_iload_n hx hb dX4_takeSacks_44 rfl (lv_at hl 2 rfl) ?_
        obtain ⟨m7, hm7, hf⟩ := bind_el hf
        refine k_cVv (As := [.int (i3 (x1)), .int (i3 (x2))]) (rest := []) ⟨hx, hb, hml, hown, hts⟩ (mW_remove l G M0 (0) (by decide) x1 hx1 x2 hx2 m7 hm7) (cwV 2 hts (gbV (inB_12 _ (List.mem_of_getElem? (i := 3) rfl)) (inB_12 _ (List.mem_of_getElem? (i := 4) rfl)) (inB_12 _ (List.mem_of_getElem? (i := 5) rfl)) (inB_1 _ (List.mem_of_getElem? (i := 12) rfl)) (inB_12 _ (List.mem_of_getElem? (i := 6) rfl))) rfl rfl rfl (by decide +kernel) ⟨Nat.le_of_ble_eq_true rfl, Nat.le_of_ble_eq_true rfl⟩) (rv_wall (by decide) hW) hW hS rfl hl.1 rfl (lv_room (Nat.le_of_ble_eq_true rfl)) dX4_takeSacks_45 ⟨Nat.zero_le _, Nat.zero_le _⟩ (fun H locs hW hS => ?_)
        refine lv_aload_n hx hb dX4_takeSacks_48 rfl (lv_at hl 0 rfl) ?_
        refine va_get (D := G.1) (ci := 4) (v := .ref (gA G (5 + 0))) (C := RX4) (T := TX4) (N := 10) hx hb hts hinX4 hown hW.K hW.P 0 (he_G G m7) rfl 0 (by decide) (hts _ (List.mem_cons_of_mem _ (inB_1 _ (List.mem_of_getElem? (i := 13) rfl)))) (fun _ h9 => h9) rfl dX4_takeSacks_49 ?_
        refine k_bipush hx hb dX4_takeSacks_52 (by decide +kernel) ?_
        refine lv_iload_n hx hb dX4_takeSacks_54 rfl (lv_at hl 2 rfl) ?_
        obtain ⟨m9, hm9, hf⟩ := bind_el hf
        refine k_cVv (As := [.int (i3 (9)), .int (i3 (x2))]) (rest := []) ⟨hx, hb, hml, hown, hts⟩ (mW_count l G m7 (0) (by decide) 9 (show inR (9) by decide) x2 hx2 m9 hm9) (cwV 2 hts (gbV (inB_5 _ (List.mem_of_getElem? (i := 19) rfl)) (inB_5 _ (List.mem_of_getElem? (i := 20) rfl)) (inB_5 _ (List.mem_of_getElem? (i := 21) rfl)) (inB_1 _ (List.mem_of_getElem? (i := 12) rfl)) (inB_5 _ (List.mem_of_getElem? (i := 22) rfl))) rfl rfl rfl (by decide +kernel) ⟨Nat.le_of_ble_eq_true rfl, Nat.le_of_ble_eq_true rfl⟩) (rv_wall (by decide) hW) hW hS rfl hl.1 rfl (lv_room (Nat.le_of_ble_eq_true rfl)) dX4_takeSacks_55 ⟨Nat.zero_le _, Nat.zero_le _⟩ (fun H locs hW hS => ?_)
        refine lv_aload_n hx hb dX4_takeSacks_58 rfl (lv_at hl 0 rfl) ?_
        refine va_get (D := G.1) (ci := 4) (v := .ref (gA G (5 + 0))) (C := RX4) (T := TX4) (N := 10) hx hb hts hinX4 hown hW.K hW.P 0 (he_G G m9) rfl 0 (by decide) (hts _ (List.mem_cons_of_mem _ (inB_1 _ (List.mem_of_getElem? (i := 13) rfl)))) (fun _ h9 => h9) rfl dX4_takeSacks_59 ?_
        refine lv_iload_n hx hb dX4_takeSacks_62 rfl (lv_at hl 1 rfl) ?_
        refine k_cVi (As := [.int (i3 (x1))]) (rest := []) ⟨hx, hb, hml, hown, hts⟩ (mW_sacksIn l G m9 (0) (by decide) x1 hx1 _ rfl) (cwV 1 hts (gbV (inB_5 _ (List.mem_of_getElem? (i := 7) rfl)) (inB_5 _ (List.mem_of_getElem? (i := 8) rfl)) (inB_5 _ (List.mem_of_getElem? (i := 9) rfl)) (inB_1 _ (List.mem_of_getElem? (i := 12) rfl)) (inB_5 _ (List.mem_of_getElem? (i := 10) rfl))) rfl rfl rfl (by decide +kernel) ⟨Nat.le_of_ble_eq_true rfl, Nat.le_of_ble_eq_true rfl⟩) (rv_wall (by decide) hW) hW hS rfl hl.1 rfl (lv_room (Nat.le_of_ble_eq_true rfl)) dX4_takeSacks_63 ⟨Nat.zero_le _, Nat.zero_le _⟩ (fun hv11 H locs hW hS => ?_)
        obtain rfl := some_el hf
        exact k_ret hx hb hr hlocks hW hS rfl hv11 dX4_takeSacks_66
      · rw [if_pos hc6] at hf
        refine lv_aload_n hx hb dX4_takeSacks_33 rfl (lv_at hl 0 rfl) ?_
        refine lv_iload_n hx hb dX4_takeSacks_34 rfl (lv_at hl 1 rfl) ?_
        obtain ⟨q12, hq12, hf⟩ := bind_el hf
        refine k_cVi (As := [.int (i3 (x1))]) (rest := []) ⟨hx, hb, hml, hown, hts⟩ (mG_refuseSacks l G M0 x1 hx1 q12 hq12) (cwV 1 hts (gbV (inB_11 _ (List.mem_of_getElem? (i := 23) rfl)) (inB_12 _ (List.mem_of_getElem? (i := 0) rfl)) (inB_12 _ (List.mem_of_getElem? (i := 1) rfl)) (inB_1 _ (List.mem_of_getElem? (i := 2) rfl)) (inB_12 _ (List.mem_of_getElem? (i := 2) rfl))) rfl rfl rfl (by decide +kernel) ⟨Nat.le_of_ble_eq_true rfl, Nat.le_of_ble_eq_true rfl⟩) (rv_G hW) hW hS rfl hl.1 rfl (lv_room (Nat.le_of_ble_eq_true rfl)) dX4_takeSacks_35 ⟨Nat.zero_le _, Nat.zero_le _⟩ (fun hv13 H locs hW hS => ?_)
        obtain rfl := some_el hf
        exact k_ret hx hb hr hlocks hW hS rfl hv13 dX4_takeSacks_38
    · rw [if_pos hc4] at hf
      refine k_bipush hx hb dX4_takeSacks_21 (by decide +kernel) ?_
      obtain rfl := some_el hf
      exact k_ret hx hb hr hlocks hW hS rfl (show inR (-12) by decide) dX4_takeSacks_23
  · rw [if_pos hc2] at hf
    refine k_bipush hx hb dX4_takeSacks_7 (by decide +kernel) ?_
    obtain rfl := some_el hf
    exact k_ret hx hb hr hlocks hW hS rfl (show inR (-11) by decide) dX4_takeSacks_9
set_option maxHeartbeats 4000000 in
set_option maxRecDepth 100000 in
theorem mG_carryOut (l : Launch) (G : gG) (M0 : MemG) (x1 : Int) (hx1 : inR x1) (r : MemG × Int) (hf : fG_carryOut M0 x1 = some r) : Met l yX4_carryOut (wb yX4_carryOut cX4_carryOut 5 (some .int)) ({ frames := 5, cells := 0, slots := 0, locals := 117 } : Room) (PcG G M0 [.ref (gA G (0)), .int (i3 (x1))]) (QcI G r.1 r.2) 0 0 (PA G) := by
  refine Met.ofW (cc := cX4_carryOut) (maxL := 5) (ret := (some .int)) (by decide) rfl ?_
  intro p e s m args below meth c s₁ B hml hv0
  obtain ⟨hav, hW⟩ := hv0
  have hx := B.exec
  have hb := B.bytes
  have hr := B.returns
  have hts := atoms_spec (ws := (wb yX4_carryOut cX4_carryOut 5 (some .int))) B.pre
  have hown : s.vm.findClass RX4 = some m.cls := findClass_of_methodNamed B.named
  have hlocks := B.notSynchronized
  have hinX4 : ∀ w ∈ u_ws RX4 TX4 10, w ∈ (wb yX4_carryOut cX4_carryOut 5 (some .int)) := fun _ h => List.mem_cons_of_mem _ (inlX4 _ h)
  have hW : Wd G M0 s s.heap := hW
  have hS : va_S (PA G) s.heap s.heap [] := va_S.rf
  have hl := lv_entry [.ref (gA G (0)), .int (i3 (x1))] (n := 5) (Nat.le_of_ble_eq_true rfl)
  have hent := lg_entry_eq m [.ref (gA G (0)), .int (i3 (x1))] 5
  rw [← hav] at hent
  rw [hent]
  clear hent
  generalize (lg_sl [.ref (gA G (0)), .int (i3 (x1))] ++ List.replicate (5 - (lg_sl [.ref (gA G (0)), .int (i3 (x1))]).length) Slot.unset).toArray = ls at hl ⊢
  have hl : lv_has ls 5 [(0, .ref (gA G (0))), (1, .int (i3 (x1)))] := hl
  unfold fG_carryOut at hf
  show W p l e ({ frames := 5, cells := 0, slots := 0, locals := 117 } : Room) s m args below meth c s.heap [] 0 0 (MQ below (QcI G r.1 r.2) args s 0 0 (PA G)) (F0 m 0 ls [])
  refine lv_aload_n hx hb dX4_carryOut_0 rfl (lv_at hl 0 rfl) ?_
  refine va_get (D := G.1) (ci := 4) (v := .ref (gA G (2))) (C := RX4) (T := TX4) (N := 10) hx hb hts hinX4 hown hW.K hW.P 0 (he_G G M0) rfl 5 (by decide) (hts _ (List.mem_cons_of_mem _ (inB_2 _ (List.mem_of_getElem? (i := 0) rfl)))) (fun _ h9 => h9) rfl dX4_carryOut_1 ?_
  refine lv_iload_n hx hb dX4_carryOut_4 rfl (lv_at hl 1 rfl) ?_
  refine k_const hx hb dX4_carryOut_5 ?_
  obtain ⟨q1, hq1, hf⟩ := bind_el hf
  refine k_cVi (As := [.int (i3 (x1)), .int (i3 (1))]) (rest := []) ⟨hx, hb, hml, hown, hts⟩ (mT_argument l G M0 x1 hx1 1 (show inR (1) by decide) q1 hq1) (cwV 2 hts (gbV (inB_19 _ (List.mem_of_getElem? (i := 12) rfl)) (inB_19 _ (List.mem_of_getElem? (i := 13) rfl)) (inB_19 _ (List.mem_of_getElem? (i := 14) rfl)) (inB_1 _ (List.mem_of_getElem? (i := 23) rfl)) (inB_19 _ (List.mem_of_getElem? (i := 15) rfl))) rfl rfl rfl (by decide +kernel) ⟨Nat.le_of_ble_eq_true rfl, Nat.le_of_ble_eq_true rfl⟩) (rv_T hW) hW hS rfl hl.1 rfl (lv_room (Nat.le_of_ble_eq_true rfl)) dX4_carryOut_6 ⟨Nat.zero_le _, Nat.zero_le _⟩ (fun hv2 H locs hW hS => ?_)
  refine lv_istore_n (lv' := [(2, .int (i3 (q1))), (0, .ref (gA G (0))), (1, .int (i3 (x1)))]) hx hb dX4_carryOut_9 rfl hl (by decide) rfl (fun ls hl => ?_)
  refine lv_aload_n hx hb dX4_carryOut_10 rfl (lv_at hl 1 rfl) ?_
  refine va_get (D := G.1) (ci := 4) (v := .ref (gA G (2))) (C := RX4) (T := TX4) (N := 10) hx hb hts hinX4 hown hW.K hW.P 0 (he_G G M0) rfl 5 (by decide) (hts _ (List.mem_cons_of_mem _ (inB_2 _ (List.mem_of_getElem? (i := 0) rfl)))) (fun _ h9 => h9) rfl dX4_carryOut_11 ?_
  refine lv_iload_n hx hb dX4_carryOut_14 rfl (lv_at hl 2 rfl) ?_
  refine k_const hx hb dX4_carryOut_15 ?_
  obtain ⟨q3, hq3, hf⟩ := bind_el hf
  refine k_cVi (As := [.int (i3 (x1)), .int (i3 (2))]) (rest := []) ⟨hx, hb, hml, hown, hts⟩ (mT_argument l G M0 x1 hx1 2 (show inR (2) by decide) q3 hq3) (cwV 2 hts (gbV (inB_19 _ (List.mem_of_getElem? (i := 12) rfl)) (inB_19 _ (List.mem_of_getElem? (i := 13) rfl)) (inB_19 _ (List.mem_of_getElem? (i := 14) rfl)) (inB_1 _ (List.mem_of_getElem? (i := 23) rfl)) (inB_19 _ (List.mem_of_getElem? (i := 15) rfl))) rfl rfl rfl (by decide +kernel) ⟨Nat.le_of_ble_eq_true rfl, Nat.le_of_ble_eq_true rfl⟩) (rv_T hW) hW hS rfl hl.1 rfl (lv_room (Nat.le_of_ble_eq_true rfl)) dX4_carryOut_16 ⟨Nat.zero_le _, Nat.zero_le _⟩ (fun hv4 H locs hW hS => ?_)
  refine lv_istore_n (lv' := [(3, .int (i3 (q3))), (2, .int (i3 (q1))), (0, .ref (gA G (0))), (1, .int (i3 (x1)))]) hx hb dX4_carryOut_19 rfl hl (by decide) rfl (fun ls hl => ?_)
  refine lv_aload_n hx hb dX4_carryOut_20 rfl (lv_at hl 2 rfl) ?_
  refine va_get (D := G.1) (ci := 4) (v := .ref (gA G (2))) (C := RX4) (T := TX4) (N := 10) hx hb hts hinX4 hown hW.K hW.P 0 (he_G G M0) rfl 5 (by decide) (hts _ (List.mem_cons_of_mem _ (inB_2 _ (List.mem_of_getElem? (i := 0) rfl)))) (fun _ h9 => h9) rfl dX4_carryOut_21 ?_
  refine lv_iload_n hx hb dX4_carryOut_24 rfl (lv_at hl 3 rfl) ?_
  refine k_const hx hb dX4_carryOut_25 ?_
  obtain ⟨q5, hq5, hf⟩ := bind_el hf
  refine k_cVi (As := [.int (i3 (x1)), .int (i3 (3))]) (rest := []) ⟨hx, hb, hml, hown, hts⟩ (mT_argument l G M0 x1 hx1 3 (show inR (3) by decide) q5 hq5) (cwV 2 hts (gbV (inB_19 _ (List.mem_of_getElem? (i := 12) rfl)) (inB_19 _ (List.mem_of_getElem? (i := 13) rfl)) (inB_19 _ (List.mem_of_getElem? (i := 14) rfl)) (inB_1 _ (List.mem_of_getElem? (i := 23) rfl)) (inB_19 _ (List.mem_of_getElem? (i := 15) rfl))) rfl rfl rfl (by decide +kernel) ⟨Nat.le_of_ble_eq_true rfl, Nat.le_of_ble_eq_true rfl⟩) (rv_T hW) hW hS rfl hl.1 rfl (lv_room (Nat.le_of_ble_eq_true rfl)) dX4_carryOut_26 ⟨Nat.zero_le _, Nat.zero_le _⟩ (fun hv6 H locs hW hS => ?_)
  refine lv_istore (lv' := [(4, .int (i3 (q5))), (3, .int (i3 (q3))), (2, .int (i3 (q1))), (0, .ref (gA G (0))), (1, .int (i3 (x1)))]) hx hb dX4_carryOut_29 hl (by decide) rfl (fun ls hl => ?_)
  refine lv_aload_n hx hb dX4_carryOut_31 rfl (lv_at hl 3 rfl) ?_
  refine va_get (D := G.1) (ci := 4) (v := .ref (gA G (2))) (C := RX4) (T := TX4) (N := 10) hx hb hts hinX4 hown hW.K hW.P 0 (he_G G M0) rfl 5 (by decide) (hts _ (List.mem_cons_of_mem _ (inB_2 _ (List.mem_of_getElem? (i := 0) rfl)))) (fun _ h9 => h9) rfl dX4_carryOut_32 ?_
  refine lv_iload_n hx hb dX4_carryOut_35 rfl (lv_at hl 4 rfl) ?_
  obtain ⟨q7, hq7, hf⟩ := bind_el hf
  refine k_cVi (As := [.int (i3 (x1))]) (rest := []) ⟨hx, hb, hml, hown, hts⟩ (mT_verb l G M0 x1 hx1 q7 hq7) (cwV 1 hts (gbV (inB_19 _ (List.mem_of_getElem? (i := 16) rfl)) (inB_19 _ (List.mem_of_getElem? (i := 17) rfl)) (inB_19 _ (List.mem_of_getElem? (i := 18) rfl)) (inB_1 _ (List.mem_of_getElem? (i := 23) rfl)) (inB_19 _ (List.mem_of_getElem? (i := 19) rfl))) rfl rfl rfl (by decide +kernel) ⟨Nat.le_of_ble_eq_true rfl, Nat.le_of_ble_eq_true rfl⟩) (rv_T hW) hW hS rfl hl.1 rfl (lv_room (Nat.le_of_ble_eq_true rfl)) dX4_carryOut_36 ⟨Nat.zero_le _, Nat.zero_le _⟩ (fun hv8 H locs hW hS => ?_)
  by_cases hc9 : q7 = 0
  · rw [if_pos hc9] at hf
    refine k_tin (tgt := 76) hx hb hv8 dX4_carryOut_39 (by omega) (by omega) (by rw [hc9]; rfl) (by decide) ?_
    refine lv_aload_n hx hb dX4_carryOut_76 rfl (lv_at hl 3 rfl) ?_
    refine lv_iload_n hx hb dX4_carryOut_77 rfl (lv_at hl 2 rfl) ?_
    refine lv_iload_n hx hb dX4_carryOut_78 rfl (lv_at hl 1 rfl) ?_
    refine lv_iload hx hb dX4_carryOut_79 (lv_at hl 0 rfl) ?_
    obtain ⟨q10, hq10, hf⟩ := bind_el hf
    refine k_cVi (As := [.int (i3 (q1)), .int (i3 (q3)), .int (i3 (q5))]) (rest := []) ⟨hx, hb, hml, hown, hts⟩ (mG_storeSacks l G M0 q1 hv2 q3 hv4 q5 hv6 q10 hq10) (cwV 3 hts (gbV (inB_4 _ (List.mem_of_getElem? (i := 4) rfl)) (inB_4 _ (List.mem_of_getElem? (i := 5) rfl)) (inB_4 _ (List.mem_of_getElem? (i := 6) rfl)) (inB_1 _ (List.mem_of_getElem? (i := 2) rfl)) (inB_4 _ (List.mem_of_getElem? (i := 7) rfl))) rfl rfl rfl (by decide +kernel) ⟨Nat.le_of_ble_eq_true rfl, Nat.le_of_ble_eq_true rfl⟩) (rv_G hW) hW hS rfl hl.1 rfl (lv_room (Nat.le_of_ble_eq_true rfl)) dX4_carryOut_81 ⟨Nat.zero_le _, Nat.zero_le _⟩ (fun hv11 H locs hW hS => ?_)
    obtain rfl := some_el hf
    exact k_ret hx hb hr hlocks hW hS rfl hv11 dX4_carryOut_84
  · rw [if_neg hc9] at hf
    by_cases hc12 : q7 = 1
    · rw [if_pos hc12] at hf
      refine k_tin (tgt := 85) hx hb hv8 dX4_carryOut_39 (by omega) (by omega) (by rw [hc12]; rfl) (by decide) ?_
      refine lv_aload_n hx hb dX4_carryOut_85 rfl (lv_at hl 3 rfl) ?_
      refine lv_iload_n hx hb dX4_carryOut_86 rfl (lv_at hl 2 rfl) ?_
      refine lv_iload_n hx hb dX4_carryOut_87 rfl (lv_at hl 1 rfl) ?_
      obtain ⟨q13, hq13, hf⟩ := bind_el hf
      refine k_cVi (As := [.int (i3 (q1)), .int (i3 (q3))]) (rest := []) ⟨hx, hb, hml, hown, hts⟩ (mG_takeSacks l G M0 q1 hv2 q3 hv4 q13 hq13) (cwV 2 hts (gbV (inB_11 _ (List.mem_of_getElem? (i := 15) rfl)) (inB_11 _ (List.mem_of_getElem? (i := 16) rfl)) (inB_11 _ (List.mem_of_getElem? (i := 17) rfl)) (inB_1 _ (List.mem_of_getElem? (i := 2) rfl)) (inB_11 _ (List.mem_of_getElem? (i := 18) rfl))) rfl rfl rfl (by decide +kernel) ⟨Nat.le_of_ble_eq_true rfl, Nat.le_of_ble_eq_true rfl⟩) (rv_G hW) hW hS rfl hl.1 rfl (lv_room (Nat.le_of_ble_eq_true rfl)) dX4_carryOut_88 ⟨Nat.zero_le _, Nat.zero_le _⟩ (fun hv14 H locs hW hS => ?_)
      obtain rfl := some_el hf
      exact k_ret hx hb hr hlocks hW hS rfl hv14 dX4_carryOut_91
    · rw [if_neg hc12] at hf
      by_cases hc15 : q7 = 2
      · rw [if_pos hc15] at hf
        refine k_tin (tgt := 92) hx hb hv8 dX4_carryOut_39 (by omega) (by omega) (by rw [hc15]; rfl) (by decide) ?_
        refine lv_aload_n hx hb dX4_carryOut_92 rfl (lv_at hl 3 rfl) ?_
        refine lv_iload_n hx hb dX4_carryOut_93 rfl (lv_at hl 2 rfl) ?_
        refine lv_iload_n hx hb dX4_carryOut_94 rfl (lv_at hl 1 rfl) ?_
        refine lv_iload hx hb dX4_carryOut_95 (lv_at hl 0 rfl) ?_
        obtain ⟨q16, hq16, hf⟩ := bind_el hf
        refine k_cVi (As := [.int (i3 (q1)), .int (i3 (q3)), .int (i3 (q5))]) (rest := []) ⟨hx, hb, hml, hown, hts⟩ (mG_moveSacks l G M0 q1 hv2 q3 hv4 q5 hv6 q16 hq16) (cwV 3 hts (gbV (inB_12 _ (List.mem_of_getElem? (i := 11) rfl)) (inB_12 _ (List.mem_of_getElem? (i := 12) rfl)) (inB_12 _ (List.mem_of_getElem? (i := 13) rfl)) (inB_1 _ (List.mem_of_getElem? (i := 2) rfl)) (inB_12 _ (List.mem_of_getElem? (i := 14) rfl))) rfl rfl rfl (by decide +kernel) ⟨Nat.le_of_ble_eq_true rfl, Nat.le_of_ble_eq_true rfl⟩) (rv_G hW) hW hS rfl hl.1 rfl (lv_room (Nat.le_of_ble_eq_true rfl)) dX4_carryOut_97 ⟨Nat.zero_le _, Nat.zero_le _⟩ (fun hv17 H locs hW hS => ?_)
        obtain rfl := some_el hf
        exact k_ret hx hb hr hlocks hW hS rfl hv17 dX4_carryOut_100
      · rw [if_neg hc15] at hf
        by_cases hc18 : q7 = 3
        · rw [if_pos hc18] at hf
          refine k_tin (tgt := 101) hx hb hv8 dX4_carryOut_39 (by omega) (by omega) (by rw [hc18]; rfl) (by decide) ?_
          refine lv_aload_n hx hb dX4_carryOut_101 rfl (lv_at hl 3 rfl) ?_
          refine lv_iload_n hx hb dX4_carryOut_102 rfl (lv_at hl 2 rfl) ?_
          refine lv_iload_n hx hb dX4_carryOut_103 rfl (lv_at hl 1 rfl) ?_
          obtain ⟨q19, hq19, hf⟩ := bind_el hf
          refine k_cVi (As := [.int (i3 (q1)), .int (i3 (q3))]) (rest := []) ⟨hx, hb, hml, hown, hts⟩ (mG_fillOrder l G M0 q1 hv2 q3 hv4 q19 hq19) (cwV 2 hts (gbV (inB_12 _ (List.mem_of_getElem? (i := 20) rfl)) (inB_12 _ (List.mem_of_getElem? (i := 21) rfl)) (inB_12 _ (List.mem_of_getElem? (i := 22) rfl)) (inB_1 _ (List.mem_of_getElem? (i := 2) rfl)) (inB_12 _ (List.mem_of_getElem? (i := 23) rfl))) rfl rfl rfl (by decide +kernel) ⟨Nat.le_of_ble_eq_true rfl, Nat.le_of_ble_eq_true rfl⟩) (rv_G hW) hW hS rfl hl.1 rfl (lv_room (Nat.le_of_ble_eq_true rfl)) dX4_carryOut_104 ⟨Nat.zero_le _, Nat.zero_le _⟩ (fun hv20 H locs hW hS => ?_)
          obtain rfl := some_el hf
          exact k_ret hx hb hr hlocks hW hS rfl hv20 dX4_carryOut_107
        · rw [if_neg hc18] at hf
          by_cases hc21 : q7 = 4
          · rw [if_pos hc21] at hf
            refine k_tin (tgt := 108) hx hb hv8 dX4_carryOut_39 (by omega) (by omega) (by rw [hc21]; rfl) (by decide) ?_
            refine lv_aload_n hx hb dX4_carryOut_108 rfl (lv_at hl 3 rfl) ?_
            refine lv_iload_n hx hb dX4_carryOut_109 rfl (lv_at hl 2 rfl) ?_
            obtain ⟨q22, hq22, hf⟩ := bind_el hf
            refine k_cVi (As := [.int (i3 (q1))]) (rest := []) ⟨hx, hb, hml, hown, hts⟩ (mG_mend l G M0 q1 hv2 q22 hq22) (cwV 1 hts (gbV (inB_13 _ (List.mem_of_getElem? (i := 13) rfl)) (inB_13 _ (List.mem_of_getElem? (i := 14) rfl)) (inB_13 _ (List.mem_of_getElem? (i := 15) rfl)) (inB_1 _ (List.mem_of_getElem? (i := 2) rfl)) (inB_13 _ (List.mem_of_getElem? (i := 16) rfl))) rfl rfl rfl (by decide +kernel) ⟨Nat.le_of_ble_eq_true rfl, Nat.le_of_ble_eq_true rfl⟩) (rv_G hW) hW hS rfl hl.1 rfl (lv_room (Nat.le_of_ble_eq_true rfl)) dX4_carryOut_110 ⟨Nat.zero_le _, Nat.zero_le _⟩ (fun hv23 H locs hW hS => ?_)
            obtain rfl := some_el hf
            exact k_ret hx hb hr hlocks hW hS rfl hv23 dX4_carryOut_113
          · rw [if_neg hc21] at hf
            by_cases hc24 : q7 = 5
            · rw [if_pos hc24] at hf
              refine k_tin (tgt := 114) hx hb hv8 dX4_carryOut_39 (by omega) (by omega) (by rw [hc24]; rfl) (by decide) ?_
              refine lv_aload_n hx hb dX4_carryOut_114 rfl (lv_at hl 3 rfl) ?_
              refine lv_iload_n hx hb dX4_carryOut_115 rfl (lv_at hl 2 rfl) ?_
              obtain ⟨q25, hq25, hf⟩ := bind_el hf
              refine k_cVi (As := [.int (i3 (q1))]) (rest := []) ⟨hx, hb, hml, hown, hts⟩ (mG_letWeeksPass l G M0 q1 hv2 q25 hq25) (cwV 1 hts (gbV (inB_14 _ (List.mem_of_getElem? (i := 1) rfl)) (inB_14 _ (List.mem_of_getElem? (i := 2) rfl)) (inB_14 _ (List.mem_of_getElem? (i := 3) rfl)) (inB_1 _ (List.mem_of_getElem? (i := 2) rfl)) (inB_14 _ (List.mem_of_getElem? (i := 4) rfl))) rfl rfl rfl (by decide +kernel) ⟨Nat.le_of_ble_eq_true rfl, Nat.le_of_ble_eq_true rfl⟩) (rv_G hW) hW hS rfl hl.1 rfl (lv_room (Nat.le_of_ble_eq_true rfl)) dX4_carryOut_116 ⟨Nat.zero_le _, Nat.zero_le _⟩ (fun hv26 H locs hW hS => ?_)
              obtain rfl := some_el hf
              exact k_ret hx hb hr hlocks hW hS rfl hv26 dX4_carryOut_119
            · rw [if_neg hc24] at hf
              refine k_tdef (tgt := 120) hx hb hv8 dX4_carryOut_39 (by rcases (show q7 < 0 ∨ 5 < q7 by omega) with h9 | h9; exact Or.inl (by omega); exact Or.inl (by omega)) (by decide) ?_
              refine k_bipush hx hb dX4_carryOut_120 (by decide +kernel) ?_
              obtain rfl := some_el hf
              exact k_ret hx hb hr hlocks hW hS rfl (show inR (-12) by decide) dX4_carryOut_122
set_option maxHeartbeats 4000000 in
set_option maxRecDepth 100000 in
theorem mG_run (l : Launch) (G : gG) (M0 : MemG)  (r : MemG × Int) (hf : fG_run M0 = some r) : Met l yX4_run (wb yX4_run cX4_run 4 (some .int)) ({ frames := 7, cells := 0, slots := 0, locals := 152 } : Room) (PcG G M0 [.ref (gA G (0))]) (QcI G r.1 r.2) 0 0 (PA G) := by
  refine Met.ofW (cc := cX4_run) (maxL := 4) (ret := (some .int)) (by decide) rfl ?_
  intro p e s m args below meth c s₁ B hml hv0
  obtain ⟨hav, hW⟩ := hv0
  have hx := B.exec
  have hb := B.bytes
  have hr := B.returns
  have hts := atoms_spec (ws := (wb yX4_run cX4_run 4 (some .int))) B.pre
  have hown : s.vm.findClass RX4 = some m.cls := findClass_of_methodNamed B.named
  have hlocks := B.notSynchronized
  have hinX4 : ∀ w ∈ u_ws RX4 TX4 10, w ∈ (wb yX4_run cX4_run 4 (some .int)) := fun _ h => List.mem_cons_of_mem _ (inlX4 _ h)
  have hW : Wd G M0 s s.heap := hW
  have hS : va_S (PA G) s.heap s.heap [] := va_S.rf
  have hl := lv_entry [.ref (gA G (0))] (n := 4) (Nat.le_of_ble_eq_true rfl)
  have hent := lg_entry_eq m [.ref (gA G (0))] 4
  rw [← hav] at hent
  rw [hent]
  clear hent
  generalize (lg_sl [.ref (gA G (0))] ++ List.replicate (4 - (lg_sl [.ref (gA G (0))]).length) Slot.unset).toArray = ls at hl ⊢
  have hl : lv_has ls 4 [(0, .ref (gA G (0)))] := hl
  unfold fG_run at hf
  show W p l e ({ frames := 7, cells := 0, slots := 0, locals := 152 } : Room) s m args below meth c s.heap [] 0 0 (MQ below (QcI G r.1 r.2) args s 0 0 (PA G)) (F0 m 0 ls [])
  have L14 : ∀ (x2 : Int) (hx2 : inR x2), ∀ (z : (Int × MemG)) (q : ((MemG) ⊕ (Int × MemG))), loopN (fG_run_l52 x2) 200 z = some q → (match q with | .inl w => (∀ (H : Heap) (locs : List Loc) (ls : Array Slot), Wd G (w) s H → va_S (PA G) s.heap H locs → lv_has ls 4 [(0, .ref (gA G (0))), (2, .int (i3 (x2)))] → W p l e ({ frames := 7, cells := 0, slots := 0, locals := 152 } : Room) s m args below meth c H locs 0 0 (MQ below (QcI G r.1 r.2) args s 0 0 (PA G)) (F0 m 90 ls [])) | .inr w => (inR (w.1) → ∀ (H : Heap) (locs : List Loc) (ls : Array Slot), Wd G (w.2) s H → va_S (PA G) s.heap H locs → lv_has ls 4 [(0, .ref (gA G (0))), (3, .int (i3 (w.1)))] → W p l e ({ frames := 7, cells := 0, slots := 0, locals := 152 } : Room) s m args below meth c H locs 0 0 (MQ below (QcI G r.1 r.2) args s 0 0 (PA G)) (F0 m 65 ls []))) → (inR (z.1) → ∀ (H : Heap) (locs : List Loc) (ls : Array Slot), Wd G (z.2) s H → va_S (PA G) s.heap H locs → lv_has ls 4 [(0, .ref (gA G (0))), (2, .int (i3 (x2))), (3, .int (i3 (z.1)))] → W p l e ({ frames := 7, cells := 0, slots := 0, locals := 152 } : Room) s m args below meth c H locs 0 0 (MQ below (QcI G r.1 r.2) args s 0 0 (PA G)) (F0 m 52 ls [])) := by
    intro x2 hx2 z q hq hex
    refine loop_rule (fG_run_l52 x2) (fun z => inR (z.1) → ∀ (H : Heap) (locs : List Loc) (ls : Array Slot), Wd G (z.2) s H → va_S (PA G) s.heap H locs → lv_has ls 4 [(0, .ref (gA G (0))), (2, .int (i3 (x2))), (3, .int (i3 (z.1)))] → W p l e ({ frames := 7, cells := 0, slots := 0, locals := 152 } : Room) s m args below meth c H locs 0 0 (MQ below (QcI G r.1 r.2) args s 0 0 (PA G)) (F0 m 52 ls [])) (fun q => (match q with | .inl w => (∀ (H : Heap) (locs : List Loc) (ls : Array Slot), Wd G (w) s H → va_S (PA G) s.heap H locs → lv_has ls 4 [(0, .ref (gA G (0))), (2, .int (i3 (x2)))] → W p l e ({ frames := 7, cells := 0, slots := 0, locals := 152 } : Room) s m args below meth c H locs 0 0 (MQ below (QcI G r.1 r.2) args s 0 0 (PA G)) (F0 m 90 ls [])) | .inr w => (inR (w.1) → ∀ (H : Heap) (locs : List Loc) (ls : Array Slot), Wd G (w.2) s H → va_S (PA G) s.heap H locs → lv_has ls 4 [(0, .ref (gA G (0))), (3, .int (i3 (w.1)))] → W p l e ({ frames := 7, cells := 0, slots := 0, locals := 152 } : Room) s m args below meth c H locs 0 0 (MQ below (QcI G r.1 r.2) args s 0 0 (PA G)) (F0 m 65 ls [])))) ?_ 200 z q hq hex
    clear hq hex q z
    intro z x hf hK hz3 H locs ls hW hS hl
    unfold fG_run_l52 at hf
    refine lv_iload_n hx hb dX4_run_52 rfl (lv_at hl 2 rfl) ?_
    refine lv_iload_n hx hb dX4_run_53 rfl (lv_at hl 1 rfl) ?_
    refine k_icmp_ge (tgt := 90) hx hb hz3 hx2 dX4_run_54 (by decide) (fun hc9 => ?_) (fun hc9 => ?_)
    · rw [if_neg hc9] at hf
      obtain rfl := some_el hf
      exact hK  _ _ _ hW hS (lv_sub hl [0, 1] rfl)
    · rw [if_pos hc9] at hf
      refine lv_aload_n hx hb dX4_run_57 rfl (lv_at hl 0 rfl) ?_
      refine lv_iload_n hx hb dX4_run_58 rfl (lv_at hl 2 rfl) ?_
      obtain ⟨q10, hq10, hf⟩ := bind_el hf
      refine k_cVi (As := [.int (i3 (z.1))]) (rest := []) ⟨hx, hb, hml, hown, hts⟩ (mG_carryOut l G z.2 z.1 hz3 q10 hq10) (cwV 1 hts (gbV (inB_19 _ (List.mem_of_getElem? (i := 8) rfl)) (inB_19 _ (List.mem_of_getElem? (i := 9) rfl)) (inB_19 _ (List.mem_of_getElem? (i := 10) rfl)) (inB_1 _ (List.mem_of_getElem? (i := 2) rfl)) (inB_19 _ (List.mem_of_getElem? (i := 11) rfl))) rfl rfl rfl (by decide +kernel) ⟨Nat.le_of_ble_eq_true rfl, Nat.le_of_ble_eq_true rfl⟩) (rv_G hW) hW hS rfl hl.1 rfl (lv_room (Nat.le_of_ble_eq_true rfl)) dX4_run_59 ⟨Nat.zero_le _, Nat.zero_le _⟩ (fun hv11 H locs hW hS => ?_)
      refine k_if_ge (tgt := 84) hx hb hv11 dX4_run_62 (by decide) (fun hc12 => ?_) (fun hc12 => ?_)
      · rw [if_neg hc12] at hf
        obtain ⟨hg13, hf⟩ := gd_el hf
        refine k_iinc (lv' := [(3, .int (i3 (z.1 + 1))), (0, .ref (gA G (0))), (2, .int (i3 (x2)))]) hx hb dX4_run_84 hl (k := 2) rfl (by decide) rfl (fun ls hl => ?_)
        refine lv_goto (tgt := 52) hx hb dX4_run_87 (by decide) ?_
        obtain rfl := some_el hf
        exact hK hg13 _ _ _ hW hS (lv_sub hl [1, 2, 0] rfl)
      · rw [if_pos hc12] at hf
        obtain rfl := some_el hf
        exact hK hz3 _ _ _ hW hS (lv_sub hl [0, 2] rfl)
  refine lv_aload_n hx hb dX4_run_0 rfl (lv_at hl 0 rfl) ?_
  refine va_get (D := G.1) (ci := 4) (v := .ref (gA G (2))) (C := RX4) (T := TX4) (N := 10) hx hb hts hinX4 hown hW.K hW.P 0 (he_G G M0) rfl 5 (by decide) (hts _ (List.mem_cons_of_mem _ (inB_2 _ (List.mem_of_getElem? (i := 0) rfl)))) (fun _ h9 => h9) rfl dX4_run_1 ?_
  obtain ⟨q1, hq1, hf⟩ := bind_el hf
  refine k_cVz (As := []) (rest := []) ⟨hx, hb, hml, hown, hts⟩ (mT_readCommands l G M0 q1 hq1) (cwV 0 hts (gbV (inB_17 _ (List.mem_of_getElem? (i := 3) rfl)) (inB_17 _ (List.mem_of_getElem? (i := 4) rfl)) (inB_17 _ (List.mem_of_getElem? (i := 5) rfl)) (inB_1 _ (List.mem_of_getElem? (i := 23) rfl)) (inB_17 _ (List.mem_of_getElem? (i := 6) rfl))) rfl rfl rfl (by decide +kernel) ⟨Nat.le_of_ble_eq_true rfl, Nat.le_of_ble_eq_true rfl⟩) (rv_T hW) hW hS rfl hl.1 rfl (lv_room (Nat.le_of_ble_eq_true rfl)) dX4_run_4 ⟨Nat.zero_le _, Nat.zero_le _⟩ (fun hv2 H locs hW hS => ?_)
  refine lv_istore_n (lv' := [(1, .int (i3 (q1.2))), (0, .ref (gA G (0)))]) hx hb dX4_run_7 rfl hl (by decide) rfl (fun ls hl => ?_)
  refine lv_aload_n hx hb dX4_run_8 rfl (lv_at hl 1 rfl) ?_
  refine va_get (D := G.1) (ci := 4) (v := .ref (gA G (2))) (C := RX4) (T := TX4) (N := 10) hx hb hts hinX4 hown hW.K hW.P 0 (he_G G q1.1) rfl 5 (by decide) (hts _ (List.mem_cons_of_mem _ (inB_2 _ (List.mem_of_getElem? (i := 0) rfl)))) (fun _ h9 => h9) rfl dX4_run_9 ?_
  obtain ⟨m3, hm3, hf⟩ := bind_el hf
  refine k_cVv (As := []) (rest := []) ⟨hx, hb, hml, hown, hts⟩ (mT_becomeEmpty l G q1.1 m3 hm3) (cwV 0 hts (gbV (inB_18 _ (List.mem_of_getElem? (i := 20) rfl)) (inB_18 _ (List.mem_of_getElem? (i := 21) rfl)) (inB_18 _ (List.mem_of_getElem? (i := 22) rfl)) (inB_1 _ (List.mem_of_getElem? (i := 23) rfl)) (inB_18 _ (List.mem_of_getElem? (i := 23) rfl))) rfl rfl rfl (by decide +kernel) ⟨Nat.le_of_ble_eq_true rfl, Nat.le_of_ble_eq_true rfl⟩) (rv_T hW) hW hS rfl hl.1 rfl (lv_room (Nat.le_of_ble_eq_true rfl)) dX4_run_12 ⟨Nat.zero_le _, Nat.zero_le _⟩ (fun H locs hW hS => ?_)
  refine lv_iload_n hx hb dX4_run_15 rfl (lv_at hl 0 rfl) ?_
  refine k_if_ne (tgt := 31) hx hb (inR_z hv2) dX4_run_16 (by decide) (fun hc5 => ?_) (fun hc5 => ?_)
  · rw [if_neg hc5] at hf
    refine lv_aload_n hx hb dX4_run_31 rfl (lv_at hl 1 rfl) ?_
    refine va_get (D := G.1) (ci := 4) (v := .ref (gA G (5 + 1))) (C := RX4) (T := TX4) (N := 10) hx hb hts hinX4 hown hW.K hW.P 0 (he_G G m3) rfl 1 (by decide) (hts _ (List.mem_cons_of_mem _ (inB_1 _ (List.mem_of_getElem? (i := 14) rfl)))) (fun _ h9 => h9) rfl dX4_run_32 ?_
    refine lv_aload_n hx hb dX4_run_35 rfl (lv_at hl 1 rfl) ?_
    refine va_get (D := G.1) (ci := 4) (v := .ref (gA G (5 + 0))) (C := RX4) (T := TX4) (N := 10) hx hb hts hinX4 hown hW.K hW.P 0 (he_G G m3) rfl 0 (by decide) (hts _ (List.mem_cons_of_mem _ (inB_1 _ (List.mem_of_getElem? (i := 13) rfl)))) (fun _ h9 => h9) rfl dX4_run_36 ?_
    obtain ⟨m6, hm6, hf⟩ := bind_el hf
    refine k_cVv (As := [.ref (gA G (5 + 0))]) (rest := []) ⟨hx, hb, hml, hown, hts⟩ (mW_copyFrom l G m3 (1) (by decide) (0) (by decide) m6 hm6) (cwV 1 hts (gbV (inB_3 _ (List.mem_of_getElem? (i := 22) rfl)) (inB_3 _ (List.mem_of_getElem? (i := 23) rfl)) (inB_4 _ (List.mem_of_getElem? (i := 0) rfl)) (inB_1 _ (List.mem_of_getElem? (i := 12) rfl)) (inB_4 _ (List.mem_of_getElem? (i := 1) rfl))) rfl rfl rfl (by decide +kernel) ⟨Nat.le_of_ble_eq_true rfl, Nat.le_of_ble_eq_true rfl⟩) (rv_wall (by decide) hW) hW hS rfl hl.1 rfl (lv_room (Nat.le_of_ble_eq_true rfl)) dX4_run_39 ⟨Nat.zero_le _, Nat.zero_le _⟩ (fun H locs hW hS => ?_)
    refine lv_aload_n hx hb dX4_run_42 rfl (lv_at hl 1 rfl) ?_
    refine va_get (D := G.1) (ci := 4) (v := .ref (gA G (2))) (C := RX4) (T := TX4) (N := 10) hx hb hts hinX4 hown hW.K hW.P 0 (he_G G m6) rfl 5 (by decide) (hts _ (List.mem_cons_of_mem _ (inB_2 _ (List.mem_of_getElem? (i := 0) rfl)))) (fun _ h9 => h9) rfl dX4_run_43 ?_
    refine k_cVi (As := []) (rest := []) ⟨hx, hb, hml, hown, hts⟩ (mT_commandCount l G m6 _ rfl) (cwV 0 hts (gbV (inB_19 _ (List.mem_of_getElem? (i := 4) rfl)) (inB_19 _ (List.mem_of_getElem? (i := 5) rfl)) (inB_19 _ (List.mem_of_getElem? (i := 6) rfl)) (inB_1 _ (List.mem_of_getElem? (i := 23) rfl)) (inB_19 _ (List.mem_of_getElem? (i := 7) rfl))) rfl rfl rfl (by decide +kernel) ⟨Nat.le_of_ble_eq_true rfl, Nat.le_of_ble_eq_true rfl⟩) (rv_T hW) hW hS rfl hl.1 rfl (lv_room (Nat.le_of_ble_eq_true rfl)) dX4_run_46 ⟨Nat.zero_le _, Nat.zero_le _⟩ (fun hv8 H locs hW hS => ?_)
    refine lv_istore_n (lv' := [(2, .int (i3 ((fT_commandCount m6)))), (1, .int (i3 (q1.2))), (0, .ref (gA G (0)))]) hx hb dX4_run_49 rfl hl (by decide) rfl (fun ls hl => ?_)
    refine k_const hx hb dX4_run_50 ?_
    refine lv_istore_n (lv' := [(3, .int (i3 (0))), (2, .int (i3 ((fT_commandCount m6)))), (1, .int (i3 (q1.2))), (0, .ref (gA G (0)))]) hx hb dX4_run_51 rfl hl (by decide) rfl (fun ls hl => ?_)
    obtain ⟨q15, hq15, hf⟩ := bind_el hf
    refine L14 ((fT_commandCount m6)) hv8 (0, m6) q15 hq15 ?_ (show inR (0) by decide) _ _ _ hW hS (lv_sub hl [3, 1, 0] rfl)
    clear hq15
    rcases q15 with w16 | w17
    · dsimp only at hf
      intro  H locs ls hW hS hl
      refine lv_aload_n hx hb dX4_run_90 rfl (lv_at hl 0 rfl) ?_
      refine lv_iload_n hx hb dX4_run_91 rfl (lv_at hl 1 rfl) ?_
      obtain ⟨q18, hq18, hf⟩ := bind_el hf
      refine k_cVi (As := [.int (i3 ((fT_commandCount m6)))]) (rest := []) ⟨hx, hb, hml, hown, hts⟩ (mG_remember l G w16 ((fT_commandCount m6)) hv8 q18 hq18) (cwV 1 hts (gbV (inB_7 _ (List.mem_of_getElem? (i := 7) rfl)) (inB_7 _ (List.mem_of_getElem? (i := 8) rfl)) (inB_7 _ (List.mem_of_getElem? (i := 9) rfl)) (inB_1 _ (List.mem_of_getElem? (i := 2) rfl)) (inB_7 _ (List.mem_of_getElem? (i := 10) rfl))) rfl rfl rfl (by decide +kernel) ⟨Nat.le_of_ble_eq_true rfl, Nat.le_of_ble_eq_true rfl⟩) (rv_G hW) hW hS rfl hl.1 rfl (lv_room (Nat.le_of_ble_eq_true rfl)) dX4_run_92 ⟨Nat.zero_le _, Nat.zero_le _⟩ (fun hv19 H locs hW hS => ?_)
      obtain rfl := some_el hf
      exact k_ret hx hb hr hlocks hW hS rfl hv19 dX4_run_95
    · dsimp only at hf
      intro hv20 H locs ls hW hS hl
      refine lv_aload_n hx hb dX4_run_65 rfl (lv_at hl 0 rfl) ?_
      refine va_get (D := G.1) (ci := 4) (v := .ref (gA G (5 + 0))) (C := RX4) (T := TX4) (N := 10) hx hb hts hinX4 hown hW.K hW.P 0 (he_G G w17.2) rfl 0 (by decide) (hts _ (List.mem_cons_of_mem _ (inB_1 _ (List.mem_of_getElem? (i := 13) rfl)))) (fun _ h9 => h9) rfl dX4_run_66 ?_
      refine lv_aload_n hx hb dX4_run_69 rfl (lv_at hl 0 rfl) ?_
      refine va_get (D := G.1) (ci := 4) (v := .ref (gA G (5 + 1))) (C := RX4) (T := TX4) (N := 10) hx hb hts hinX4 hown hW.K hW.P 0 (he_G G w17.2) rfl 1 (by decide) (hts _ (List.mem_cons_of_mem _ (inB_1 _ (List.mem_of_getElem? (i := 14) rfl)))) (fun _ h9 => h9) rfl dX4_run_70 ?_
      obtain ⟨m21, hm21, hf⟩ := bind_el hf
      refine k_cVv (As := [.ref (gA G (5 + 1))]) (rest := []) ⟨hx, hb, hml, hown, hts⟩ (mW_copyFrom l G w17.2 (0) (by decide) (1) (by decide) m21 hm21) (cwV 1 hts (gbV (inB_3 _ (List.mem_of_getElem? (i := 22) rfl)) (inB_3 _ (List.mem_of_getElem? (i := 23) rfl)) (inB_4 _ (List.mem_of_getElem? (i := 0) rfl)) (inB_1 _ (List.mem_of_getElem? (i := 12) rfl)) (inB_4 _ (List.mem_of_getElem? (i := 1) rfl))) rfl rfl rfl (by decide +kernel) ⟨Nat.le_of_ble_eq_true rfl, Nat.le_of_ble_eq_true rfl⟩) (rv_wall (by decide) hW) hW hS rfl hl.1 rfl (lv_room (Nat.le_of_ble_eq_true rfl)) dX4_run_73 ⟨Nat.zero_le _, Nat.zero_le _⟩ (fun H locs hW hS => ?_)
      refine lv_aload_n hx hb dX4_run_76 rfl (lv_at hl 0 rfl) ?_
      refine k_bipush hx hb dX4_run_77 (by decide +kernel) ?_
      refine lv_iload_n hx hb dX4_run_79 rfl (lv_at hl 1 rfl) ?_
      obtain ⟨q23, hq23, hf⟩ := bind_el hf
      refine k_cVi (As := [.int (i3 (9)), .int (i3 (w17.1))]) (rest := []) ⟨hx, hb, hml, hown, hts⟩ (mG_refuse l G m21 9 (show inR (9) by decide) w17.1 hv20 q23 hq23) (cwV 2 hts (gbV (inB_5 _ (List.mem_of_getElem? (i := 15) rfl)) (inB_5 _ (List.mem_of_getElem? (i := 16) rfl)) (inB_5 _ (List.mem_of_getElem? (i := 17) rfl)) (inB_1 _ (List.mem_of_getElem? (i := 2) rfl)) (inB_5 _ (List.mem_of_getElem? (i := 18) rfl))) rfl rfl rfl (by decide +kernel) ⟨Nat.le_of_ble_eq_true rfl, Nat.le_of_ble_eq_true rfl⟩) (rv_G hW) hW hS rfl hl.1 rfl (lv_room (Nat.le_of_ble_eq_true rfl)) dX4_run_80 ⟨Nat.zero_le _, Nat.zero_le _⟩ (fun hv24 H locs hW hS => ?_)
      obtain rfl := some_el hf
      exact k_ret hx hb hr hlocks hW hS rfl hv24 dX4_run_83
  · rw [if_pos hc5] at hf
    refine k_sipush hx hb dX4_run_19 (by decide +kernel) ?_
    refine lv_aload_n hx hb dX4_run_22 rfl (lv_at hl 1 rfl) ?_
    refine va_get (D := G.1) (ci := 4) (v := .ref (gA G (2))) (C := RX4) (T := TX4) (N := 10) hx hb hts hinX4 hown hW.K hW.P 0 (he_G G m3) rfl 5 (by decide) (hts _ (List.mem_cons_of_mem _ (inB_2 _ (List.mem_of_getElem? (i := 0) rfl)))) (fun _ h9 => h9) rfl dX4_run_23 ?_
    refine k_cVi (As := []) (rest := [.int (i3 ((-1000)))]) ⟨hx, hb, hml, hown, hts⟩ (mT_faultPosition l G m3 _ rfl) (cwV 0 hts (gbV (inB_19 _ (List.mem_of_getElem? (i := 0) rfl)) (inB_19 _ (List.mem_of_getElem? (i := 1) rfl)) (inB_19 _ (List.mem_of_getElem? (i := 2) rfl)) (inB_1 _ (List.mem_of_getElem? (i := 23) rfl)) (inB_19 _ (List.mem_of_getElem? (i := 3) rfl))) rfl rfl rfl (by decide +kernel) ⟨Nat.le_of_ble_eq_true rfl, Nat.le_of_ble_eq_true rfl⟩) (rv_T hW) hW hS rfl hl.1 rfl (lv_room (Nat.le_of_ble_eq_true rfl)) dX4_run_26 ⟨Nat.zero_le _, Nat.zero_le _⟩ (fun hv25 H locs hW hS => ?_)
    refine k_sub hx hb dX4_run_29 ?_
    obtain ⟨hg26, hf⟩ := gd_el hf
    obtain rfl := some_el hf
    exact k_ret hx hb hr hlocks hW hS rfl hg26 dX4_run_30
set_option maxHeartbeats 4000000 in
set_option maxRecDepth 100000 in
theorem mG_save (l : Launch) (G : gG) (M0 : MemG)  (r : MemG × Int) (hf : fG_save M0 = some r) : Met l yX4_save (wb yX4_save cX4_save 1 (some .int)) ({ frames := 4, cells := 0, slots := 0, locals := 86 } : Room) (PcG G M0 [.ref (gA G (0))]) (QcI G r.1 r.2) 0 0 (PA G) := by
  refine Met.ofW (cc := cX4_save) (maxL := 1) (ret := (some .int)) (by decide) rfl ?_
  intro p e s m args below meth c s₁ B hml hv0
  obtain ⟨hav, hW⟩ := hv0
  have hx := B.exec
  have hb := B.bytes
  have hr := B.returns
  have hts := atoms_spec (ws := (wb yX4_save cX4_save 1 (some .int))) B.pre
  have hown : s.vm.findClass RX4 = some m.cls := findClass_of_methodNamed B.named
  have hlocks := B.notSynchronized
  have hinX4 : ∀ w ∈ u_ws RX4 TX4 10, w ∈ (wb yX4_save cX4_save 1 (some .int)) := fun _ h => List.mem_cons_of_mem _ (inlX4 _ h)
  have hW : Wd G M0 s s.heap := hW
  have hS : va_S (PA G) s.heap s.heap [] := va_S.rf
  have hl := lv_entry [.ref (gA G (0))] (n := 1) (Nat.le_of_ble_eq_true rfl)
  have hent := lg_entry_eq m [.ref (gA G (0))] 1
  rw [← hav] at hent
  rw [hent]
  clear hent
  generalize (lg_sl [.ref (gA G (0))] ++ List.replicate (1 - (lg_sl [.ref (gA G (0))]).length) Slot.unset).toArray = ls at hl ⊢
  have hl : lv_has ls 1 [(0, .ref (gA G (0)))] := hl
  unfold fG_save at hf
  show W p l e ({ frames := 4, cells := 0, slots := 0, locals := 86 } : Room) s m args below meth c s.heap [] 0 0 (MQ below (QcI G r.1 r.2) args s 0 0 (PA G)) (F0 m 0 ls [])
  refine lv_aload_n hx hb dX4_save_0 rfl (lv_at hl 0 rfl) ?_
  refine va_get (D := G.1) (ci := 4) (v := .ref (gA G (5 + 2))) (C := RX4) (T := TX4) (N := 10) hx hb hts hinX4 hown hW.K hW.P 0 (he_G G M0) rfl 2 (by decide) (hts _ (List.mem_cons_of_mem _ (inB_1 _ (List.mem_of_getElem? (i := 15) rfl)))) (fun _ h9 => h9) rfl dX4_save_1 ?_
  refine lv_aload_n hx hb dX4_save_4 rfl (lv_at hl 0 rfl) ?_
  refine va_get (D := G.1) (ci := 4) (v := .ref (gA G (5 + 0))) (C := RX4) (T := TX4) (N := 10) hx hb hts hinX4 hown hW.K hW.P 0 (he_G G M0) rfl 0 (by decide) (hts _ (List.mem_cons_of_mem _ (inB_1 _ (List.mem_of_getElem? (i := 13) rfl)))) (fun _ h9 => h9) rfl dX4_save_5 ?_
  obtain ⟨m1, hm1, hf⟩ := bind_el hf
  refine k_cVv (As := [.ref (gA G (5 + 0))]) (rest := []) ⟨hx, hb, hml, hown, hts⟩ (mW_copyFrom l G M0 (2) (by decide) (0) (by decide) m1 hm1) (cwV 1 hts (gbV (inB_3 _ (List.mem_of_getElem? (i := 22) rfl)) (inB_3 _ (List.mem_of_getElem? (i := 23) rfl)) (inB_4 _ (List.mem_of_getElem? (i := 0) rfl)) (inB_1 _ (List.mem_of_getElem? (i := 12) rfl)) (inB_4 _ (List.mem_of_getElem? (i := 1) rfl))) rfl rfl rfl (by decide +kernel) ⟨Nat.le_of_ble_eq_true rfl, Nat.le_of_ble_eq_true rfl⟩) (rv_wall (by decide) hW) hW hS rfl hl.1 rfl (lv_room (Nat.le_of_ble_eq_true rfl)) dX4_save_8 ⟨Nat.zero_le _, Nat.zero_le _⟩ (fun H locs hW hS => ?_)
  refine lv_aload_n hx hb dX4_save_11 rfl (lv_at hl 0 rfl) ?_
  refine k_const hx hb dX4_save_12 ?_
  obtain ⟨m3, hm3, hf⟩ := bind_el hf
  replace hm3 := some_el hm3
  refine k_put (C := RX4) (T := TX4) (N := 10) (ty := .boolean) (o := 0) hx hb hW hS hts hinX4 tyX4 tyX4_ok nmX4 hown (by decide) (pe_0 G _) rfl 3 (by decide) (pu_0_3 G _ _) (hts _ (List.mem_cons_of_mem _ (inB_1 _ (List.mem_of_getElem? (i := 16) rfl)))) rfl rfl (by decide +kernel) (by decide +kernel) (by decide +kernel) (Nat.le_of_ble_eq_true rfl) (show inR (1) by decide) dX4_save_13 (fun H locs hW hS => ?_)
  rw [hm3] at hW
  refine lv_aload_n hx hb dX4_save_16 rfl (lv_at hl 0 rfl) ?_
  refine va_get (D := G.1) (ci := 4) (v := .ref (gA G (5 + 0))) (C := RX4) (T := TX4) (N := 10) hx hb hts hinX4 hown hW.K hW.P 0 (he_G G m3) rfl 0 (by decide) (hts _ (List.mem_cons_of_mem _ (inB_1 _ (List.mem_of_getElem? (i := 13) rfl)))) (fun _ h9 => h9) rfl dX4_save_17 ?_
  obtain ⟨q4, hq4, hf⟩ := bind_el hf
  refine k_cVi (As := []) (rest := []) ⟨hx, hb, hml, hown, hts⟩ (mW_allSacks l G m3 (0) (by decide) q4 hq4) (cwV 0 hts (gbV (inB_8 _ (List.mem_of_getElem? (i := 11) rfl)) (inB_8 _ (List.mem_of_getElem? (i := 12) rfl)) (inB_8 _ (List.mem_of_getElem? (i := 13) rfl)) (inB_1 _ (List.mem_of_getElem? (i := 12) rfl)) (inB_8 _ (List.mem_of_getElem? (i := 14) rfl))) rfl rfl rfl (by decide +kernel) ⟨Nat.le_of_ble_eq_true rfl, Nat.le_of_ble_eq_true rfl⟩) (rv_wall (by decide) hW) hW hS rfl hl.1 rfl (lv_room (Nat.le_of_ble_eq_true rfl)) dX4_save_20 ⟨Nat.zero_le _, Nat.zero_le _⟩ (fun hv5 H locs hW hS => ?_)
  obtain rfl := some_el hf
  exact k_ret hx hb hr hlocks hW hS rfl hv5 dX4_save_23
set_option maxHeartbeats 4000000 in
set_option maxRecDepth 100000 in
theorem mG_store (l : Launch) (G : gG) (M0 : MemG) (x1 : Int) (hx1 : inR x1) (x2 : Int) (hx2 : inR x2) (x3 : Int) (hx3 : inR x3) (r : MemG × Int) (hf : fG_store M0 x1 x2 x3 = some r) : Met l yX4_store (wb yX4_store cX4_store 4 (some .int)) ({ frames := 5, cells := 0, slots := 0, locals := 115 } : Room) (PcG G M0 [.ref (gA G (0)), .int (i3 (x1)), .int (i3 (x2)), .int (i3 (x3))]) (QcI G r.1 r.2) 0 0 (PA G) := by
  refine Met.ofW (cc := cX4_store) (maxL := 4) (ret := (some .int)) (by decide) rfl ?_
  intro p e s m args below meth c s₁ B hml hv0
  obtain ⟨hav, hW⟩ := hv0
  have hx := B.exec
  have hb := B.bytes
  have hr := B.returns
  have hts := atoms_spec (ws := (wb yX4_store cX4_store 4 (some .int))) B.pre
  have hown : s.vm.findClass RX4 = some m.cls := findClass_of_methodNamed B.named
  have hlocks := B.notSynchronized
  have hinX4 : ∀ w ∈ u_ws RX4 TX4 10, w ∈ (wb yX4_store cX4_store 4 (some .int)) := fun _ h => List.mem_cons_of_mem _ (inlX4 _ h)
  have hW : Wd G M0 s s.heap := hW
  have hS : va_S (PA G) s.heap s.heap [] := va_S.rf
  have hl := lv_entry [.ref (gA G (0)), .int (i3 (x1)), .int (i3 (x2)), .int (i3 (x3))] (n := 4) (Nat.le_of_ble_eq_true rfl)
  have hent := lg_entry_eq m [.ref (gA G (0)), .int (i3 (x1)), .int (i3 (x2)), .int (i3 (x3))] 4
  rw [← hav] at hent
  rw [hent]
  clear hent
  generalize (lg_sl [.ref (gA G (0)), .int (i3 (x1)), .int (i3 (x2)), .int (i3 (x3))] ++ List.replicate (4 - (lg_sl [.ref (gA G (0)), .int (i3 (x1)), .int (i3 (x2)), .int (i3 (x3))]).length) Slot.unset).toArray = ls at hl ⊢
  have hl : lv_has ls 4 [(0, .ref (gA G (0))), (1, .int (i3 (x1))), (2, .int (i3 (x2))), (3, .int (i3 (x3)))] := hl
  unfold fG_store at hf
  show W p l e ({ frames := 5, cells := 0, slots := 0, locals := 115 } : Room) s m args below meth c s.heap [] 0 0 (MQ below (QcI G r.1 r.2) args s 0 0 (PA G)) (F0 m 0 ls [])
  refine lv_aload_n hx hb dX4_store_0 rfl (lv_at hl 0 rfl) ?_
  refine va_get (D := G.1) (ci := 4) (v := .ref (gA G (5 + 1))) (C := RX4) (T := TX4) (N := 10) hx hb hts hinX4 hown hW.K hW.P 0 (he_G G M0) rfl 1 (by decide) (hts _ (List.mem_cons_of_mem _ (inB_1 _ (List.mem_of_getElem? (i := 14) rfl)))) (fun _ h9 => h9) rfl dX4_store_1 ?_
  refine lv_aload_n hx hb dX4_store_4 rfl (lv_at hl 0 rfl) ?_
  refine va_get (D := G.1) (ci := 4) (v := .ref (gA G (5 + 0))) (C := RX4) (T := TX4) (N := 10) hx hb hts hinX4 hown hW.K hW.P 0 (he_G G M0) rfl 0 (by decide) (hts _ (List.mem_cons_of_mem _ (inB_1 _ (List.mem_of_getElem? (i := 13) rfl)))) (fun _ h9 => h9) rfl dX4_store_5 ?_
  obtain ⟨m1, hm1, hf⟩ := bind_el hf
  refine k_cVv (As := [.ref (gA G (5 + 0))]) (rest := []) ⟨hx, hb, hml, hown, hts⟩ (mW_copyFrom l G M0 (1) (by decide) (0) (by decide) m1 hm1) (cwV 1 hts (gbV (inB_3 _ (List.mem_of_getElem? (i := 22) rfl)) (inB_3 _ (List.mem_of_getElem? (i := 23) rfl)) (inB_4 _ (List.mem_of_getElem? (i := 0) rfl)) (inB_1 _ (List.mem_of_getElem? (i := 12) rfl)) (inB_4 _ (List.mem_of_getElem? (i := 1) rfl))) rfl rfl rfl (by decide +kernel) ⟨Nat.le_of_ble_eq_true rfl, Nat.le_of_ble_eq_true rfl⟩) (rv_wall (by decide) hW) hW hS rfl hl.1 rfl (lv_room (Nat.le_of_ble_eq_true rfl)) dX4_store_8 ⟨Nat.zero_le _, Nat.zero_le _⟩ (fun H locs hW hS => ?_)
  refine lv_aload_n hx hb dX4_store_11 rfl (lv_at hl 0 rfl) ?_
  refine lv_aload_n hx hb dX4_store_12 rfl (lv_at hl 0 rfl) ?_
  refine lv_iload_n hx hb dX4_store_13 rfl (lv_at hl 1 rfl) ?_
  refine lv_iload_n hx hb dX4_store_14 rfl (lv_at hl 2 rfl) ?_
  refine lv_iload_n hx hb dX4_store_15 rfl (lv_at hl 3 rfl) ?_
  obtain ⟨q3, hq3, hf⟩ := bind_el hf
  refine k_cVi (As := [.int (i3 (x1)), .int (i3 (x2)), .int (i3 (x3))]) (rest := [.ref (gA G (0))]) ⟨hx, hb, hml, hown, hts⟩ (mG_storeSacks l G m1 x1 hx1 x2 hx2 x3 hx3 q3 hq3) (cwV 3 hts (gbV (inB_4 _ (List.mem_of_getElem? (i := 4) rfl)) (inB_4 _ (List.mem_of_getElem? (i := 5) rfl)) (inB_4 _ (List.mem_of_getElem? (i := 6) rfl)) (inB_1 _ (List.mem_of_getElem? (i := 2) rfl)) (inB_4 _ (List.mem_of_getElem? (i := 7) rfl))) rfl rfl rfl (by decide +kernel) ⟨Nat.le_of_ble_eq_true rfl, Nat.le_of_ble_eq_true rfl⟩) (rv_G hW) hW hS rfl hl.1 rfl (lv_room (Nat.le_of_ble_eq_true rfl)) dX4_store_16 ⟨Nat.zero_le _, Nat.zero_le _⟩ (fun hv4 H locs hW hS => ?_)
  obtain ⟨q5, hq5, hf⟩ := bind_el hf
  refine k_cVi (As := [.int (i3 (q3.2))]) (rest := []) ⟨hx, hb, hml, hown, hts⟩ (mG_remember l G q3.1 q3.2 hv4 q5 hq5) (cwV 1 hts (gbV (inB_7 _ (List.mem_of_getElem? (i := 7) rfl)) (inB_7 _ (List.mem_of_getElem? (i := 8) rfl)) (inB_7 _ (List.mem_of_getElem? (i := 9) rfl)) (inB_1 _ (List.mem_of_getElem? (i := 2) rfl)) (inB_7 _ (List.mem_of_getElem? (i := 10) rfl))) rfl rfl rfl (by decide +kernel) ⟨Nat.le_of_ble_eq_true rfl, Nat.le_of_ble_eq_true rfl⟩) (rv_G hW) hW hS rfl hl.1 rfl (lv_room (Nat.le_of_ble_eq_true rfl)) dX4_store_19 ⟨Nat.zero_le _, Nat.zero_le _⟩ (fun hv6 H locs hW hS => ?_)
  obtain rfl := some_el hf
  exact k_ret hx hb hr hlocks hW hS rfl hv6 dX4_store_22
set_option maxHeartbeats 4000000 in
set_option maxRecDepth 100000 in
theorem mG_take (l : Launch) (G : gG) (M0 : MemG) (x1 : Int) (hx1 : inR x1) (x2 : Int) (hx2 : inR x2) (r : MemG × Int) (hf : fG_take M0 x1 x2 = some r) : Met l yX4_take (wb yX4_take cX4_take 3 (some .int)) ({ frames := 4, cells := 0, slots := 0, locals := 90 } : Room) (PcG G M0 [.ref (gA G (0)), .int (i3 (x1)), .int (i3 (x2))]) (QcI G r.1 r.2) 0 0 (PA G) := by
  refine Met.ofW (cc := cX4_take) (maxL := 3) (ret := (some .int)) (by decide) rfl ?_
  intro p e s m args below meth c s₁ B hml hv0
  obtain ⟨hav, hW⟩ := hv0
  have hx := B.exec
  have hb := B.bytes
  have hr := B.returns
  have hts := atoms_spec (ws := (wb yX4_take cX4_take 3 (some .int))) B.pre
  have hown : s.vm.findClass RX4 = some m.cls := findClass_of_methodNamed B.named
  have hlocks := B.notSynchronized
  have hinX4 : ∀ w ∈ u_ws RX4 TX4 10, w ∈ (wb yX4_take cX4_take 3 (some .int)) := fun _ h => List.mem_cons_of_mem _ (inlX4 _ h)
  have hW : Wd G M0 s s.heap := hW
  have hS : va_S (PA G) s.heap s.heap [] := va_S.rf
  have hl := lv_entry [.ref (gA G (0)), .int (i3 (x1)), .int (i3 (x2))] (n := 3) (Nat.le_of_ble_eq_true rfl)
  have hent := lg_entry_eq m [.ref (gA G (0)), .int (i3 (x1)), .int (i3 (x2))] 3
  rw [← hav] at hent
  rw [hent]
  clear hent
  generalize (lg_sl [.ref (gA G (0)), .int (i3 (x1)), .int (i3 (x2))] ++ List.replicate (3 - (lg_sl [.ref (gA G (0)), .int (i3 (x1)), .int (i3 (x2))]).length) Slot.unset).toArray = ls at hl ⊢
  have hl : lv_has ls 3 [(0, .ref (gA G (0))), (1, .int (i3 (x1))), (2, .int (i3 (x2)))] := hl
  unfold fG_take at hf
  show W p l e ({ frames := 4, cells := 0, slots := 0, locals := 90 } : Room) s m args below meth c s.heap [] 0 0 (MQ below (QcI G r.1 r.2) args s 0 0 (PA G)) (F0 m 0 ls [])
  refine lv_aload_n hx hb dX4_take_0 rfl (lv_at hl 0 rfl) ?_
  refine va_get (D := G.1) (ci := 4) (v := .ref (gA G (5 + 1))) (C := RX4) (T := TX4) (N := 10) hx hb hts hinX4 hown hW.K hW.P 0 (he_G G M0) rfl 1 (by decide) (hts _ (List.mem_cons_of_mem _ (inB_1 _ (List.mem_of_getElem? (i := 14) rfl)))) (fun _ h9 => h9) rfl dX4_take_1 ?_
  refine lv_aload_n hx hb dX4_take_4 rfl (lv_at hl 0 rfl) ?_
  refine va_get (D := G.1) (ci := 4) (v := .ref (gA G (5 + 0))) (C := RX4) (T := TX4) (N := 10) hx hb hts hinX4 hown hW.K hW.P 0 (he_G G M0) rfl 0 (by decide) (hts _ (List.mem_cons_of_mem _ (inB_1 _ (List.mem_of_getElem? (i := 13) rfl)))) (fun _ h9 => h9) rfl dX4_take_5 ?_
  obtain ⟨m1, hm1, hf⟩ := bind_el hf
  refine k_cVv (As := [.ref (gA G (5 + 0))]) (rest := []) ⟨hx, hb, hml, hown, hts⟩ (mW_copyFrom l G M0 (1) (by decide) (0) (by decide) m1 hm1) (cwV 1 hts (gbV (inB_3 _ (List.mem_of_getElem? (i := 22) rfl)) (inB_3 _ (List.mem_of_getElem? (i := 23) rfl)) (inB_4 _ (List.mem_of_getElem? (i := 0) rfl)) (inB_1 _ (List.mem_of_getElem? (i := 12) rfl)) (inB_4 _ (List.mem_of_getElem? (i := 1) rfl))) rfl rfl rfl (by decide +kernel) ⟨Nat.le_of_ble_eq_true rfl, Nat.le_of_ble_eq_true rfl⟩) (rv_wall (by decide) hW) hW hS rfl hl.1 rfl (lv_room (Nat.le_of_ble_eq_true rfl)) dX4_take_8 ⟨Nat.zero_le _, Nat.zero_le _⟩ (fun H locs hW hS => ?_)
  refine lv_aload_n hx hb dX4_take_11 rfl (lv_at hl 0 rfl) ?_
  refine lv_aload_n hx hb dX4_take_12 rfl (lv_at hl 0 rfl) ?_
  refine lv_iload_n hx hb dX4_take_13 rfl (lv_at hl 1 rfl) ?_
  refine lv_iload_n hx hb dX4_take_14 rfl (lv_at hl 2 rfl) ?_
  obtain ⟨q3, hq3, hf⟩ := bind_el hf
  refine k_cVi (As := [.int (i3 (x1)), .int (i3 (x2))]) (rest := [.ref (gA G (0))]) ⟨hx, hb, hml, hown, hts⟩ (mG_takeSacks l G m1 x1 hx1 x2 hx2 q3 hq3) (cwV 2 hts (gbV (inB_11 _ (List.mem_of_getElem? (i := 15) rfl)) (inB_11 _ (List.mem_of_getElem? (i := 16) rfl)) (inB_11 _ (List.mem_of_getElem? (i := 17) rfl)) (inB_1 _ (List.mem_of_getElem? (i := 2) rfl)) (inB_11 _ (List.mem_of_getElem? (i := 18) rfl))) rfl rfl rfl (by decide +kernel) ⟨Nat.le_of_ble_eq_true rfl, Nat.le_of_ble_eq_true rfl⟩) (rv_G hW) hW hS rfl hl.1 rfl (lv_room (Nat.le_of_ble_eq_true rfl)) dX4_take_15 ⟨Nat.zero_le _, Nat.zero_le _⟩ (fun hv4 H locs hW hS => ?_)
  obtain ⟨q5, hq5, hf⟩ := bind_el hf
  refine k_cVi (As := [.int (i3 (q3.2))]) (rest := []) ⟨hx, hb, hml, hown, hts⟩ (mG_remember l G q3.1 q3.2 hv4 q5 hq5) (cwV 1 hts (gbV (inB_7 _ (List.mem_of_getElem? (i := 7) rfl)) (inB_7 _ (List.mem_of_getElem? (i := 8) rfl)) (inB_7 _ (List.mem_of_getElem? (i := 9) rfl)) (inB_1 _ (List.mem_of_getElem? (i := 2) rfl)) (inB_7 _ (List.mem_of_getElem? (i := 10) rfl))) rfl rfl rfl (by decide +kernel) ⟨Nat.le_of_ble_eq_true rfl, Nat.le_of_ble_eq_true rfl⟩) (rv_G hW) hW hS rfl hl.1 rfl (lv_room (Nat.le_of_ble_eq_true rfl)) dX4_take_18 ⟨Nat.zero_le _, Nat.zero_le _⟩ (fun hv6 H locs hW hS => ?_)
  obtain rfl := some_el hf
  exact k_ret hx hb hr hlocks hW hS rfl hv6 dX4_take_21
set_option maxHeartbeats 4000000 in
set_option maxRecDepth 100000 in
theorem mG_undo (l : Launch) (G : gG) (M0 : MemG)  (r : MemG × Int) (hf : fG_undo M0 = some r) : Met l yX4_undo (wb yX4_undo cX4_undo 1 (some .int)) ({ frames := 3, cells := 0, slots := 0, locals := 64 } : Room) (PcG G M0 [.ref (gA G (0))]) (QcI G r.1 r.2) 0 0 (PA G) := by
  refine Met.ofW (cc := cX4_undo) (maxL := 1) (ret := (some .int)) (by decide) rfl ?_
  intro p e s m args below meth c s₁ B hml hv0
  obtain ⟨hav, hW⟩ := hv0
  have hx := B.exec
  have hb := B.bytes
  have hr := B.returns
  have hts := atoms_spec (ws := (wb yX4_undo cX4_undo 1 (some .int))) B.pre
  have hown : s.vm.findClass RX4 = some m.cls := findClass_of_methodNamed B.named
  have hlocks := B.notSynchronized
  have hinX4 : ∀ w ∈ u_ws RX4 TX4 10, w ∈ (wb yX4_undo cX4_undo 1 (some .int)) := fun _ h => List.mem_cons_of_mem _ (inlX4 _ h)
  have hW : Wd G M0 s s.heap := hW
  have hS : va_S (PA G) s.heap s.heap [] := va_S.rf
  have hl := lv_entry [.ref (gA G (0))] (n := 1) (Nat.le_of_ble_eq_true rfl)
  have hent := lg_entry_eq m [.ref (gA G (0))] 1
  rw [← hav] at hent
  rw [hent]
  clear hent
  generalize (lg_sl [.ref (gA G (0))] ++ List.replicate (1 - (lg_sl [.ref (gA G (0))]).length) Slot.unset).toArray = ls at hl ⊢
  have hl : lv_has ls 1 [(0, .ref (gA G (0)))] := hl
  unfold fG_undo at hf
  show W p l e ({ frames := 3, cells := 0, slots := 0, locals := 64 } : Room) s m args below meth c s.heap [] 0 0 (MQ below (QcI G r.1 r.2) args s 0 0 (PA G)) (F0 m 0 ls [])
  refine lv_aload_n hx hb dX4_undo_0 rfl (lv_at hl 0 rfl) ?_
  refine va_get (D := G.1) (ci := 4) (v := .ref (gA G (1))) (C := RX4) (T := TX4) (N := 10) hx hb hts hinX4 hown hW.K hW.P 0 (he_G G M0) rfl 4 (by decide) (hts _ (List.mem_cons_of_mem _ (inB_1 _ (List.mem_of_getElem? (i := 20) rfl)))) (fun _ h9 => h9) rfl dX4_undo_1 ?_
  refine k_cVi (As := []) (rest := []) ⟨hx, hb, hml, hown, hts⟩ (mP_size l G M0 _ rfl) (cwV 0 hts (gbV (inB_9 _ (List.mem_of_getElem? (i := 9) rfl)) (inB_9 _ (List.mem_of_getElem? (i := 10) rfl)) (inB_9 _ (List.mem_of_getElem? (i := 11) rfl)) (inB_1 _ (List.mem_of_getElem? (i := 19) rfl)) (inB_9 _ (List.mem_of_getElem? (i := 12) rfl))) rfl rfl rfl (by decide +kernel) ⟨Nat.le_of_ble_eq_true rfl, Nat.le_of_ble_eq_true rfl⟩) (rv_P hW) hW hS rfl hl.1 rfl (lv_room (Nat.le_of_ble_eq_true rfl)) dX4_undo_4 ⟨Nat.zero_le _, Nat.zero_le _⟩ (fun hv1 H locs hW hS => ?_)
  refine k_if_ne (tgt := 13) hx hb hv1 dX4_undo_7 (by decide) (fun hc2 => ?_) (fun hc2 => ?_)
  · rw [if_neg hc2] at hf
    refine lv_aload_n hx hb dX4_undo_13 rfl (lv_at hl 0 rfl) ?_
    refine va_get (D := G.1) (ci := 4) (v := .ref (gA G (1))) (C := RX4) (T := TX4) (N := 10) hx hb hts hinX4 hown hW.K hW.P 0 (he_G G M0) rfl 4 (by decide) (hts _ (List.mem_cons_of_mem _ (inB_1 _ (List.mem_of_getElem? (i := 20) rfl)))) (fun _ h9 => h9) rfl dX4_undo_14 ?_
    refine lv_aload_n hx hb dX4_undo_17 rfl (lv_at hl 0 rfl) ?_
    refine va_get (D := G.1) (ci := 4) (v := .ref (gA G (5 + 0))) (C := RX4) (T := TX4) (N := 10) hx hb hts hinX4 hown hW.K hW.P 0 (he_G G M0) rfl 0 (by decide) (hts _ (List.mem_cons_of_mem _ (inB_1 _ (List.mem_of_getElem? (i := 13) rfl)))) (fun _ h9 => h9) rfl dX4_undo_18 ?_
    obtain ⟨m3, hm3, hf⟩ := bind_el hf
    refine k_cVv (As := [.ref (gA G (5 + 0))]) (rest := []) ⟨hx, hb, hml, hown, hts⟩ (mP_giveBack l G M0 (0) (by decide) m3 hm3) (cwV 1 hts (gbV (inB_20 _ (List.mem_of_getElem? (i := 12) rfl)) (inB_20 _ (List.mem_of_getElem? (i := 13) rfl)) (inB_20 _ (List.mem_of_getElem? (i := 14) rfl)) (inB_1 _ (List.mem_of_getElem? (i := 19) rfl)) (inB_20 _ (List.mem_of_getElem? (i := 15) rfl))) rfl rfl rfl (by decide +kernel) ⟨Nat.le_of_ble_eq_true rfl, Nat.le_of_ble_eq_true rfl⟩) (rv_P hW) hW hS rfl hl.1 rfl (lv_room (Nat.le_of_ble_eq_true rfl)) dX4_undo_21 ⟨Nat.zero_le _, Nat.zero_le _⟩ (fun H locs hW hS => ?_)
    refine lv_aload_n hx hb dX4_undo_24 rfl (lv_at hl 0 rfl) ?_
    refine va_get (D := G.1) (ci := 4) (v := .ref (gA G (1))) (C := RX4) (T := TX4) (N := 10) hx hb hts hinX4 hown hW.K hW.P 0 (he_G G m3) rfl 4 (by decide) (hts _ (List.mem_cons_of_mem _ (inB_1 _ (List.mem_of_getElem? (i := 20) rfl)))) (fun _ h9 => h9) rfl dX4_undo_25 ?_
    refine k_cVi (As := []) (rest := []) ⟨hx, hb, hml, hown, hts⟩ (mP_size l G m3 _ rfl) (cwV 0 hts (gbV (inB_9 _ (List.mem_of_getElem? (i := 9) rfl)) (inB_9 _ (List.mem_of_getElem? (i := 10) rfl)) (inB_9 _ (List.mem_of_getElem? (i := 11) rfl)) (inB_1 _ (List.mem_of_getElem? (i := 19) rfl)) (inB_9 _ (List.mem_of_getElem? (i := 12) rfl))) rfl rfl rfl (by decide +kernel) ⟨Nat.le_of_ble_eq_true rfl, Nat.le_of_ble_eq_true rfl⟩) (rv_P hW) hW hS rfl hl.1 rfl (lv_room (Nat.le_of_ble_eq_true rfl)) dX4_undo_28 ⟨Nat.zero_le _, Nat.zero_le _⟩ (fun hv5 H locs hW hS => ?_)
    obtain rfl := some_el hf
    exact k_ret hx hb hr hlocks hW hS rfl hv5 dX4_undo_31
  · rw [if_pos hc2] at hf
    refine k_bipush hx hb dX4_undo_10 (by decide +kernel) ?_
    obtain rfl := some_el hf
    exact k_ret hx hb hr hlocks hW hS rfl (show inR (-15) by decide) dX4_undo_12
set_option maxHeartbeats 4000000 in
set_option maxRecDepth 100000 in
theorem mG_account (l : Launch) (G : gG) (M0 : MemG) (x1 : Int) (hx1 : inR x1) (r : Int) (hf : fG_account M0 x1 = some r) : Met l yX4_account (wb yX4_account cX4_account 2 (some .int)) ({ frames := 4, cells := 0, slots := 0, locals := 86 } : Room) (PcG G M0 [.ref (gA G (0)), .int (i3 (x1))]) (QcI G M0 r) 0 0 (PA G) := by
  refine Met.ofW (cc := cX4_account) (maxL := 2) (ret := (some .int)) (by decide) rfl ?_
  intro p e s m args below meth c s₁ B hml hv0
  obtain ⟨hav, hW⟩ := hv0
  have hx := B.exec
  have hb := B.bytes
  have hr := B.returns
  have hts := atoms_spec (ws := (wb yX4_account cX4_account 2 (some .int))) B.pre
  have hown : s.vm.findClass RX4 = some m.cls := findClass_of_methodNamed B.named
  have hlocks := B.notSynchronized
  have hinX4 : ∀ w ∈ u_ws RX4 TX4 10, w ∈ (wb yX4_account cX4_account 2 (some .int)) := fun _ h => List.mem_cons_of_mem _ (inlX4 _ h)
  have hW : Wd G M0 s s.heap := hW
  have hS : va_S (PA G) s.heap s.heap [] := va_S.rf
  have hl := lv_entry [.ref (gA G (0)), .int (i3 (x1))] (n := 2) (Nat.le_of_ble_eq_true rfl)
  have hent := lg_entry_eq m [.ref (gA G (0)), .int (i3 (x1))] 2
  rw [← hav] at hent
  rw [hent]
  clear hent
  generalize (lg_sl [.ref (gA G (0)), .int (i3 (x1))] ++ List.replicate (2 - (lg_sl [.ref (gA G (0)), .int (i3 (x1))]).length) Slot.unset).toArray = ls at hl ⊢
  have hl : lv_has ls 2 [(0, .ref (gA G (0))), (1, .int (i3 (x1)))] := hl
  unfold fG_account at hf
  show W p l e ({ frames := 4, cells := 0, slots := 0, locals := 86 } : Room) s m args below meth c s.heap [] 0 0 (MQ below (QcI G M0 r) args s 0 0 (PA G)) (F0 m 0 ls [])
  refine lv_iload_n hx hb dX4_account_0 rfl (lv_at hl 1 rfl) ?_
  by_cases hc1 : x1 = 2
  · rw [if_pos hc1] at hf
    refine k_tin (tgt := 80) hx hb hx1 dX4_account_1 (by omega) (by omega) (by rw [hc1]; rfl) (by decide) ?_
    refine lv_aload_n hx hb dX4_account_80 rfl (lv_at hl 0 rfl) ?_
    refine va_get (D := G.1) (ci := 4) (v := .ref (gA G (5 + 0))) (C := RX4) (T := TX4) (N := 10) hx hb hts hinX4 hown hW.K hW.P 0 (he_G G M0) rfl 0 (by decide) (hts _ (List.mem_cons_of_mem _ (inB_1 _ (List.mem_of_getElem? (i := 13) rfl)))) (fun _ h9 => h9) rfl dX4_account_81 ?_
    obtain ⟨q2, hq2, hf⟩ := bind_el hf
    refine k_cVi (As := []) (rest := []) ⟨hx, hb, hml, hown, hts⟩ (mW_filledBays l G M0 (0) (by decide) q2 hq2) (cwV 0 hts (gbV (inB_8 _ (List.mem_of_getElem? (i := 6) rfl)) (inB_8 _ (List.mem_of_getElem? (i := 7) rfl)) (inB_8 _ (List.mem_of_getElem? (i := 8) rfl)) (inB_1 _ (List.mem_of_getElem? (i := 12) rfl)) (inB_8 _ (List.mem_of_getElem? (i := 9) rfl))) rfl rfl rfl (by decide +kernel) ⟨Nat.le_of_ble_eq_true rfl, Nat.le_of_ble_eq_true rfl⟩) (rv_wall (by decide) hW) hW hS rfl hl.1 rfl (lv_room (Nat.le_of_ble_eq_true rfl)) dX4_account_84 ⟨Nat.zero_le _, Nat.zero_le _⟩ (fun hv3 H locs hW hS => ?_)
    obtain rfl := some_el hf
    exact k_ret hx hb hr hlocks hW hS rfl hv3 dX4_account_87
  · rw [if_neg hc1] at hf
    by_cases hc4 : x1 = 3
    · rw [if_pos hc4] at hf
      refine k_tin (tgt := 88) hx hb hx1 dX4_account_1 (by omega) (by omega) (by rw [hc4]; rfl) (by decide) ?_
      refine lv_aload_n hx hb dX4_account_88 rfl (lv_at hl 0 rfl) ?_
      refine va_get (D := G.1) (ci := 4) (v := .ref (gA G (5 + 0))) (C := RX4) (T := TX4) (N := 10) hx hb hts hinX4 hown hW.K hW.P 0 (he_G G M0) rfl 0 (by decide) (hts _ (List.mem_cons_of_mem _ (inB_1 _ (List.mem_of_getElem? (i := 13) rfl)))) (fun _ h9 => h9) rfl dX4_account_89 ?_
      obtain ⟨q5, hq5, hf⟩ := bind_el hf
      refine k_cVi (As := []) (rest := []) ⟨hx, hb, hml, hown, hts⟩ (mW_allSacks l G M0 (0) (by decide) q5 hq5) (cwV 0 hts (gbV (inB_8 _ (List.mem_of_getElem? (i := 11) rfl)) (inB_8 _ (List.mem_of_getElem? (i := 12) rfl)) (inB_8 _ (List.mem_of_getElem? (i := 13) rfl)) (inB_1 _ (List.mem_of_getElem? (i := 12) rfl)) (inB_8 _ (List.mem_of_getElem? (i := 14) rfl))) rfl rfl rfl (by decide +kernel) ⟨Nat.le_of_ble_eq_true rfl, Nat.le_of_ble_eq_true rfl⟩) (rv_wall (by decide) hW) hW hS rfl hl.1 rfl (lv_room (Nat.le_of_ble_eq_true rfl)) dX4_account_92 ⟨Nat.zero_le _, Nat.zero_le _⟩ (fun hv6 H locs hW hS => ?_)
      obtain rfl := some_el hf
      exact k_ret hx hb hr hlocks hW hS rfl hv6 dX4_account_95
    · rw [if_neg hc4] at hf
      by_cases hc7 : 4 ≤ x1 ∧ x1 ≤ 7
      · rw [if_pos hc7] at hf
        refine k_tin (tgt := 96) hx hb hx1 dX4_account_1 (by omega) (by omega) (by rcases (show x1 = 4 ∨ x1 = 5 ∨ x1 = 6 ∨ x1 = 7 by omega) with h9 | h9 | h9 | h9 <;> (rw [h9]; rfl)) (by decide) ?_
        refine lv_aload_n hx hb dX4_account_96 rfl (lv_at hl 0 rfl) ?_
        refine va_get (D := G.1) (ci := 4) (v := .ref (gA G (5 + 0))) (C := RX4) (T := TX4) (N := 10) hx hb hts hinX4 hown hW.K hW.P 0 (he_G G M0) rfl 0 (by decide) (hts _ (List.mem_cons_of_mem _ (inB_1 _ (List.mem_of_getElem? (i := 13) rfl)))) (fun _ h9 => h9) rfl dX4_account_97 ?_
        refine lv_iload_n hx hb dX4_account_100 rfl (lv_at hl 1 rfl) ?_
        refine k_const hx hb dX4_account_101 ?_
        refine k_sub hx hb dX4_account_102 ?_
        obtain ⟨hg8, hf⟩ := gd_el hf
        obtain ⟨q9, hq9, hf⟩ := bind_el hf
        refine k_cVi (As := [.int (i3 (x1 - 4))]) (rest := []) ⟨hx, hb, hml, hown, hts⟩ (mW_sacksOfKind l G M0 (0) (by decide) (x1 - 4) hg8 q9 hq9) (cwV 1 hts (gbV (inB_8 _ (List.mem_of_getElem? (i := 20) rfl)) (inB_8 _ (List.mem_of_getElem? (i := 21) rfl)) (inB_8 _ (List.mem_of_getElem? (i := 22) rfl)) (inB_1 _ (List.mem_of_getElem? (i := 12) rfl)) (inB_8 _ (List.mem_of_getElem? (i := 23) rfl))) rfl rfl rfl (by decide +kernel) ⟨Nat.le_of_ble_eq_true rfl, Nat.le_of_ble_eq_true rfl⟩) (rv_wall (by decide) hW) hW hS rfl hl.1 rfl (lv_room (Nat.le_of_ble_eq_true rfl)) dX4_account_103 ⟨Nat.zero_le _, Nat.zero_le _⟩ (fun hv10 H locs hW hS => ?_)
        obtain rfl := some_el hf
        exact k_ret hx hb hr hlocks hW hS rfl hv10 dX4_account_106
      · rw [if_neg hc7] at hf
        by_cases hc11 : x1 = 13
        · rw [if_pos hc11] at hf
          refine k_tin (tgt := 107) hx hb hx1 dX4_account_1 (by omega) (by omega) (by rw [hc11]; rfl) (by decide) ?_
          refine lv_aload_n hx hb dX4_account_107 rfl (lv_at hl 0 rfl) ?_
          refine va_get (D := G.1) (ci := 4) (v := .ref (gA G (5 + 0))) (C := RX4) (T := TX4) (N := 10) hx hb hts hinX4 hown hW.K hW.P 0 (he_G G M0) rfl 0 (by decide) (hts _ (List.mem_cons_of_mem _ (inB_1 _ (List.mem_of_getElem? (i := 13) rfl)))) (fun _ h9 => h9) rfl dX4_account_108 ?_
          obtain ⟨q12, hq12, hf⟩ := bind_el hf
          refine k_cVi (As := []) (rest := []) ⟨hx, hb, hml, hown, hts⟩ (mW_crackedRungs l G M0 (0) (by decide) q12 hq12) (cwV 0 hts (gbV (inB_9 _ (List.mem_of_getElem? (i := 1) rfl)) (inB_9 _ (List.mem_of_getElem? (i := 2) rfl)) (inB_9 _ (List.mem_of_getElem? (i := 3) rfl)) (inB_1 _ (List.mem_of_getElem? (i := 12) rfl)) (inB_9 _ (List.mem_of_getElem? (i := 4) rfl))) rfl rfl rfl (by decide +kernel) ⟨Nat.le_of_ble_eq_true rfl, Nat.le_of_ble_eq_true rfl⟩) (rv_wall (by decide) hW) hW hS rfl hl.1 rfl (lv_room (Nat.le_of_ble_eq_true rfl)) dX4_account_111 ⟨Nat.zero_le _, Nat.zero_le _⟩ (fun hv13 H locs hW hS => ?_)
          obtain rfl := some_el hf
          exact k_ret hx hb hr hlocks hW hS rfl hv13 dX4_account_114
        · rw [if_neg hc11] at hf
          by_cases hc14 : x1 = 16
          · rw [if_pos hc14] at hf
            refine k_tin (tgt := 115) hx hb hx1 dX4_account_1 (by omega) (by omega) (by rw [hc14]; rfl) (by decide) ?_
            refine lv_aload_n hx hb dX4_account_115 rfl (lv_at hl 0 rfl) ?_
            refine va_get (D := G.1) (ci := 4) (v := .ref (gA G (2))) (C := RX4) (T := TX4) (N := 10) hx hb hts hinX4 hown hW.K hW.P 0 (he_G G M0) rfl 5 (by decide) (hts _ (List.mem_cons_of_mem _ (inB_2 _ (List.mem_of_getElem? (i := 0) rfl)))) (fun _ h9 => h9) rfl dX4_account_116 ?_
            refine k_cVi (As := []) (rest := []) ⟨hx, hb, hml, hown, hts⟩ (mT_size l G M0 _ rfl) (cwV 0 hts (gbV (inB_9 _ (List.mem_of_getElem? (i := 5) rfl)) (inB_9 _ (List.mem_of_getElem? (i := 6) rfl)) (inB_9 _ (List.mem_of_getElem? (i := 7) rfl)) (inB_1 _ (List.mem_of_getElem? (i := 23) rfl)) (inB_9 _ (List.mem_of_getElem? (i := 8) rfl))) rfl rfl rfl (by decide +kernel) ⟨Nat.le_of_ble_eq_true rfl, Nat.le_of_ble_eq_true rfl⟩) (rv_T hW) hW hS rfl hl.1 rfl (lv_room (Nat.le_of_ble_eq_true rfl)) dX4_account_119 ⟨Nat.zero_le _, Nat.zero_le _⟩ (fun hv15 H locs hW hS => ?_)
            obtain rfl := some_el hf
            exact k_ret hx hb hr hlocks hW hS rfl hv15 dX4_account_122
          · rw [if_neg hc14] at hf
            by_cases hc16 : x1 = 17
            · rw [if_pos hc16] at hf
              refine k_tin (tgt := 123) hx hb hx1 dX4_account_1 (by omega) (by omega) (by rw [hc16]; rfl) (by decide) ?_
              refine lv_aload_n hx hb dX4_account_123 rfl (lv_at hl 0 rfl) ?_
              refine va_get (D := G.1) (ci := 4) (v := .ref (gA G (1))) (C := RX4) (T := TX4) (N := 10) hx hb hts hinX4 hown hW.K hW.P 0 (he_G G M0) rfl 4 (by decide) (hts _ (List.mem_cons_of_mem _ (inB_1 _ (List.mem_of_getElem? (i := 20) rfl)))) (fun _ h9 => h9) rfl dX4_account_124 ?_
              refine k_cVi (As := []) (rest := []) ⟨hx, hb, hml, hown, hts⟩ (mP_size l G M0 _ rfl) (cwV 0 hts (gbV (inB_9 _ (List.mem_of_getElem? (i := 9) rfl)) (inB_9 _ (List.mem_of_getElem? (i := 10) rfl)) (inB_9 _ (List.mem_of_getElem? (i := 11) rfl)) (inB_1 _ (List.mem_of_getElem? (i := 19) rfl)) (inB_9 _ (List.mem_of_getElem? (i := 12) rfl))) rfl rfl rfl (by decide +kernel) ⟨Nat.le_of_ble_eq_true rfl, Nat.le_of_ble_eq_true rfl⟩) (rv_P hW) hW hS rfl hl.1 rfl (lv_room (Nat.le_of_ble_eq_true rfl)) dX4_account_127 ⟨Nat.zero_le _, Nat.zero_le _⟩ (fun hv17 H locs hW hS => ?_)
              obtain rfl := some_el hf
              exact k_ret hx hb hr hlocks hW hS rfl hv17 dX4_account_130
            · rw [if_neg hc16] at hf
              refine k_tdef (tgt := 131) hx hb hx1 dX4_account_1 (by rcases (show x1 < 2 ∨ 17 < x1 ∨ x1 = 8 ∨ x1 = 9 ∨ x1 = 10 ∨ x1 = 11 ∨ x1 = 12 ∨ x1 = 14 ∨ x1 = 15 by omega) with h9 | h9 | h9 | h9 | h9 | h9 | h9 | h9 | h9; exact Or.inl (by omega); exact Or.inl (by omega); exact Or.inr ⟨by omega, by omega, by rw [h9]; rfl⟩; exact Or.inr ⟨by omega, by omega, by rw [h9]; rfl⟩; exact Or.inr ⟨by omega, by omega, by rw [h9]; rfl⟩; exact Or.inr ⟨by omega, by omega, by rw [h9]; rfl⟩; exact Or.inr ⟨by omega, by omega, by rw [h9]; rfl⟩; exact Or.inr ⟨by omega, by omega, by rw [h9]; rfl⟩; exact Or.inr ⟨by omega, by omega, by rw [h9]; rfl⟩) (by decide) ?_
              refine lv_iload_n hx hb dX4_account_131 rfl (lv_at hl 1 rfl) ?_
              refine k_const hx hb dX4_account_132 ?_
              refine k_bipush hx hb dX4_account_133 (by decide +kernel) ?_
              refine k_cSz (As := [.int (i3 (x1)), .int (i3 (0)), .int (i3 (15))]) (rest := []) ⟨hx, hb, hml, hown, hts⟩ (mG_isWithin l G M0 x1 hx1 0 (show inR (0) by decide) 15 (show inR (15) by decide) _ rfl) (va_cwS 3 hts (gbS (inB_4 _ (List.mem_of_getElem? (i := 11) rfl)) (inB_4 _ (List.mem_of_getElem? (i := 12) rfl)) (inB_1 _ (List.mem_of_getElem? (i := 2) rfl)) (inB_4 _ (List.mem_of_getElem? (i := 13) rfl))) rfl rfl rfl (by decide +kernel) ⟨Nat.le_of_ble_eq_true rfl, Nat.le_of_ble_eq_true rfl⟩) hW hS rfl hl.1 rfl (lv_room (Nat.le_of_ble_eq_true rfl)) dX4_account_135 ⟨Nat.zero_le _, Nat.zero_le _⟩ (fun hv18 H locs hW hS => ?_)
              refine k_if_eq (tgt := 152) hx hb (inR_z hv18) dX4_account_138 (by decide) (fun hc19 => ?_) (fun hc19 => ?_)
              · rw [if_pos hc19] at hf
                refine k_bipush hx hb dX4_account_152 (by decide +kernel) ?_
                obtain rfl := some_el hf
                exact k_ret hx hb hr hlocks hW hS rfl (show inR (-12) by decide) dX4_account_154
              · rw [if_neg hc19] at hf
                refine lv_aload_n hx hb dX4_account_141 rfl (lv_at hl 0 rfl) ?_
                refine va_get (D := G.1) (ci := 4) (v := .ref (gA G (5 + 0))) (C := RX4) (T := TX4) (N := 10) hx hb hts hinX4 hown hW.K hW.P 0 (he_G G M0) rfl 0 (by decide) (hts _ (List.mem_cons_of_mem _ (inB_1 _ (List.mem_of_getElem? (i := 13) rfl)))) (fun _ h9 => h9) rfl dX4_account_142 ?_
                refine lv_iload_n hx hb dX4_account_145 rfl (lv_at hl 1 rfl) ?_
                refine k_cVi (As := [.int (i3 (x1))]) (rest := []) ⟨hx, hb, hml, hown, hts⟩ (mW_counted l G M0 (0) (by decide) x1 hx1 _ rfl) (cwV 1 hts (gbV (inB_9 _ (List.mem_of_getElem? (i := 13) rfl)) (inB_9 _ (List.mem_of_getElem? (i := 14) rfl)) (inB_9 _ (List.mem_of_getElem? (i := 15) rfl)) (inB_1 _ (List.mem_of_getElem? (i := 12) rfl)) (inB_9 _ (List.mem_of_getElem? (i := 16) rfl))) rfl rfl rfl (by decide +kernel) ⟨Nat.le_of_ble_eq_true rfl, Nat.le_of_ble_eq_true rfl⟩) (rv_wall (by decide) hW) hW hS rfl hl.1 rfl (lv_room (Nat.le_of_ble_eq_true rfl)) dX4_account_146 ⟨Nat.zero_le _, Nat.zero_le _⟩ (fun hv20 H locs hW hS => ?_)
                refine lv_goto (tgt := 154) hx hb dX4_account_149 (by decide) ?_
                obtain rfl := some_el hf
                exact k_ret hx hb hr hlocks hW hS rfl hv20 dX4_account_154
set_option maxHeartbeats 4000000 in
set_option maxRecDepth 100000 in
theorem mG_bayOf (l : Launch) (G : gG) (M0 : MemG) (x1 : Int) (hx1 : inR x1) (x2 : Int) (hx2 : inR x2) (r : Int) (hf : fG_bayOf M0 x1 x2 = some r) : Met l yX4_bayOf (wb yX4_bayOf cX4_bayOf 3 (some .int)) ({ frames := 3, cells := 0, slots := 0, locals := 66 } : Room) (PcG G M0 [.ref (gA G (0)), .int (i3 (x1)), .int (i3 (x2))]) (QcI G M0 r) 0 0 (PA G) := by
  refine Met.ofW (cc := cX4_bayOf) (maxL := 3) (ret := (some .int)) (by decide) rfl ?_
  intro p e s m args below meth c s₁ B hml hv0
  obtain ⟨hav, hW⟩ := hv0
  have hx := B.exec
  have hb := B.bytes
  have hr := B.returns
  have hts := atoms_spec (ws := (wb yX4_bayOf cX4_bayOf 3 (some .int))) B.pre
  have hown : s.vm.findClass RX4 = some m.cls := findClass_of_methodNamed B.named
  have hlocks := B.notSynchronized
  have hinX4 : ∀ w ∈ u_ws RX4 TX4 10, w ∈ (wb yX4_bayOf cX4_bayOf 3 (some .int)) := fun _ h => List.mem_cons_of_mem _ (inlX4 _ h)
  have hW : Wd G M0 s s.heap := hW
  have hS : va_S (PA G) s.heap s.heap [] := va_S.rf
  have hl := lv_entry [.ref (gA G (0)), .int (i3 (x1)), .int (i3 (x2))] (n := 3) (Nat.le_of_ble_eq_true rfl)
  have hent := lg_entry_eq m [.ref (gA G (0)), .int (i3 (x1)), .int (i3 (x2))] 3
  rw [← hav] at hent
  rw [hent]
  clear hent
  generalize (lg_sl [.ref (gA G (0)), .int (i3 (x1)), .int (i3 (x2))] ++ List.replicate (3 - (lg_sl [.ref (gA G (0)), .int (i3 (x1)), .int (i3 (x2))]).length) Slot.unset).toArray = ls at hl ⊢
  have hl : lv_has ls 3 [(0, .ref (gA G (0))), (1, .int (i3 (x1))), (2, .int (i3 (x2)))] := hl
  unfold fG_bayOf at hf
  show W p l e ({ frames := 3, cells := 0, slots := 0, locals := 66 } : Room) s m args below meth c s.heap [] 0 0 (MQ below (QcI G M0 r) args s 0 0 (PA G)) (F0 m 0 ls [])
  refine lv_iload_n hx hb dX4_bayOf_0 rfl (lv_at hl 1 rfl) ?_
  refine k_cSz (As := [.int (i3 (x1))]) (rest := []) ⟨hx, hb, hml, hown, hts⟩ (mG_isBay l G M0 x1 hx1 _ rfl) (va_cwS 1 hts (gbS (inB_4 _ (List.mem_of_getElem? (i := 8) rfl)) (inB_4 _ (List.mem_of_getElem? (i := 9) rfl)) (inB_1 _ (List.mem_of_getElem? (i := 2) rfl)) (inB_4 _ (List.mem_of_getElem? (i := 10) rfl))) rfl rfl rfl (by decide +kernel) ⟨Nat.le_of_ble_eq_true rfl, Nat.le_of_ble_eq_true rfl⟩) hW hS rfl hl.1 rfl (lv_room (Nat.le_of_ble_eq_true rfl)) dX4_bayOf_1 ⟨Nat.zero_le _, Nat.zero_le _⟩ (fun hv1 H locs hW hS => ?_)
  refine k_if_ne (tgt := 10) hx hb (inR_z hv1) dX4_bayOf_4 (by decide) (fun hc2 => ?_) (fun hc2 => ?_)
  · rw [if_neg hc2] at hf
    refine lv_iload_n hx hb dX4_bayOf_10 rfl (lv_at hl 2 rfl) ?_
    by_cases hc3 : x2 = 0
    · rw [if_pos hc3] at hf
      refine k_tin (tgt := 48) hx hb hx2 dX4_bayOf_11 (by omega) (by omega) (by rw [hc3]; rfl) (by decide) ?_
      refine lv_aload_n hx hb dX4_bayOf_48 rfl (lv_at hl 0 rfl) ?_
      refine va_get (D := G.1) (ci := 4) (v := .ref (gA G (5 + 0))) (C := RX4) (T := TX4) (N := 10) hx hb hts hinX4 hown hW.K hW.P 0 (he_G G M0) rfl 0 (by decide) (hts _ (List.mem_cons_of_mem _ (inB_1 _ (List.mem_of_getElem? (i := 13) rfl)))) (fun _ h9 => h9) rfl dX4_bayOf_49 ?_
      refine lv_iload_n hx hb dX4_bayOf_52 rfl (lv_at hl 1 rfl) ?_
      refine k_cVz (As := [.int (i3 (x1))]) (rest := []) ⟨hx, hb, hml, hown, hts⟩ (mW_isEmpty l G M0 (0) (by decide) x1 hx1 _ rfl) (cwV 1 hts (gbV (inB_4 _ (List.mem_of_getElem? (i := 21) rfl)) (inB_4 _ (List.mem_of_getElem? (i := 22) rfl)) (inB_4 _ (List.mem_of_getElem? (i := 23) rfl)) (inB_1 _ (List.mem_of_getElem? (i := 12) rfl)) (inB_5 _ (List.mem_of_getElem? (i := 0) rfl))) rfl rfl rfl (by decide +kernel) ⟨Nat.le_of_ble_eq_true rfl, Nat.le_of_ble_eq_true rfl⟩) (rv_wall (by decide) hW) hW hS rfl hl.1 rfl (lv_room (Nat.le_of_ble_eq_true rfl)) dX4_bayOf_53 ⟨Nat.zero_le _, Nat.zero_le _⟩ (fun hv4 H locs hW hS => ?_)
      refine k_if_eq (tgt := 64) hx hb (inR_z hv4) dX4_bayOf_56 (by decide) (fun hc5 => ?_) (fun hc5 => ?_)
      · rw [if_pos hc5] at hf
        refine lv_aload_n hx hb dX4_bayOf_64 rfl (lv_at hl 0 rfl) ?_
        refine va_get (D := G.1) (ci := 4) (v := .ref (gA G (5 + 0))) (C := RX4) (T := TX4) (N := 10) hx hb hts hinX4 hown hW.K hW.P 0 (he_G G M0) rfl 0 (by decide) (hts _ (List.mem_cons_of_mem _ (inB_1 _ (List.mem_of_getElem? (i := 13) rfl)))) (fun _ h9 => h9) rfl dX4_bayOf_65 ?_
        refine lv_iload_n hx hb dX4_bayOf_68 rfl (lv_at hl 1 rfl) ?_
        refine k_cVi (As := [.int (i3 (x1))]) (rest := []) ⟨hx, hb, hml, hown, hts⟩ (mW_kindIn l G M0 (0) (by decide) x1 hx1 _ rfl) (cwV 1 hts (gbV (inB_5 _ (List.mem_of_getElem? (i := 3) rfl)) (inB_5 _ (List.mem_of_getElem? (i := 4) rfl)) (inB_5 _ (List.mem_of_getElem? (i := 5) rfl)) (inB_1 _ (List.mem_of_getElem? (i := 12) rfl)) (inB_5 _ (List.mem_of_getElem? (i := 6) rfl))) rfl rfl rfl (by decide +kernel) ⟨Nat.le_of_ble_eq_true rfl, Nat.le_of_ble_eq_true rfl⟩) (rv_wall (by decide) hW) hW hS rfl hl.1 rfl (lv_room (Nat.le_of_ble_eq_true rfl)) dX4_bayOf_69 ⟨Nat.zero_le _, Nat.zero_le _⟩ (fun hv6 H locs hW hS => ?_)
        obtain rfl := some_el hf
        exact k_ret hx hb hr hlocks hW hS rfl hv6 dX4_bayOf_72
      · rw [if_neg hc5] at hf
        refine k_bipush hx hb dX4_bayOf_59 (by decide +kernel) ?_
        refine lv_goto (tgt := 72) hx hb dX4_bayOf_61 (by decide) ?_
        obtain rfl := some_el hf
        exact k_ret hx hb hr hlocks hW hS rfl (show inR (-15) by decide) dX4_bayOf_72
    · rw [if_neg hc3] at hf
      by_cases hc7 : x2 = 1
      · rw [if_pos hc7] at hf
        refine k_tin (tgt := 73) hx hb hx2 dX4_bayOf_11 (by omega) (by omega) (by rw [hc7]; rfl) (by decide) ?_
        refine lv_aload_n hx hb dX4_bayOf_73 rfl (lv_at hl 0 rfl) ?_
        refine va_get (D := G.1) (ci := 4) (v := .ref (gA G (5 + 0))) (C := RX4) (T := TX4) (N := 10) hx hb hts hinX4 hown hW.K hW.P 0 (he_G G M0) rfl 0 (by decide) (hts _ (List.mem_cons_of_mem _ (inB_1 _ (List.mem_of_getElem? (i := 13) rfl)))) (fun _ h9 => h9) rfl dX4_bayOf_74 ?_
        refine lv_iload_n hx hb dX4_bayOf_77 rfl (lv_at hl 1 rfl) ?_
        refine k_cVi (As := [.int (i3 (x1))]) (rest := []) ⟨hx, hb, hml, hown, hts⟩ (mW_sacksIn l G M0 (0) (by decide) x1 hx1 _ rfl) (cwV 1 hts (gbV (inB_5 _ (List.mem_of_getElem? (i := 7) rfl)) (inB_5 _ (List.mem_of_getElem? (i := 8) rfl)) (inB_5 _ (List.mem_of_getElem? (i := 9) rfl)) (inB_1 _ (List.mem_of_getElem? (i := 12) rfl)) (inB_5 _ (List.mem_of_getElem? (i := 10) rfl))) rfl rfl rfl (by decide +kernel) ⟨Nat.le_of_ble_eq_true rfl, Nat.le_of_ble_eq_true rfl⟩) (rv_wall (by decide) hW) hW hS rfl hl.1 rfl (lv_room (Nat.le_of_ble_eq_true rfl)) dX4_bayOf_78 ⟨Nat.zero_le _, Nat.zero_le _⟩ (fun hv8 H locs hW hS => ?_)
        obtain rfl := some_el hf
        exact k_ret hx hb hr hlocks hW hS rfl hv8 dX4_bayOf_81
      · rw [if_neg hc7] at hf
        by_cases hc9 : x2 = 2
        · rw [if_pos hc9] at hf
          refine k_tin (tgt := 82) hx hb hx2 dX4_bayOf_11 (by omega) (by omega) (by rw [hc9]; rfl) (by decide) ?_
          refine lv_aload_n hx hb dX4_bayOf_82 rfl (lv_at hl 0 rfl) ?_
          refine va_get (D := G.1) (ci := 4) (v := .ref (gA G (5 + 0))) (C := RX4) (T := TX4) (N := 10) hx hb hts hinX4 hown hW.K hW.P 0 (he_G G M0) rfl 0 (by decide) (hts _ (List.mem_cons_of_mem _ (inB_1 _ (List.mem_of_getElem? (i := 13) rfl)))) (fun _ h9 => h9) rfl dX4_bayOf_83 ?_
          refine lv_iload_n hx hb dX4_bayOf_86 rfl (lv_at hl 1 rfl) ?_
          refine k_cVi (As := [.int (i3 (x1))]) (rest := []) ⟨hx, hb, hml, hown, hts⟩ (mW_ageIn l G M0 (0) (by decide) x1 hx1 _ rfl) (cwV 1 hts (gbV (inB_6 _ (List.mem_of_getElem? (i := 1) rfl)) (inB_6 _ (List.mem_of_getElem? (i := 2) rfl)) (inB_6 _ (List.mem_of_getElem? (i := 3) rfl)) (inB_1 _ (List.mem_of_getElem? (i := 12) rfl)) (inB_6 _ (List.mem_of_getElem? (i := 4) rfl))) rfl rfl rfl (by decide +kernel) ⟨Nat.le_of_ble_eq_true rfl, Nat.le_of_ble_eq_true rfl⟩) (rv_wall (by decide) hW) hW hS rfl hl.1 rfl (lv_room (Nat.le_of_ble_eq_true rfl)) dX4_bayOf_87 ⟨Nat.zero_le _, Nat.zero_le _⟩ (fun hv10 H locs hW hS => ?_)
          obtain rfl := some_el hf
          exact k_ret hx hb hr hlocks hW hS rfl hv10 dX4_bayOf_90
        · rw [if_neg hc9] at hf
          by_cases hc11 : x2 = 3
          · rw [if_pos hc11] at hf
            refine k_tin (tgt := 91) hx hb hx2 dX4_bayOf_11 (by omega) (by omega) (by rw [hc11]; rfl) (by decide) ?_
            refine lv_aload_n hx hb dX4_bayOf_91 rfl (lv_at hl 0 rfl) ?_
            refine va_get (D := G.1) (ci := 4) (v := .ref (gA G (5 + 0))) (C := RX4) (T := TX4) (N := 10) hx hb hts hinX4 hown hW.K hW.P 0 (he_G G M0) rfl 0 (by decide) (hts _ (List.mem_cons_of_mem _ (inB_1 _ (List.mem_of_getElem? (i := 13) rfl)))) (fun _ h9 => h9) rfl dX4_bayOf_92 ?_
            refine lv_iload_n hx hb dX4_bayOf_95 rfl (lv_at hl 1 rfl) ?_
            refine lv_aload_n hx hb dX4_bayOf_96 rfl (lv_at hl 0 rfl) ?_
            refine va_get (D := G.1) (ci := 4) (v := .ref (gA G (5 + 0))) (C := RX4) (T := TX4) (N := 10) hx hb hts hinX4 hown hW.K hW.P 0 (he_G G M0) rfl 0 (by decide) (hts _ (List.mem_cons_of_mem _ (inB_1 _ (List.mem_of_getElem? (i := 13) rfl)))) (fun _ h9 => h9) rfl dX4_bayOf_97 ?_
            refine lv_iload_n hx hb dX4_bayOf_100 rfl (lv_at hl 1 rfl) ?_
            refine k_cVi (As := [.int (i3 (x1))]) (rest := [.int (i3 (x1)), .ref (gA G (5 + 0))]) ⟨hx, hb, hml, hown, hts⟩ (mW_ageIn l G M0 (0) (by decide) x1 hx1 _ rfl) (cwV 1 hts (gbV (inB_6 _ (List.mem_of_getElem? (i := 1) rfl)) (inB_6 _ (List.mem_of_getElem? (i := 2) rfl)) (inB_6 _ (List.mem_of_getElem? (i := 3) rfl)) (inB_1 _ (List.mem_of_getElem? (i := 12) rfl)) (inB_6 _ (List.mem_of_getElem? (i := 4) rfl))) rfl rfl rfl (by decide +kernel) ⟨Nat.le_of_ble_eq_true rfl, Nat.le_of_ble_eq_true rfl⟩) (rv_wall (by decide) hW) hW hS rfl hl.1 rfl (lv_room (Nat.le_of_ble_eq_true rfl)) dX4_bayOf_101 ⟨Nat.zero_le _, Nat.zero_le _⟩ (fun hv12 H locs hW hS => ?_)
            refine k_const hx hb dX4_bayOf_104 ?_
            refine k_add hx hb dX4_bayOf_105 ?_
            obtain ⟨hg13, hf⟩ := gd_el hf
            obtain ⟨q14, hq14, hf⟩ := bind_el hf
            refine k_cVi (As := [.int (i3 (x1)), .int (i3 (((fW_ageIn M0 0 x1)) + 1))]) (rest := []) ⟨hx, hb, hml, hown, hts⟩ (mW_spoilingAt l G M0 (0) (by decide) x1 hx1 (((fW_ageIn M0 0 x1)) + 1) hg13 q14 hq14) (cwV 2 hts (gbV (inB_9 _ (List.mem_of_getElem? (i := 21) rfl)) (inB_9 _ (List.mem_of_getElem? (i := 22) rfl)) (inB_9 _ (List.mem_of_getElem? (i := 23) rfl)) (inB_1 _ (List.mem_of_getElem? (i := 12) rfl)) (inB_10 _ (List.mem_of_getElem? (i := 0) rfl))) rfl rfl rfl (by decide +kernel) ⟨Nat.le_of_ble_eq_true rfl, Nat.le_of_ble_eq_true rfl⟩) (rv_wall (by decide) hW) hW hS rfl hl.1 rfl (lv_room (Nat.le_of_ble_eq_true rfl)) dX4_bayOf_106 ⟨Nat.zero_le _, Nat.zero_le _⟩ (fun hv15 H locs hW hS => ?_)
            obtain rfl := some_el hf
            exact k_ret hx hb hr hlocks hW hS rfl hv15 dX4_bayOf_109
          · rw [if_neg hc11] at hf
            by_cases hc16 : x2 = 4
            · rw [if_pos hc16] at hf
              refine k_tin (tgt := 110) hx hb hx2 dX4_bayOf_11 (by omega) (by omega) (by rw [hc16]; rfl) (by decide) ?_
              refine lv_aload_n hx hb dX4_bayOf_110 rfl (lv_at hl 0 rfl) ?_
              refine va_get (D := G.1) (ci := 4) (v := .ref (gA G (5 + 0))) (C := RX4) (T := TX4) (N := 10) hx hb hts hinX4 hown hW.K hW.P 0 (he_G G M0) rfl 0 (by decide) (hts _ (List.mem_cons_of_mem _ (inB_1 _ (List.mem_of_getElem? (i := 13) rfl)))) (fun _ h9 => h9) rfl dX4_bayOf_111 ?_
              refine lv_iload_n hx hb dX4_bayOf_114 rfl (lv_at hl 1 rfl) ?_
              obtain ⟨q17, hq17, hf⟩ := bind_el hf
              refine k_cVi (As := [.int (i3 (x1))]) (rest := []) ⟨hx, hb, hml, hown, hts⟩ (mW_rungsOver l G M0 (0) (by decide) x1 hx1 q17 hq17) (cwV 1 hts (gbV (inB_10 _ (List.mem_of_getElem? (i := 1) rfl)) (inB_10 _ (List.mem_of_getElem? (i := 2) rfl)) (inB_10 _ (List.mem_of_getElem? (i := 3) rfl)) (inB_1 _ (List.mem_of_getElem? (i := 12) rfl)) (inB_10 _ (List.mem_of_getElem? (i := 4) rfl))) rfl rfl rfl (by decide +kernel) ⟨Nat.le_of_ble_eq_true rfl, Nat.le_of_ble_eq_true rfl⟩) (rv_wall (by decide) hW) hW hS rfl hl.1 rfl (lv_room (Nat.le_of_ble_eq_true rfl)) dX4_bayOf_115 ⟨Nat.zero_le _, Nat.zero_le _⟩ (fun hv18 H locs hW hS => ?_)
              obtain rfl := some_el hf
              exact k_ret hx hb hr hlocks hW hS rfl hv18 dX4_bayOf_118
            · rw [if_neg hc16] at hf
              by_cases hc19 : x2 = 5
              · rw [if_pos hc19] at hf
                refine k_tin (tgt := 119) hx hb hx2 dX4_bayOf_11 (by omega) (by omega) (by rw [hc19]; rfl) (by decide) ?_
                refine lv_aload_n hx hb dX4_bayOf_119 rfl (lv_at hl 0 rfl) ?_
                refine va_get (D := G.1) (ci := 4) (v := .ref (gA G (5 + 0))) (C := RX4) (T := TX4) (N := 10) hx hb hts hinX4 hown hW.K hW.P 0 (he_G G M0) rfl 0 (by decide) (hts _ (List.mem_cons_of_mem _ (inB_1 _ (List.mem_of_getElem? (i := 13) rfl)))) (fun _ h9 => h9) rfl dX4_bayOf_120 ?_
                refine lv_iload_n hx hb dX4_bayOf_123 rfl (lv_at hl 1 rfl) ?_
                obtain ⟨q20, hq20, hf⟩ := bind_el hf
                refine k_cVi (As := [.int (i3 (x1))]) (rest := []) ⟨hx, hb, hml, hown, hts⟩ (mW_crackedOver l G M0 (0) (by decide) x1 hx1 q20 hq20) (cwV 1 hts (gbV (inB_10 _ (List.mem_of_getElem? (i := 5) rfl)) (inB_10 _ (List.mem_of_getElem? (i := 6) rfl)) (inB_10 _ (List.mem_of_getElem? (i := 7) rfl)) (inB_1 _ (List.mem_of_getElem? (i := 12) rfl)) (inB_10 _ (List.mem_of_getElem? (i := 8) rfl))) rfl rfl rfl (by decide +kernel) ⟨Nat.le_of_ble_eq_true rfl, Nat.le_of_ble_eq_true rfl⟩) (rv_wall (by decide) hW) hW hS rfl hl.1 rfl (lv_room (Nat.le_of_ble_eq_true rfl)) dX4_bayOf_124 ⟨Nat.zero_le _, Nat.zero_le _⟩ (fun hv21 H locs hW hS => ?_)
                obtain rfl := some_el hf
                exact k_ret hx hb hr hlocks hW hS rfl hv21 dX4_bayOf_127
              · rw [if_neg hc19] at hf
                refine k_tdef (tgt := 128) hx hb hx2 dX4_bayOf_11 (by rcases (show x2 < 0 ∨ 5 < x2 by omega) with h9 | h9; exact Or.inl (by omega); exact Or.inl (by omega)) (by decide) ?_
                refine k_bipush hx hb dX4_bayOf_128 (by decide +kernel) ?_
                obtain rfl := some_el hf
                exact k_ret hx hb hr hlocks hW hS rfl (show inR (-12) by decide) dX4_bayOf_130
  · rw [if_pos hc2] at hf
    refine k_bipush hx hb dX4_bayOf_7 (by decide +kernel) ?_
    obtain rfl := some_el hf
    exact k_ret hx hb hr hlocks hW hS rfl (show inR (-11) by decide) dX4_bayOf_9
set_option maxHeartbeats 4000000 in
set_option maxRecDepth 100000 in
theorem mG_commonAge (l : Launch) (G : gG) (M0 : MemG)  (r : Int) (hf : fG_commonAge M0 = some r) : Met l yX4_commonAge (wb yX4_commonAge cX4_commonAge 6 (some .int)) ({ frames := 3, cells := 0, slots := 0, locals := 65 } : Room) (PcG G M0 [.ref (gA G (0))]) (QcI G M0 r) 0 0 (PA G) := by
  refine Met.ofW (cc := cX4_commonAge) (maxL := 6) (ret := (some .int)) (by decide) rfl ?_
  intro p e s m args below meth c s₁ B hml hv0
  obtain ⟨hav, hW⟩ := hv0
  have hx := B.exec
  have hb := B.bytes
  have hr := B.returns
  have hts := atoms_spec (ws := (wb yX4_commonAge cX4_commonAge 6 (some .int))) B.pre
  have hown : s.vm.findClass RX4 = some m.cls := findClass_of_methodNamed B.named
  have hlocks := B.notSynchronized
  have hinX4 : ∀ w ∈ u_ws RX4 TX4 10, w ∈ (wb yX4_commonAge cX4_commonAge 6 (some .int)) := fun _ h => List.mem_cons_of_mem _ (inlX4 _ h)
  have hW : Wd G M0 s s.heap := hW
  have hS : va_S (PA G) s.heap s.heap [] := va_S.rf
  have hl := lv_entry [.ref (gA G (0))] (n := 6) (Nat.le_of_ble_eq_true rfl)
  have hent := lg_entry_eq m [.ref (gA G (0))] 6
  rw [← hav] at hent
  rw [hent]
  clear hent
  generalize (lg_sl [.ref (gA G (0))] ++ List.replicate (6 - (lg_sl [.ref (gA G (0))]).length) Slot.unset).toArray = ls at hl ⊢
  have hl : lv_has ls 6 [(0, .ref (gA G (0)))] := hl
  unfold fG_commonAge at hf
  show W p l e ({ frames := 3, cells := 0, slots := 0, locals := 65 } : Room) s m args below meth c s.heap [] 0 0 (MQ below (QcI G M0 r) args s 0 0 (PA G)) (F0 m 0 ls [])
  have L13 : ∀ (z : (Int × Int × Int)) (q : (Int)), loopN (fG_commonAge_l7 M0) 200 z = some q → (q = r) → (inR (z.1) → inR (z.2.1) → inR (z.2.2) → ∀ (H : Heap) (locs : List Loc) (ls : Array Slot), Wd G (M0) s H → va_S (PA G) s.heap H locs → lv_has ls 6 [(0, .ref (gA G (0))), (1, .int (i3 (z.1))), (2, .int (i3 (z.2.1))), (3, .int (i3 (z.2.2)))] → W p l e ({ frames := 3, cells := 0, slots := 0, locals := 65 } : Room) s m args below meth c H locs 0 0 (MQ below (QcI G M0 r) args s 0 0 (PA G)) (F0 m 7 ls [])) := by
    intro z q hq hex
    refine loop_rule (fG_commonAge_l7 M0) (fun z => inR (z.1) → inR (z.2.1) → inR (z.2.2) → ∀ (H : Heap) (locs : List Loc) (ls : Array Slot), Wd G (M0) s H → va_S (PA G) s.heap H locs → lv_has ls 6 [(0, .ref (gA G (0))), (1, .int (i3 (z.1))), (2, .int (i3 (z.2.1))), (3, .int (i3 (z.2.2)))] → W p l e ({ frames := 3, cells := 0, slots := 0, locals := 65 } : Room) s m args below meth c H locs 0 0 (MQ below (QcI G M0 r) args s 0 0 (PA G)) (F0 m 7 ls [])) (fun q => (q = r)) ?_ 200 z q hq hex
    clear hq hex q z
    intro z x hf hK hz1 hz2 hz3 H locs ls hW hS hl
    have J7 : ∀ (x1 : Int) (x2 : Int) (x3 : Int), fG_commonAge_j69 M0 x1 x2 x3 = some x → inR x1 → inR x2 → inR x3 →  ∀ (H : Heap) (locs : List Loc) (ls : Array Slot), Wd G M0 s H → va_S (PA G) s.heap H locs → lv_has ls 6 [(0, .ref (gA G (0))), (1, .int (i3 (x1))), (2, .int (i3 (x2))), (3, .int (i3 (x3)))] → W p l e ({ frames := 3, cells := 0, slots := 0, locals := 65 } : Room) s m args below meth c H locs 0 0 (MQ below (QcI G M0 r) args s 0 0 (PA G)) (F0 m 69 ls []) := by
      intro x1 x2 x3 hf hx1 hx2 hx3 H locs ls hW hS hl
      unfold fG_commonAge_j69 at hf
      obtain ⟨hg8, hf⟩ := gd_el hf
      refine k_iinc (lv' := [(3, .int (i3 (x3 + 1))), (0, .ref (gA G (0))), (1, .int (i3 (x1))), (2, .int (i3 (x2)))]) hx hb dX4_commonAge_69 hl (k := 3) rfl (by decide) rfl (fun ls hl => ?_)
      refine lv_goto (tgt := 7) hx hb dX4_commonAge_72 (by decide) ?_
      obtain rfl := some_el hf
      exact hK hx1 hx2 hg8 _ _ _ hW hS (lv_sub hl [1, 2, 3, 0] rfl)
    have J10 : ∀ (x3 : Int) (x4 : Int) (x5 : Int), fG_commonAge_j63 M0 x3 x4 x5 = some x → inR x3 → inR x4 → inR x5 →  ∀ (H : Heap) (locs : List Loc) (ls : Array Slot), Wd G M0 s H → va_S (PA G) s.heap H locs → lv_has ls 6 [(0, .ref (gA G (0))), (3, .int (i3 (x3))), (4, .int (i3 (x4))), (5, .int (i3 (x5)))] → W p l e ({ frames := 3, cells := 0, slots := 0, locals := 65 } : Room) s m args below meth c H locs 0 0 (MQ below (QcI G M0 r) args s 0 0 (PA G)) (F0 m 63 ls []) := by
      intro x3 x4 x5 hf hx3 hx4 hx5 H locs ls hW hS hl
      unfold fG_commonAge_j63 at hf
      refine lv_iload hx hb dX4_commonAge_63 (lv_at hl 3 rfl) ?_
      refine lv_istore_n (lv' := [(2, .int (i3 (x5))), (0, .ref (gA G (0))), (3, .int (i3 (x3))), (4, .int (i3 (x4))), (5, .int (i3 (x5)))]) hx hb dX4_commonAge_65 rfl hl (by decide) rfl (fun ls hl => ?_)
      refine lv_iload hx hb dX4_commonAge_66 (lv_at hl 3 rfl) ?_
      refine lv_istore_n (lv' := [(1, .int (i3 (x4))), (2, .int (i3 (x5))), (0, .ref (gA G (0))), (3, .int (i3 (x3))), (4, .int (i3 (x4))), (5, .int (i3 (x5)))]) hx hb dX4_commonAge_68 rfl hl (by decide) rfl (fun ls hl => ?_)
      exact J7 (x4) (x5) (x3) hf hx4 hx5 hx3 _ _ _ hW hS (lv_sub hl [2, 0, 1, 3] rfl)
    unfold fG_commonAge_l7 at hf
    refine lv_iload_n hx hb dX4_commonAge_7 rfl (lv_at hl 3 rfl) ?_
    refine k_bipush hx hb dX4_commonAge_8 (by decide +kernel) ?_
    refine k_icmp_ge (tgt := 75) hx hb hz3 (show inR (32) by decide) dX4_commonAge_10 (by decide) (fun hc1 => ?_) (fun hc1 => ?_)
    · rw [if_neg hc1] at hf
      refine lv_iload_n hx hb dX4_commonAge_75 rfl (lv_at hl 1 rfl) ?_
      obtain rfl := some_el hf
      obtain rfl : z.1 = r := hK
      exact k_ret hx hb hr hlocks hW hS rfl hz1 dX4_commonAge_76
    · rw [if_pos hc1] at hf
      refine lv_aload_n hx hb dX4_commonAge_13 rfl (lv_at hl 0 rfl) ?_
      refine va_get (D := G.1) (ci := 4) (v := .ref (gA G (5 + 0))) (C := RX4) (T := TX4) (N := 10) hx hb hts hinX4 hown hW.K hW.P 0 (he_G G M0) rfl 0 (by decide) (hts _ (List.mem_cons_of_mem _ (inB_1 _ (List.mem_of_getElem? (i := 13) rfl)))) (fun _ h9 => h9) rfl dX4_commonAge_14 ?_
      refine lv_iload_n hx hb dX4_commonAge_17 rfl (lv_at hl 3 rfl) ?_
      refine k_cVi (As := [.int (i3 (z.2.2))]) (rest := []) ⟨hx, hb, hml, hown, hts⟩ (mW_ageIn l G M0 (0) (by decide) z.2.2 hz3 _ rfl) (cwV 1 hts (gbV (inB_6 _ (List.mem_of_getElem? (i := 1) rfl)) (inB_6 _ (List.mem_of_getElem? (i := 2) rfl)) (inB_6 _ (List.mem_of_getElem? (i := 3) rfl)) (inB_1 _ (List.mem_of_getElem? (i := 12) rfl)) (inB_6 _ (List.mem_of_getElem? (i := 4) rfl))) rfl rfl rfl (by decide +kernel) ⟨Nat.le_of_ble_eq_true rfl, Nat.le_of_ble_eq_true rfl⟩) (rv_wall (by decide) hW) hW hS rfl hl.1 rfl (lv_room (Nat.le_of_ble_eq_true rfl)) dX4_commonAge_18 ⟨Nat.zero_le _, Nat.zero_le _⟩ (fun hv2 H locs hW hS => ?_)
      refine lv_istore (lv' := [(4, .int (i3 ((fW_ageIn M0 0 z.2.2)))), (0, .ref (gA G (0))), (1, .int (i3 (z.1))), (2, .int (i3 (z.2.1))), (3, .int (i3 (z.2.2)))]) hx hb dX4_commonAge_21 hl (by decide) rfl (fun ls hl => ?_)
      refine lv_aload_n hx hb dX4_commonAge_23 rfl (lv_at hl 1 rfl) ?_
      refine va_get (D := G.1) (ci := 4) (v := .ref (gA G (5 + 0))) (C := RX4) (T := TX4) (N := 10) hx hb hts hinX4 hown hW.K hW.P 0 (he_G G M0) rfl 0 (by decide) (hts _ (List.mem_cons_of_mem _ (inB_1 _ (List.mem_of_getElem? (i := 13) rfl)))) (fun _ h9 => h9) rfl dX4_commonAge_24 ?_
      refine lv_iload hx hb dX4_commonAge_27 (lv_at hl 0 rfl) ?_
      obtain ⟨q3, hq3, hf⟩ := bind_el hf
      refine k_cVi (As := [.int (i3 ((fW_ageIn M0 0 z.2.2)))]) (rest := []) ⟨hx, hb, hml, hown, hts⟩ (mW_sacksAsOldAs l G M0 (0) (by decide) ((fW_ageIn M0 0 z.2.2)) hv2 q3 hq3) (cwV 1 hts (gbV (inB_21 _ (List.mem_of_getElem? (i := 20) rfl)) (inB_21 _ (List.mem_of_getElem? (i := 21) rfl)) (inB_21 _ (List.mem_of_getElem? (i := 22) rfl)) (inB_1 _ (List.mem_of_getElem? (i := 12) rfl)) (inB_21 _ (List.mem_of_getElem? (i := 23) rfl))) rfl rfl rfl (by decide +kernel) ⟨Nat.le_of_ble_eq_true rfl, Nat.le_of_ble_eq_true rfl⟩) (rv_wall (by decide) hW) hW hS rfl hl.1 rfl (lv_room (Nat.le_of_ble_eq_true rfl)) dX4_commonAge_29 ⟨Nat.zero_le _, Nat.zero_le _⟩ (fun hv4 H locs hW hS => ?_)
      refine lv_istore (lv' := [(5, .int (i3 (q3))), (4, .int (i3 ((fW_ageIn M0 0 z.2.2)))), (0, .ref (gA G (0))), (1, .int (i3 (z.1))), (2, .int (i3 (z.2.1))), (3, .int (i3 (z.2.2)))]) hx hb dX4_commonAge_32 hl (by decide) rfl (fun ls hl => ?_)
      refine lv_aload_n hx hb dX4_commonAge_34 rfl (lv_at hl 2 rfl) ?_
      refine va_get (D := G.1) (ci := 4) (v := .ref (gA G (5 + 0))) (C := RX4) (T := TX4) (N := 10) hx hb hts hinX4 hown hW.K hW.P 0 (he_G G M0) rfl 0 (by decide) (hts _ (List.mem_cons_of_mem _ (inB_1 _ (List.mem_of_getElem? (i := 13) rfl)))) (fun _ h9 => h9) rfl dX4_commonAge_35 ?_
      refine lv_iload_n hx hb dX4_commonAge_38 rfl (lv_at hl 5 rfl) ?_
      refine k_cVz (As := [.int (i3 (z.2.2))]) (rest := []) ⟨hx, hb, hml, hown, hts⟩ (mW_isEmpty l G M0 (0) (by decide) z.2.2 hz3 _ rfl) (cwV 1 hts (gbV (inB_4 _ (List.mem_of_getElem? (i := 21) rfl)) (inB_4 _ (List.mem_of_getElem? (i := 22) rfl)) (inB_4 _ (List.mem_of_getElem? (i := 23) rfl)) (inB_1 _ (List.mem_of_getElem? (i := 12) rfl)) (inB_5 _ (List.mem_of_getElem? (i := 0) rfl))) rfl rfl rfl (by decide +kernel) ⟨Nat.le_of_ble_eq_true rfl, Nat.le_of_ble_eq_true rfl⟩) (rv_wall (by decide) hW) hW hS rfl hl.1 rfl (lv_room (Nat.le_of_ble_eq_true rfl)) dX4_commonAge_39 ⟨Nat.zero_le _, Nat.zero_le _⟩ (fun hv5 H locs hW hS => ?_)
      refine k_if_ne (tgt := 69) hx hb (inR_z hv5) dX4_commonAge_42 (by decide) (fun hc6 => ?_) (fun hc6 => ?_)
      · rw [if_neg hc6] at hf
        exact J7 (z.1) (z.2.1) (z.2.2) hf hz1 hz2 hz3 _ _ _ hW hS (lv_sub hl [2, 3, 4, 5] rfl)
      · rw [if_pos hc6] at hf
        refine lv_iload hx hb dX4_commonAge_45 (lv_at hl 0 rfl) ?_
        refine lv_iload_n hx hb dX4_commonAge_47 rfl (lv_at hl 4 rfl) ?_
        refine k_icmp_gt (tgt := 63) hx hb hv4 hz2 dX4_commonAge_48 (by decide) (fun hc9 => ?_) (fun hc9 => ?_)
        · rw [if_pos hc9] at hf
          exact J10 (z.2.2) ((fW_ageIn M0 0 z.2.2)) (q3) hf hz3 hv2 hv4 _ _ _ hW hS (lv_sub hl [2, 5, 1, 0] rfl)
        · rw [if_neg hc9] at hf
          refine lv_iload hx hb dX4_commonAge_51 (lv_at hl 0 rfl) ?_
          refine lv_iload_n hx hb dX4_commonAge_53 rfl (lv_at hl 4 rfl) ?_
          refine k_icmp_ne (tgt := 69) hx hb hv4 hz2 dX4_commonAge_54 (by decide) (fun hc11 => ?_) (fun hc11 => ?_)
          · rw [if_neg hc11] at hf
            exact J7 (z.1) (z.2.1) (z.2.2) hf hz1 hz2 hz3 _ _ _ hW hS (lv_sub hl [2, 3, 4, 5] rfl)
          · rw [if_pos hc11] at hf
            refine lv_iload hx hb dX4_commonAge_57 (lv_at hl 1 rfl) ?_
            refine lv_iload_n hx hb dX4_commonAge_59 rfl (lv_at hl 3 rfl) ?_
            refine k_icmp_ge (tgt := 69) hx hb hv2 hz1 dX4_commonAge_60 (by decide) (fun hc12 => ?_) (fun hc12 => ?_)
            · rw [if_neg hc12] at hf
              exact J7 (z.1) (z.2.1) (z.2.2) hf hz1 hz2 hz3 _ _ _ hW hS (lv_sub hl [2, 3, 4, 5] rfl)
            · rw [if_pos hc12] at hf
              exact J10 (z.2.2) ((fW_ageIn M0 0 z.2.2)) (q3) hf hz3 hv2 hv4 _ _ _ hW hS (lv_sub hl [2, 5, 1, 0] rfl)
  refine k_bipush hx hb dX4_commonAge_0 (by decide +kernel) ?_
  refine lv_istore_n (lv' := [(1, .int (i3 ((-15)))), (0, .ref (gA G (0)))]) hx hb dX4_commonAge_2 rfl hl (by decide) rfl (fun ls hl => ?_)
  refine k_const hx hb dX4_commonAge_3 ?_
  refine lv_istore_n (lv' := [(2, .int (i3 (0))), (1, .int (i3 ((-15)))), (0, .ref (gA G (0)))]) hx hb dX4_commonAge_4 rfl hl (by decide) rfl (fun ls hl => ?_)
  refine k_const hx hb dX4_commonAge_5 ?_
  refine lv_istore_n (lv' := [(3, .int (i3 (0))), (2, .int (i3 (0))), (1, .int (i3 ((-15)))), (0, .ref (gA G (0)))]) hx hb dX4_commonAge_6 rfl hl (by decide) rfl (fun ls hl => ?_)
  exact L13  ((-15), 0, 0) r hf rfl (show inR (-15) by decide) (show inR (0) by decide) (show inR (0) by decide) _ _ _ hW hS (lv_sub hl [3, 2, 1, 0] rfl)
set_option maxHeartbeats 4000000 in
set_option maxRecDepth 100000 in
theorem mG_oldest (l : Launch) (G : gG) (M0 : MemG) (x1 : Int) (hx1 : inR x1) (r : Int) (hf : fG_oldest M0 x1 = some r) : Met l yX4_oldest (wb yX4_oldest cX4_oldest 3 (some .int)) ({ frames := 4, cells := 0, slots := 0, locals := 87 } : Room) (PcG G M0 [.ref (gA G (0)), .int (i3 (x1))]) (QcI G M0 r) 0 0 (PA G) := by
  refine Met.ofW (cc := cX4_oldest) (maxL := 3) (ret := (some .int)) (by decide) rfl ?_
  intro p e s m args below meth c s₁ B hml hv0
  obtain ⟨hav, hW⟩ := hv0
  have hx := B.exec
  have hb := B.bytes
  have hr := B.returns
  have hts := atoms_spec (ws := (wb yX4_oldest cX4_oldest 3 (some .int))) B.pre
  have hown : s.vm.findClass RX4 = some m.cls := findClass_of_methodNamed B.named
  have hlocks := B.notSynchronized
  have hinX4 : ∀ w ∈ u_ws RX4 TX4 10, w ∈ (wb yX4_oldest cX4_oldest 3 (some .int)) := fun _ h => List.mem_cons_of_mem _ (inlX4 _ h)
  have hW : Wd G M0 s s.heap := hW
  have hS : va_S (PA G) s.heap s.heap [] := va_S.rf
  have hl := lv_entry [.ref (gA G (0)), .int (i3 (x1))] (n := 3) (Nat.le_of_ble_eq_true rfl)
  have hent := lg_entry_eq m [.ref (gA G (0)), .int (i3 (x1))] 3
  rw [← hav] at hent
  rw [hent]
  clear hent
  generalize (lg_sl [.ref (gA G (0)), .int (i3 (x1))] ++ List.replicate (3 - (lg_sl [.ref (gA G (0)), .int (i3 (x1))]).length) Slot.unset).toArray = ls at hl ⊢
  have hl : lv_has ls 3 [(0, .ref (gA G (0))), (1, .int (i3 (x1)))] := hl
  unfold fG_oldest at hf
  show W p l e ({ frames := 4, cells := 0, slots := 0, locals := 87 } : Room) s m args below meth c s.heap [] 0 0 (MQ below (QcI G M0 r) args s 0 0 (PA G)) (F0 m 0 ls [])
  have L9 : ∀ (x1 : Int) (hx1 : inR x1), ∀ (z : (Int)) (q : (Int)), loopN (fG_oldest_l2 M0 x1) 200 z = some q → (q = r) → (inR (z) → ∀ (H : Heap) (locs : List Loc) (ls : Array Slot), Wd G (M0) s H → va_S (PA G) s.heap H locs → lv_has ls 3 [(0, .ref (gA G (0))), (1, .int (i3 (x1))), (2, .int (i3 (z)))] → W p l e ({ frames := 4, cells := 0, slots := 0, locals := 87 } : Room) s m args below meth c H locs 0 0 (MQ below (QcI G M0 r) args s 0 0 (PA G)) (F0 m 2 ls [])) := by
    intro x1 hx1 z q hq hex
    refine loop_rule (fG_oldest_l2 M0 x1) (fun z => inR (z) → ∀ (H : Heap) (locs : List Loc) (ls : Array Slot), Wd G (M0) s H → va_S (PA G) s.heap H locs → lv_has ls 3 [(0, .ref (gA G (0))), (1, .int (i3 (x1))), (2, .int (i3 (z)))] → W p l e ({ frames := 4, cells := 0, slots := 0, locals := 87 } : Room) s m args below meth c H locs 0 0 (MQ below (QcI G M0 r) args s 0 0 (PA G)) (F0 m 2 ls [])) (fun q => (q = r)) ?_ 200 z q hq hex
    clear hq hex q z
    intro z x hf hK hz2 H locs ls hW hS hl
    have J4 : ∀ (x2 : Int), fG_oldest_j33 M0 x1 x2 = some x → inR x2 →  ∀ (H : Heap) (locs : List Loc) (ls : Array Slot), Wd G M0 s H → va_S (PA G) s.heap H locs → lv_has ls 3 [(0, .ref (gA G (0))), (1, .int (i3 (x1))), (2, .int (i3 (x2)))] → W p l e ({ frames := 4, cells := 0, slots := 0, locals := 87 } : Room) s m args below meth c H locs 0 0 (MQ below (QcI G M0 r) args s 0 0 (PA G)) (F0 m 33 ls []) := by
      intro x2 hf hx2 H locs ls hW hS hl
      unfold fG_oldest_j33 at hf
      obtain ⟨hg5, hf⟩ := gd_el hf
      refine k_iinc (lv' := [(2, .int (i3 (x2 + 1))), (0, .ref (gA G (0))), (1, .int (i3 (x1)))]) hx hb dX4_oldest_33 hl (k := 2) rfl (by decide) rfl (fun ls hl => ?_)
      refine lv_goto (tgt := 2) hx hb dX4_oldest_36 (by decide) ?_
      obtain rfl := some_el hf
      exact hK hg5 _ _ _ hW hS (lv_sub hl [1, 2, 0] rfl)
    unfold fG_oldest_l2 at hf
    refine lv_iload_n hx hb dX4_oldest_2 rfl (lv_at hl 2 rfl) ?_
    refine k_bipush hx hb dX4_oldest_3 (by decide +kernel) ?_
    refine k_icmp_ge (tgt := 39) hx hb hz2 (show inR (32) by decide) dX4_oldest_5 (by decide) (fun hc1 => ?_) (fun hc1 => ?_)
    · rw [if_neg hc1] at hf
      refine k_bipush hx hb dX4_oldest_39 (by decide +kernel) ?_
      obtain rfl := some_el hf
      obtain rfl : (-11) = r := hK
      exact k_ret hx hb hr hlocks hW hS rfl (show inR (-11) by decide) dX4_oldest_41
    · rw [if_pos hc1] at hf
      refine lv_aload_n hx hb dX4_oldest_8 rfl (lv_at hl 0 rfl) ?_
      refine va_get (D := G.1) (ci := 4) (v := .ref (gA G (5 + 0))) (C := RX4) (T := TX4) (N := 10) hx hb hts hinX4 hown hW.K hW.P 0 (he_G G M0) rfl 0 (by decide) (hts _ (List.mem_cons_of_mem _ (inB_1 _ (List.mem_of_getElem? (i := 13) rfl)))) (fun _ h9 => h9) rfl dX4_oldest_9 ?_
      refine lv_iload_n hx hb dX4_oldest_12 rfl (lv_at hl 2 rfl) ?_
      refine k_cVz (As := [.int (i3 (z))]) (rest := []) ⟨hx, hb, hml, hown, hts⟩ (mW_isEmpty l G M0 (0) (by decide) z hz2 _ rfl) (cwV 1 hts (gbV (inB_4 _ (List.mem_of_getElem? (i := 21) rfl)) (inB_4 _ (List.mem_of_getElem? (i := 22) rfl)) (inB_4 _ (List.mem_of_getElem? (i := 23) rfl)) (inB_1 _ (List.mem_of_getElem? (i := 12) rfl)) (inB_5 _ (List.mem_of_getElem? (i := 0) rfl))) rfl rfl rfl (by decide +kernel) ⟨Nat.le_of_ble_eq_true rfl, Nat.le_of_ble_eq_true rfl⟩) (rv_wall (by decide) hW) hW hS rfl hl.1 rfl (lv_room (Nat.le_of_ble_eq_true rfl)) dX4_oldest_13 ⟨Nat.zero_le _, Nat.zero_le _⟩ (fun hv2 H locs hW hS => ?_)
      refine k_if_ne (tgt := 33) hx hb (inR_z hv2) dX4_oldest_16 (by decide) (fun hc3 => ?_) (fun hc3 => ?_)
      · rw [if_neg hc3] at hf
        exact J4 (z) hf hz2 _ _ _ hW hS (lv_sub hl [0, 1, 2] rfl)
      · rw [if_pos hc3] at hf
        refine lv_aload_n hx hb dX4_oldest_19 rfl (lv_at hl 0 rfl) ?_
        refine va_get (D := G.1) (ci := 4) (v := .ref (gA G (5 + 0))) (C := RX4) (T := TX4) (N := 10) hx hb hts hinX4 hown hW.K hW.P 0 (he_G G M0) rfl 0 (by decide) (hts _ (List.mem_cons_of_mem _ (inB_1 _ (List.mem_of_getElem? (i := 13) rfl)))) (fun _ h9 => h9) rfl dX4_oldest_20 ?_
        refine lv_iload_n hx hb dX4_oldest_23 rfl (lv_at hl 2 rfl) ?_
        obtain ⟨q6, hq6, hf⟩ := bind_el hf
        refine k_cVi (As := [.int (i3 (z))]) (rest := []) ⟨hx, hb, hml, hown, hts⟩ (mW_placeOf l G M0 (0) (by decide) z hz2 q6 hq6) (cwV 1 hts (gbV (inB_21 _ (List.mem_of_getElem? (i := 4) rfl)) (inB_21 _ (List.mem_of_getElem? (i := 5) rfl)) (inB_21 _ (List.mem_of_getElem? (i := 6) rfl)) (inB_1 _ (List.mem_of_getElem? (i := 12) rfl)) (inB_21 _ (List.mem_of_getElem? (i := 7) rfl))) rfl rfl rfl (by decide +kernel) ⟨Nat.le_of_ble_eq_true rfl, Nat.le_of_ble_eq_true rfl⟩) (rv_wall (by decide) hW) hW hS rfl hl.1 rfl (lv_room (Nat.le_of_ble_eq_true rfl)) dX4_oldest_24 ⟨Nat.zero_le _, Nat.zero_le _⟩ (fun hv7 H locs hW hS => ?_)
        refine lv_iload_n hx hb dX4_oldest_27 rfl (lv_at hl 1 rfl) ?_
        refine k_icmp_ne (tgt := 33) hx hb hv7 hx1 dX4_oldest_28 (by decide) (fun hc8 => ?_) (fun hc8 => ?_)
        · rw [if_neg hc8] at hf
          exact J4 (z) hf hz2 _ _ _ hW hS (lv_sub hl [0, 1, 2] rfl)
        · rw [if_pos hc8] at hf
          refine lv_iload_n hx hb dX4_oldest_31 rfl (lv_at hl 2 rfl) ?_
          obtain rfl := some_el hf
          obtain rfl : z = r := hK
          exact k_ret hx hb hr hlocks hW hS rfl hz2 dX4_oldest_32
  refine k_const hx hb dX4_oldest_0 ?_
  refine lv_istore_n (lv' := [(2, .int (i3 (0))), (0, .ref (gA G (0))), (1, .int (i3 (x1)))]) hx hb dX4_oldest_1 rfl hl (by decide) rfl (fun ls hl => ?_)
  exact L9 (x1) hx1 (0) r hf rfl (show inR (0) by decide) _ _ _ hW hS (lv_sub hl [1, 2, 0] rfl)
set_option maxHeartbeats 4000000 in
set_option maxRecDepth 100000 in
theorem mG_rungOf (l : Launch) (G : gG) (M0 : MemG) (x1 : Int) (hx1 : inR x1) (x2 : Int) (hx2 : inR x2) (r : Int) (hf : fG_rungOf M0 x1 x2 = some r) : Met l yX4_rungOf (wb yX4_rungOf cX4_rungOf 3 (some .int)) ({ frames := 3, cells := 0, slots := 0, locals := 63 } : Room) (PcG G M0 [.ref (gA G (0)), .int (i3 (x1)), .int (i3 (x2))]) (QcI G M0 r) 0 0 (PA G) := by
  refine Met.ofW (cc := cX4_rungOf) (maxL := 3) (ret := (some .int)) (by decide) rfl ?_
  intro p e s m args below meth c s₁ B hml hv0
  obtain ⟨hav, hW⟩ := hv0
  have hx := B.exec
  have hb := B.bytes
  have hr := B.returns
  have hts := atoms_spec (ws := (wb yX4_rungOf cX4_rungOf 3 (some .int))) B.pre
  have hown : s.vm.findClass RX4 = some m.cls := findClass_of_methodNamed B.named
  have hlocks := B.notSynchronized
  have hinX4 : ∀ w ∈ u_ws RX4 TX4 10, w ∈ (wb yX4_rungOf cX4_rungOf 3 (some .int)) := fun _ h => List.mem_cons_of_mem _ (inlX4 _ h)
  have hW : Wd G M0 s s.heap := hW
  have hS : va_S (PA G) s.heap s.heap [] := va_S.rf
  have hl := lv_entry [.ref (gA G (0)), .int (i3 (x1)), .int (i3 (x2))] (n := 3) (Nat.le_of_ble_eq_true rfl)
  have hent := lg_entry_eq m [.ref (gA G (0)), .int (i3 (x1)), .int (i3 (x2))] 3
  rw [← hav] at hent
  rw [hent]
  clear hent
  generalize (lg_sl [.ref (gA G (0)), .int (i3 (x1)), .int (i3 (x2))] ++ List.replicate (3 - (lg_sl [.ref (gA G (0)), .int (i3 (x1)), .int (i3 (x2))]).length) Slot.unset).toArray = ls at hl ⊢
  have hl : lv_has ls 3 [(0, .ref (gA G (0))), (1, .int (i3 (x1))), (2, .int (i3 (x2)))] := hl
  unfold fG_rungOf at hf
  show W p l e ({ frames := 3, cells := 0, slots := 0, locals := 63 } : Room) s m args below meth c s.heap [] 0 0 (MQ below (QcI G M0 r) args s 0 0 (PA G)) (F0 m 0 ls [])
  refine lv_iload_n hx hb dX4_rungOf_0 rfl (lv_at hl 1 rfl) ?_
  refine k_cSz (As := [.int (i3 (x1))]) (rest := []) ⟨hx, hb, hml, hown, hts⟩ (mG_isRung l G M0 x1 hx1 _ rfl) (va_cwS 1 hts (gbS (inB_10 _ (List.mem_of_getElem? (i := 13) rfl)) (inB_10 _ (List.mem_of_getElem? (i := 14) rfl)) (inB_1 _ (List.mem_of_getElem? (i := 2) rfl)) (inB_10 _ (List.mem_of_getElem? (i := 15) rfl))) rfl rfl rfl (by decide +kernel) ⟨Nat.le_of_ble_eq_true rfl, Nat.le_of_ble_eq_true rfl⟩) hW hS rfl hl.1 rfl (lv_room (Nat.le_of_ble_eq_true rfl)) dX4_rungOf_1 ⟨Nat.zero_le _, Nat.zero_le _⟩ (fun hv1 H locs hW hS => ?_)
  refine k_if_ne (tgt := 10) hx hb (inR_z hv1) dX4_rungOf_4 (by decide) (fun hc2 => ?_) (fun hc2 => ?_)
  · rw [if_neg hc2] at hf
    refine lv_iload_n hx hb dX4_rungOf_10 rfl (lv_at hl 2 rfl) ?_
    by_cases hc3 : x2 = 0
    · rw [if_pos hc3] at hf
      refine k_tin (tgt := 48) hx hb hx2 dX4_rungOf_11 (by omega) (by omega) (by rw [hc3]; rfl) (by decide) ?_
      refine lv_iload_n hx hb dX4_rungOf_48 rfl (lv_at hl 1 rfl) ?_
      refine k_cSi (As := [.int (i3 (x1))]) (rest := []) ⟨hx, hb, hml, hown, hts⟩ (mG_sizeOf l G M0 x1 hx1 _ rfl) (va_cwS 1 hts (gbS (inB_7 _ (List.mem_of_getElem? (i := 5) rfl)) (inB_6 _ (List.mem_of_getElem? (i := 13) rfl)) (inB_1 _ (List.mem_of_getElem? (i := 2) rfl)) (inB_6 _ (List.mem_of_getElem? (i := 14) rfl))) rfl rfl rfl (by decide +kernel) ⟨Nat.le_of_ble_eq_true rfl, Nat.le_of_ble_eq_true rfl⟩) hW hS rfl hl.1 rfl (lv_room (Nat.le_of_ble_eq_true rfl)) dX4_rungOf_49 ⟨Nat.zero_le _, Nat.zero_le _⟩ (fun hv4 H locs hW hS => ?_)
      obtain rfl := some_el hf
      exact k_ret hx hb hr hlocks hW hS rfl hv4 dX4_rungOf_52
    · rw [if_neg hc3] at hf
      by_cases hc5 : x2 = 1
      · rw [if_pos hc5] at hf
        refine k_tin (tgt := 53) hx hb hx2 dX4_rungOf_11 (by omega) (by omega) (by rw [hc5]; rfl) (by decide) ?_
        refine lv_aload_n hx hb dX4_rungOf_53 rfl (lv_at hl 0 rfl) ?_
        refine va_get (D := G.1) (ci := 4) (v := .ref (gA G (5 + 0))) (C := RX4) (T := TX4) (N := 10) hx hb hts hinX4 hown hW.K hW.P 0 (he_G G M0) rfl 0 (by decide) (hts _ (List.mem_cons_of_mem _ (inB_1 _ (List.mem_of_getElem? (i := 13) rfl)))) (fun _ h9 => h9) rfl dX4_rungOf_54 ?_
        refine lv_iload_n hx hb dX4_rungOf_57 rfl (lv_at hl 1 rfl) ?_
        refine k_cVi (As := [.int (i3 (x1))]) (rest := []) ⟨hx, hb, hml, hown, hts⟩ (mW_sumOf l G M0 (0) (by decide) x1 hx1 _ rfl) (cwV 1 hts (gbV (inB_10 _ (List.mem_of_getElem? (i := 16) rfl)) (inB_7 _ (List.mem_of_getElem? (i := 0) rfl)) (inB_7 _ (List.mem_of_getElem? (i := 1) rfl)) (inB_1 _ (List.mem_of_getElem? (i := 12) rfl)) (inB_7 _ (List.mem_of_getElem? (i := 2) rfl))) rfl rfl rfl (by decide +kernel) ⟨Nat.le_of_ble_eq_true rfl, Nat.le_of_ble_eq_true rfl⟩) (rv_wall (by decide) hW) hW hS rfl hl.1 rfl (lv_room (Nat.le_of_ble_eq_true rfl)) dX4_rungOf_58 ⟨Nat.zero_le _, Nat.zero_le _⟩ (fun hv6 H locs hW hS => ?_)
        obtain rfl := some_el hf
        exact k_ret hx hb hr hlocks hW hS rfl hv6 dX4_rungOf_61
      · rw [if_neg hc5] at hf
        by_cases hc7 : x2 = 2
        · rw [if_pos hc7] at hf
          refine k_tin (tgt := 62) hx hb hx2 dX4_rungOf_11 (by omega) (by omega) (by rw [hc7]; rfl) (by decide) ?_
          refine lv_iload_n hx hb dX4_rungOf_62 rfl (lv_at hl 1 rfl) ?_
          obtain ⟨q8, hq8, hf⟩ := bind_el hf
          refine k_cSi (As := [.int (i3 (x1))]) (rest := []) ⟨hx, hb, hml, hown, hts⟩ (mG_loadOf l G M0 x1 hx1 q8 hq8) (va_cwS 1 hts (gbS (inB_10 _ (List.mem_of_getElem? (i := 17) rfl)) (inB_7 _ (List.mem_of_getElem? (i := 3) rfl)) (inB_1 _ (List.mem_of_getElem? (i := 2) rfl)) (inB_7 _ (List.mem_of_getElem? (i := 4) rfl))) rfl rfl rfl (by decide +kernel) ⟨Nat.le_of_ble_eq_true rfl, Nat.le_of_ble_eq_true rfl⟩) hW hS rfl hl.1 rfl (lv_room (Nat.le_of_ble_eq_true rfl)) dX4_rungOf_63 ⟨Nat.zero_le _, Nat.zero_le _⟩ (fun hv9 H locs hW hS => ?_)
          obtain rfl := some_el hf
          exact k_ret hx hb hr hlocks hW hS rfl hv9 dX4_rungOf_66
        · rw [if_neg hc7] at hf
          by_cases hc10 : x2 = 3
          · rw [if_pos hc10] at hf
            refine k_tin (tgt := 67) hx hb hx2 dX4_rungOf_11 (by omega) (by omega) (by rw [hc10]; rfl) (by decide) ?_
            refine lv_aload_n hx hb dX4_rungOf_67 rfl (lv_at hl 0 rfl) ?_
            refine va_get (D := G.1) (ci := 4) (v := .ref (gA G (5 + 0))) (C := RX4) (T := TX4) (N := 10) hx hb hts hinX4 hown hW.K hW.P 0 (he_G G M0) rfl 0 (by decide) (hts _ (List.mem_cons_of_mem _ (inB_1 _ (List.mem_of_getElem? (i := 13) rfl)))) (fun _ h9 => h9) rfl dX4_rungOf_68 ?_
            refine lv_iload_n hx hb dX4_rungOf_71 rfl (lv_at hl 1 rfl) ?_
            refine k_cVz (As := [.int (i3 (x1))]) (rest := []) ⟨hx, hb, hml, hown, hts⟩ (mW_isCracked l G M0 (0) (by decide) x1 hx1 _ rfl) (cwV 1 hts (gbV (inB_10 _ (List.mem_of_getElem? (i := 18) rfl)) (inB_6 _ (List.mem_of_getElem? (i := 20) rfl)) (inB_6 _ (List.mem_of_getElem? (i := 21) rfl)) (inB_1 _ (List.mem_of_getElem? (i := 12) rfl)) (inB_6 _ (List.mem_of_getElem? (i := 22) rfl))) rfl rfl rfl (by decide +kernel) ⟨Nat.le_of_ble_eq_true rfl, Nat.le_of_ble_eq_true rfl⟩) (rv_wall (by decide) hW) hW hS rfl hl.1 rfl (lv_room (Nat.le_of_ble_eq_true rfl)) dX4_rungOf_72 ⟨Nat.zero_le _, Nat.zero_le _⟩ (fun hv11 H locs hW hS => ?_)
            refine k_if_eq (tgt := 82) hx hb (inR_z hv11) dX4_rungOf_75 (by decide) (fun hc12 => ?_) (fun hc12 => ?_)
            · rw [if_pos hc12] at hf
              refine k_const hx hb dX4_rungOf_82 ?_
              obtain rfl := some_el hf
              exact k_ret hx hb hr hlocks hW hS rfl (show inR (0) by decide) dX4_rungOf_83
            · rw [if_neg hc12] at hf
              refine k_const hx hb dX4_rungOf_78 ?_
              refine lv_goto (tgt := 83) hx hb dX4_rungOf_79 (by decide) ?_
              obtain rfl := some_el hf
              exact k_ret hx hb hr hlocks hW hS rfl (show inR (1) by decide) dX4_rungOf_83
          · rw [if_neg hc10] at hf
            by_cases hc13 : x2 = 4
            · rw [if_pos hc13] at hf
              refine k_tin (tgt := 84) hx hb hx2 dX4_rungOf_11 (by omega) (by omega) (by rw [hc13]; rfl) (by decide) ?_
              refine lv_iload_n hx hb dX4_rungOf_84 rfl (lv_at hl 1 rfl) ?_
              obtain ⟨q14, hq14, hf⟩ := bind_el hf
              refine k_cSi (As := [.int (i3 (x1))]) (rest := []) ⟨hx, hb, hml, hown, hts⟩ (mG_firstBayOf l G M0 x1 hx1 q14 hq14) (va_cwS 1 hts (gbS (inB_10 _ (List.mem_of_getElem? (i := 19) rfl)) (inB_10 _ (List.mem_of_getElem? (i := 20) rfl)) (inB_1 _ (List.mem_of_getElem? (i := 2) rfl)) (inB_10 _ (List.mem_of_getElem? (i := 21) rfl))) rfl rfl rfl (by decide +kernel) ⟨Nat.le_of_ble_eq_true rfl, Nat.le_of_ble_eq_true rfl⟩) hW hS rfl hl.1 rfl (lv_room (Nat.le_of_ble_eq_true rfl)) dX4_rungOf_85 ⟨Nat.zero_le _, Nat.zero_le _⟩ (fun hv15 H locs hW hS => ?_)
              obtain rfl := some_el hf
              exact k_ret hx hb hr hlocks hW hS rfl hv15 dX4_rungOf_88
            · rw [if_neg hc13] at hf
              by_cases hc16 : x2 = 5
              · rw [if_pos hc16] at hf
                refine k_tin (tgt := 89) hx hb hx2 dX4_rungOf_11 (by omega) (by omega) (by rw [hc16]; rfl) (by decide) ?_
                refine lv_iload_n hx hb dX4_rungOf_89 rfl (lv_at hl 1 rfl) ?_
                obtain ⟨q17, hq17, hf⟩ := bind_el hf
                refine k_cSi (As := [.int (i3 (x1))]) (rest := []) ⟨hx, hb, hml, hown, hts⟩ (mG_rungsBelow l G M0 x1 hx1 q17 hq17) (va_cwS 1 hts (gbS (inB_10 _ (List.mem_of_getElem? (i := 22) rfl)) (inB_10 _ (List.mem_of_getElem? (i := 23) rfl)) (inB_1 _ (List.mem_of_getElem? (i := 2) rfl)) (inB_11 _ (List.mem_of_getElem? (i := 0) rfl))) rfl rfl rfl (by decide +kernel) ⟨Nat.le_of_ble_eq_true rfl, Nat.le_of_ble_eq_true rfl⟩) hW hS rfl hl.1 rfl (lv_room (Nat.le_of_ble_eq_true rfl)) dX4_rungOf_90 ⟨Nat.zero_le _, Nat.zero_le _⟩ (fun hv18 H locs hW hS => ?_)
                obtain rfl := some_el hf
                exact k_ret hx hb hr hlocks hW hS rfl hv18 dX4_rungOf_93
              · rw [if_neg hc16] at hf
                refine k_tdef (tgt := 94) hx hb hx2 dX4_rungOf_11 (by rcases (show x2 < 0 ∨ 5 < x2 by omega) with h9 | h9; exact Or.inl (by omega); exact Or.inl (by omega)) (by decide) ?_
                refine k_bipush hx hb dX4_rungOf_94 (by decide +kernel) ?_
                obtain rfl := some_el hf
                exact k_ret hx hb hr hlocks hW hS rfl (show inR (-12) by decide) dX4_rungOf_96
  · rw [if_pos hc2] at hf
    refine k_bipush hx hb dX4_rungOf_7 (by decide +kernel) ?_
    obtain rfl := some_el hf
    exact k_ret hx hb hr hlocks hW hS rfl (show inR (-11) by decide) dX4_rungOf_9
set_option maxHeartbeats 4000000 in
set_option maxRecDepth 100000 in
theorem mG_soundShare (l : Launch) (G : gG) (M0 : MemG)  (r : UInt32) (hf : fG_soundShare M0 = some r) : Met l yX4_soundShare (wb yX4_soundShare cX4_soundShare 1 (some .float)) ({ frames := 3, cells := 0, slots := 0, locals := 64 } : Room) (PcG G M0 [.ref (gA G (0))]) (QcF G M0 r) 0 0 (PA G) := by
  refine Met.ofW (cc := cX4_soundShare) (maxL := 1) (ret := (some .float)) (by decide) rfl ?_
  intro p e s m args below meth c s₁ B hml hv0
  obtain ⟨hav, hW⟩ := hv0
  have hx := B.exec
  have hb := B.bytes
  have hr := B.returns
  have hts := atoms_spec (ws := (wb yX4_soundShare cX4_soundShare 1 (some .float))) B.pre
  have hown : s.vm.findClass RX4 = some m.cls := findClass_of_methodNamed B.named
  have hlocks := B.notSynchronized
  have hinX4 : ∀ w ∈ u_ws RX4 TX4 10, w ∈ (wb yX4_soundShare cX4_soundShare 1 (some .float)) := fun _ h => List.mem_cons_of_mem _ (inlX4 _ h)
  have hW : Wd G M0 s s.heap := hW
  have hS : va_S (PA G) s.heap s.heap [] := va_S.rf
  have hl := lv_entry [.ref (gA G (0))] (n := 1) (Nat.le_of_ble_eq_true rfl)
  have hent := lg_entry_eq m [.ref (gA G (0))] 1
  rw [← hav] at hent
  rw [hent]
  clear hent
  generalize (lg_sl [.ref (gA G (0))] ++ List.replicate (1 - (lg_sl [.ref (gA G (0))]).length) Slot.unset).toArray = ls at hl ⊢
  have hl : lv_has ls 1 [(0, .ref (gA G (0)))] := hl
  unfold fG_soundShare at hf
  show W p l e ({ frames := 3, cells := 0, slots := 0, locals := 64 } : Room) s m args below meth c s.heap [] 0 0 (MQ below (QcF G M0 r) args s 0 0 (PA G)) (F0 m 0 ls [])
  refine k_bipush hx hb dX4_soundShare_0 (by decide +kernel) ?_
  refine lv_aload_n hx hb dX4_soundShare_2 rfl (lv_at hl 0 rfl) ?_
  refine va_get (D := G.1) (ci := 4) (v := .ref (gA G (5 + 0))) (C := RX4) (T := TX4) (N := 10) hx hb hts hinX4 hown hW.K hW.P 0 (he_G G M0) rfl 0 (by decide) (hts _ (List.mem_cons_of_mem _ (inB_1 _ (List.mem_of_getElem? (i := 13) rfl)))) (fun _ h9 => h9) rfl dX4_soundShare_3 ?_
  obtain ⟨q1, hq1, hf⟩ := bind_el hf
  refine k_cVi (As := []) (rest := [.int (i3 (32))]) ⟨hx, hb, hml, hown, hts⟩ (mW_crackedRungs l G M0 (0) (by decide) q1 hq1) (cwV 0 hts (gbV (inB_9 _ (List.mem_of_getElem? (i := 1) rfl)) (inB_9 _ (List.mem_of_getElem? (i := 2) rfl)) (inB_9 _ (List.mem_of_getElem? (i := 3) rfl)) (inB_1 _ (List.mem_of_getElem? (i := 12) rfl)) (inB_9 _ (List.mem_of_getElem? (i := 4) rfl))) rfl rfl rfl (by decide +kernel) ⟨Nat.le_of_ble_eq_true rfl, Nat.le_of_ble_eq_true rfl⟩) (rv_wall (by decide) hW) hW hS rfl hl.1 rfl (lv_room (Nat.le_of_ble_eq_true rfl)) dX4_soundShare_6 ⟨Nat.zero_le _, Nat.zero_le _⟩ (fun hv2 H locs hW hS => ?_)
  refine k_sub hx hb dX4_soundShare_9 ?_
  refine lv_i2f hx hb dX4_soundShare_10 ?_
  refine lv_ldcf (v := 1107296256) hx hb hown (hts _ (List.mem_cons_of_mem _ (inB_22 _ (List.mem_of_getElem? (i := 4) rfl)))) dX4_soundShare_11 ?_
  obtain ⟨hg3, hf⟩ := gff_el hf
  refine lv_fdiv hx hb dX4_soundShare_13 hg3 ?_
  obtain rfl := some_el hf
  exact k_retf hx hb hr hlocks hW hS rfl dX4_soundShare_14
set_option maxHeartbeats 4000000 in
set_option maxRecDepth 100000 in
theorem mG_tightest (l : Launch) (G : gG) (M0 : MemG)  (r : Int) (hf : fG_tightest M0 = some r) : Met l yX4_tightest (wb yX4_tightest cX4_tightest 5 (some .int)) ({ frames := 2, cells := 0, slots := 0, locals := 42 } : Room) (PcG G M0 [.ref (gA G (0))]) (QcI G M0 r) 0 0 (PA G) := by
  refine Met.ofW (cc := cX4_tightest) (maxL := 5) (ret := (some .int)) (by decide) rfl ?_
  intro p e s m args below meth c s₁ B hml hv0
  obtain ⟨hav, hW⟩ := hv0
  have hx := B.exec
  have hb := B.bytes
  have hr := B.returns
  have hts := atoms_spec (ws := (wb yX4_tightest cX4_tightest 5 (some .int))) B.pre
  have hown : s.vm.findClass RX4 = some m.cls := findClass_of_methodNamed B.named
  have hlocks := B.notSynchronized
  have hinX4 : ∀ w ∈ u_ws RX4 TX4 10, w ∈ (wb yX4_tightest cX4_tightest 5 (some .int)) := fun _ h => List.mem_cons_of_mem _ (inlX4 _ h)
  have hW : Wd G M0 s s.heap := hW
  have hS : va_S (PA G) s.heap s.heap [] := va_S.rf
  have hl := lv_entry [.ref (gA G (0))] (n := 5) (Nat.le_of_ble_eq_true rfl)
  have hent := lg_entry_eq m [.ref (gA G (0))] 5
  rw [← hav] at hent
  rw [hent]
  clear hent
  generalize (lg_sl [.ref (gA G (0))] ++ List.replicate (5 - (lg_sl [.ref (gA G (0))]).length) Slot.unset).toArray = ls at hl ⊢
  have hl : lv_has ls 5 [(0, .ref (gA G (0)))] := hl
  unfold fG_tightest at hf
  show W p l e ({ frames := 2, cells := 0, slots := 0, locals := 42 } : Room) s m args below meth c s.heap [] 0 0 (MQ below (QcI G M0 r) args s 0 0 (PA G)) (F0 m 0 ls [])
  have L13 : ∀ (z : (Int × Int × Int)) (q : (Int)), loopN (fG_tightest_l7 M0) 200 z = some q → (q = r) → (inR (z.1) → inR (z.2.1) → inR (z.2.2) → ∀ (H : Heap) (locs : List Loc) (ls : Array Slot), Wd G (M0) s H → va_S (PA G) s.heap H locs → lv_has ls 5 [(0, .ref (gA G (0))), (1, .int (i3 (z.1))), (2, .int (i3 (z.2.1))), (3, .int (i3 (z.2.2)))] → W p l e ({ frames := 2, cells := 0, slots := 0, locals := 42 } : Room) s m args below meth c H locs 0 0 (MQ below (QcI G M0 r) args s 0 0 (PA G)) (F0 m 7 ls [])) := by
    intro z q hq hex
    refine loop_rule (fG_tightest_l7 M0) (fun z => inR (z.1) → inR (z.2.1) → inR (z.2.2) → ∀ (H : Heap) (locs : List Loc) (ls : Array Slot), Wd G (M0) s H → va_S (PA G) s.heap H locs → lv_has ls 5 [(0, .ref (gA G (0))), (1, .int (i3 (z.1))), (2, .int (i3 (z.2.1))), (3, .int (i3 (z.2.2)))] → W p l e ({ frames := 2, cells := 0, slots := 0, locals := 42 } : Room) s m args below meth c H locs 0 0 (MQ below (QcI G M0 r) args s 0 0 (PA G)) (F0 m 7 ls [])) (fun q => (q = r)) ?_ 200 z q hq hex
    clear hq hex q z
    intro z x hf hK hz1 hz2 hz3 H locs ls hW hS hl
    have J8 : ∀ (x1 : Int) (x2 : Int) (x3 : Int), fG_tightest_j56 M0 x1 x2 x3 = some x → inR x1 → inR x2 → inR x3 →  ∀ (H : Heap) (locs : List Loc) (ls : Array Slot), Wd G M0 s H → va_S (PA G) s.heap H locs → lv_has ls 5 [(0, .ref (gA G (0))), (1, .int (i3 (x1))), (2, .int (i3 (x2))), (3, .int (i3 (x3)))] → W p l e ({ frames := 2, cells := 0, slots := 0, locals := 42 } : Room) s m args below meth c H locs 0 0 (MQ below (QcI G M0 r) args s 0 0 (PA G)) (F0 m 56 ls []) := by
      intro x1 x2 x3 hf hx1 hx2 hx3 H locs ls hW hS hl
      unfold fG_tightest_j56 at hf
      obtain ⟨hg9, hf⟩ := gd_el hf
      refine k_iinc (lv' := [(3, .int (i3 (x3 + 1))), (0, .ref (gA G (0))), (1, .int (i3 (x1))), (2, .int (i3 (x2)))]) hx hb dX4_tightest_56 hl (k := 3) rfl (by decide) rfl (fun ls hl => ?_)
      refine lv_goto (tgt := 7) hx hb dX4_tightest_59 (by decide) ?_
      obtain rfl := some_el hf
      exact hK hx1 hx2 hg9 _ _ _ hW hS (lv_sub hl [1, 2, 3, 0] rfl)
    have J11 : ∀ (x3 : Int) (x4 : Int), fG_tightest_j51 M0 x3 x4 = some x → inR x3 → inR x4 →  ∀ (H : Heap) (locs : List Loc) (ls : Array Slot), Wd G M0 s H → va_S (PA G) s.heap H locs → lv_has ls 5 [(0, .ref (gA G (0))), (3, .int (i3 (x3))), (4, .int (i3 (x4)))] → W p l e ({ frames := 2, cells := 0, slots := 0, locals := 42 } : Room) s m args below meth c H locs 0 0 (MQ below (QcI G M0 r) args s 0 0 (PA G)) (F0 m 51 ls []) := by
      intro x3 x4 hf hx3 hx4 H locs ls hW hS hl
      unfold fG_tightest_j51 at hf
      refine lv_iload_n hx hb dX4_tightest_51 rfl (lv_at hl 1 rfl) ?_
      refine lv_istore_n (lv' := [(1, .int (i3 (x3))), (0, .ref (gA G (0))), (3, .int (i3 (x3))), (4, .int (i3 (x4)))]) hx hb dX4_tightest_52 rfl hl (by decide) rfl (fun ls hl => ?_)
      refine lv_iload hx hb dX4_tightest_53 (lv_at hl 3 rfl) ?_
      refine lv_istore_n (lv' := [(2, .int (i3 (x4))), (1, .int (i3 (x3))), (0, .ref (gA G (0))), (3, .int (i3 (x3))), (4, .int (i3 (x4)))]) hx hb dX4_tightest_55 rfl hl (by decide) rfl (fun ls hl => ?_)
      exact J8 (x3) (x4) (x3) hf hx3 hx4 hx3 _ _ _ hW hS (lv_sub hl [2, 1, 0, 3] rfl)
    unfold fG_tightest_l7 at hf
    refine lv_iload_n hx hb dX4_tightest_7 rfl (lv_at hl 3 rfl) ?_
    refine k_bipush hx hb dX4_tightest_8 (by decide +kernel) ?_
    refine k_icmp_gt (tgt := 62) hx hb hz3 (show inR (32) by decide) dX4_tightest_10 (by decide) (fun hc1 => ?_) (fun hc1 => ?_)
    · rw [if_pos hc1] at hf
      refine lv_iload_n hx hb dX4_tightest_62 rfl (lv_at hl 1 rfl) ?_
      obtain rfl := some_el hf
      obtain rfl : z.1 = r := hK
      exact k_ret hx hb hr hlocks hW hS rfl hz1 dX4_tightest_63
    · rw [if_neg hc1] at hf
      refine lv_iload_n hx hb dX4_tightest_13 rfl (lv_at hl 3 rfl) ?_
      obtain ⟨q2, hq2, hf⟩ := bind_el hf
      refine k_cSi (As := [.int (i3 (z.2.2))]) (rest := []) ⟨hx, hb, hml, hown, hts⟩ (mG_loadOf l G M0 z.2.2 hz3 q2 hq2) (va_cwS 1 hts (gbS (inB_10 _ (List.mem_of_getElem? (i := 17) rfl)) (inB_7 _ (List.mem_of_getElem? (i := 3) rfl)) (inB_1 _ (List.mem_of_getElem? (i := 2) rfl)) (inB_7 _ (List.mem_of_getElem? (i := 4) rfl))) rfl rfl rfl (by decide +kernel) ⟨Nat.le_of_ble_eq_true rfl, Nat.le_of_ble_eq_true rfl⟩) hW hS rfl hl.1 rfl (lv_room (Nat.le_of_ble_eq_true rfl)) dX4_tightest_14 ⟨Nat.zero_le _, Nat.zero_le _⟩ (fun hv3 H locs hW hS => ?_)
      refine lv_aload_n hx hb dX4_tightest_17 rfl (lv_at hl 0 rfl) ?_
      refine va_get (D := G.1) (ci := 4) (v := .ref (gA G (5 + 0))) (C := RX4) (T := TX4) (N := 10) hx hb hts hinX4 hown hW.K hW.P 0 (he_G G M0) rfl 0 (by decide) (hts _ (List.mem_cons_of_mem _ (inB_1 _ (List.mem_of_getElem? (i := 13) rfl)))) (fun _ h9 => h9) rfl dX4_tightest_18 ?_
      refine lv_iload_n hx hb dX4_tightest_21 rfl (lv_at hl 3 rfl) ?_
      refine k_cVi (As := [.int (i3 (z.2.2))]) (rest := [.int (i3 (q2))]) ⟨hx, hb, hml, hown, hts⟩ (mW_sumOf l G M0 (0) (by decide) z.2.2 hz3 _ rfl) (cwV 1 hts (gbV (inB_10 _ (List.mem_of_getElem? (i := 16) rfl)) (inB_7 _ (List.mem_of_getElem? (i := 0) rfl)) (inB_7 _ (List.mem_of_getElem? (i := 1) rfl)) (inB_1 _ (List.mem_of_getElem? (i := 12) rfl)) (inB_7 _ (List.mem_of_getElem? (i := 2) rfl))) rfl rfl rfl (by decide +kernel) ⟨Nat.le_of_ble_eq_true rfl, Nat.le_of_ble_eq_true rfl⟩) (rv_wall (by decide) hW) hW hS rfl hl.1 rfl (lv_room (Nat.le_of_ble_eq_true rfl)) dX4_tightest_22 ⟨Nat.zero_le _, Nat.zero_le _⟩ (fun hv4 H locs hW hS => ?_)
      refine k_sub hx hb dX4_tightest_25 ?_
      obtain ⟨hg5, hf⟩ := gd_el hf
      refine lv_istore (lv' := [(4, .int (i3 (q2 - ((fW_sumOf M0 0 z.2.2))))), (0, .ref (gA G (0))), (1, .int (i3 (z.1))), (2, .int (i3 (z.2.1))), (3, .int (i3 (z.2.2)))]) hx hb dX4_tightest_26 hl (by decide) rfl (fun ls hl => ?_)
      refine lv_aload_n hx hb dX4_tightest_28 rfl (lv_at hl 1 rfl) ?_
      refine va_get (D := G.1) (ci := 4) (v := .ref (gA G (5 + 0))) (C := RX4) (T := TX4) (N := 10) hx hb hts hinX4 hown hW.K hW.P 0 (he_G G M0) rfl 0 (by decide) (hts _ (List.mem_cons_of_mem _ (inB_1 _ (List.mem_of_getElem? (i := 13) rfl)))) (fun _ h9 => h9) rfl dX4_tightest_29 ?_
      refine lv_iload_n hx hb dX4_tightest_32 rfl (lv_at hl 4 rfl) ?_
      refine k_cVz (As := [.int (i3 (z.2.2))]) (rest := []) ⟨hx, hb, hml, hown, hts⟩ (mW_isCracked l G M0 (0) (by decide) z.2.2 hz3 _ rfl) (cwV 1 hts (gbV (inB_10 _ (List.mem_of_getElem? (i := 18) rfl)) (inB_6 _ (List.mem_of_getElem? (i := 20) rfl)) (inB_6 _ (List.mem_of_getElem? (i := 21) rfl)) (inB_1 _ (List.mem_of_getElem? (i := 12) rfl)) (inB_6 _ (List.mem_of_getElem? (i := 22) rfl))) rfl rfl rfl (by decide +kernel) ⟨Nat.le_of_ble_eq_true rfl, Nat.le_of_ble_eq_true rfl⟩) (rv_wall (by decide) hW) hW hS rfl hl.1 rfl (lv_room (Nat.le_of_ble_eq_true rfl)) dX4_tightest_33 ⟨Nat.zero_le _, Nat.zero_le _⟩ (fun hv6 H locs hW hS => ?_)
      refine k_if_ne (tgt := 56) hx hb (inR_z hv6) dX4_tightest_36 (by decide) (fun hc7 => ?_) (fun hc7 => ?_)
      · rw [if_neg hc7] at hf
        exact J8 (z.1) (z.2.1) (z.2.2) hf hz1 hz2 hz3 _ _ _ hW hS (lv_sub hl [1, 2, 3, 4] rfl)
      · rw [if_pos hc7] at hf
        refine lv_iload_n hx hb dX4_tightest_39 rfl (lv_at hl 2 rfl) ?_
        refine k_bipush hx hb dX4_tightest_40 (by decide +kernel) ?_
        refine k_icmp_eq (tgt := 51) hx hb hz1 (show inR (-15) by decide) dX4_tightest_42 (by decide) (fun hc10 => ?_) (fun hc10 => ?_)
        · rw [if_pos hc10] at hf
          exact J11 (z.2.2) (q2 - ((fW_sumOf M0 0 z.2.2))) hf hz3 hg5 _ _ _ hW hS (lv_sub hl [1, 4, 0] rfl)
        · rw [if_neg hc10] at hf
          refine lv_iload hx hb dX4_tightest_45 (lv_at hl 0 rfl) ?_
          refine lv_iload_n hx hb dX4_tightest_47 rfl (lv_at hl 3 rfl) ?_
          refine k_icmp_ge (tgt := 56) hx hb hg5 hz2 dX4_tightest_48 (by decide) (fun hc12 => ?_) (fun hc12 => ?_)
          · rw [if_neg hc12] at hf
            exact J8 (z.1) (z.2.1) (z.2.2) hf hz1 hz2 hz3 _ _ _ hW hS (lv_sub hl [1, 2, 3, 4] rfl)
          · rw [if_pos hc12] at hf
            exact J11 (z.2.2) (q2 - ((fW_sumOf M0 0 z.2.2))) hf hz3 hg5 _ _ _ hW hS (lv_sub hl [1, 4, 0] rfl)
  refine k_bipush hx hb dX4_tightest_0 (by decide +kernel) ?_
  refine lv_istore_n (lv' := [(1, .int (i3 ((-15)))), (0, .ref (gA G (0)))]) hx hb dX4_tightest_2 rfl hl (by decide) rfl (fun ls hl => ?_)
  refine k_const hx hb dX4_tightest_3 ?_
  refine lv_istore_n (lv' := [(2, .int (i3 (0))), (1, .int (i3 ((-15)))), (0, .ref (gA G (0)))]) hx hb dX4_tightest_4 rfl hl (by decide) rfl (fun ls hl => ?_)
  refine k_const hx hb dX4_tightest_5 ?_
  refine lv_istore_n (lv' := [(3, .int (i3 (1))), (2, .int (i3 (0))), (1, .int (i3 ((-15)))), (0, .ref (gA G (0)))]) hx hb dX4_tightest_6 rfl hl (by decide) rfl (fun ls hl => ?_)
  exact L13  ((-15), 0, 1) r hf rfl (show inR (-15) by decide) (show inR (0) by decide) (show inR (1) by decide) _ _ _ hW hS (lv_sub hl [3, 2, 1, 0] rfl)
set_option maxHeartbeats 4000000 in
set_option maxRecDepth 100000 in
theorem mG_reach (l : Launch) (G : gG) (M0 : MemG) (x1 : Int) (hx1 : inR x1) (r : Int) (hf : fG_reach M0 x1 = some r) : Met l yX4_reach (wb yX4_reach cX4_reach 6 (some .int)) ({ frames := 2, cells := 0, slots := 0, locals := 42 } : Room) (PcG G M0 [.ref (gA G (0)), .int (i3 (x1))]) (QcI G M0 r) 0 0 (PA G) := by
  refine Met.ofW (cc := cX4_reach) (maxL := 6) (ret := (some .int)) (by decide) rfl ?_
  intro p e s m args below meth c s₁ B hml hv0
  obtain ⟨hav, hW⟩ := hv0
  have hx := B.exec
  have hb := B.bytes
  have hr := B.returns
  have hts := atoms_spec (ws := (wb yX4_reach cX4_reach 6 (some .int))) B.pre
  have hown : s.vm.findClass RX4 = some m.cls := findClass_of_methodNamed B.named
  have hlocks := B.notSynchronized
  have hinX4 : ∀ w ∈ u_ws RX4 TX4 10, w ∈ (wb yX4_reach cX4_reach 6 (some .int)) := fun _ h => List.mem_cons_of_mem _ (inlX4 _ h)
  have hW : Wd G M0 s s.heap := hW
  have hS : va_S (PA G) s.heap s.heap [] := va_S.rf
  have hl := lv_entry [.ref (gA G (0)), .int (i3 (x1))] (n := 6) (Nat.le_of_ble_eq_true rfl)
  have hent := lg_entry_eq m [.ref (gA G (0)), .int (i3 (x1))] 6
  rw [← hav] at hent
  rw [hent]
  clear hent
  generalize (lg_sl [.ref (gA G (0)), .int (i3 (x1))] ++ List.replicate (6 - (lg_sl [.ref (gA G (0)), .int (i3 (x1))]).length) Slot.unset).toArray = ls at hl ⊢
  have hl : lv_has ls 6 [(0, .ref (gA G (0))), (1, .int (i3 (x1)))] := hl
  unfold fG_reach at hf
  show W p l e ({ frames := 2, cells := 0, slots := 0, locals := 42 } : Room) s m args below meth c s.heap [] 0 0 (MQ below (QcI G M0 r) args s 0 0 (PA G)) (F0 m 0 ls [])
  have L12 : ∀ (z : (Int × Int × Int)) (q : (Int)), loopN (fG_reach_l22 M0) 200 z = some q → (inR (q) → ∀ (H : Heap) (locs : List Loc) (ls : Array Slot), Wd G (M0) s H → va_S (PA G) s.heap H locs → lv_has ls 6 [(2, .int (i3 (q)))] → W p l e ({ frames := 2, cells := 0, slots := 0, locals := 42 } : Room) s m args below meth c H locs 0 0 (MQ below (QcI G M0 r) args s 0 0 (PA G)) (F0 m 78 ls [])) → (inR (z.1) → inR (z.2.1) → inR (z.2.2) → ∀ (H : Heap) (locs : List Loc) (ls : Array Slot), Wd G (M0) s H → va_S (PA G) s.heap H locs → lv_has ls 6 [(0, .ref (gA G (0))), (2, .int (i3 (z.1))), (3, .int (i3 (z.2.1))), (4, .int (i3 (z.2.2)))] → W p l e ({ frames := 2, cells := 0, slots := 0, locals := 42 } : Room) s m args below meth c H locs 0 0 (MQ below (QcI G M0 r) args s 0 0 (PA G)) (F0 m 22 ls [])) := by
    intro z q hq hex
    refine loop_rule (fG_reach_l22 M0) (fun z => inR (z.1) → inR (z.2.1) → inR (z.2.2) → ∀ (H : Heap) (locs : List Loc) (ls : Array Slot), Wd G (M0) s H → va_S (PA G) s.heap H locs → lv_has ls 6 [(0, .ref (gA G (0))), (2, .int (i3 (z.1))), (3, .int (i3 (z.2.1))), (4, .int (i3 (z.2.2)))] → W p l e ({ frames := 2, cells := 0, slots := 0, locals := 42 } : Room) s m args below meth c H locs 0 0 (MQ below (QcI G M0 r) args s 0 0 (PA G)) (F0 m 22 ls [])) (fun q => (inR (q) → ∀ (H : Heap) (locs : List Loc) (ls : Array Slot), Wd G (M0) s H → va_S (PA G) s.heap H locs → lv_has ls 6 [(2, .int (i3 (q)))] → W p l e ({ frames := 2, cells := 0, slots := 0, locals := 42 } : Room) s m args below meth c H locs 0 0 (MQ below (QcI G M0 r) args s 0 0 (PA G)) (F0 m 78 ls []))) ?_ 200 z q hq hex
    clear hq hex q z
    intro z x hf hK hz2 hz3 hz4 H locs ls hW hS hl
    have J6 : ∀ (x2 : Int) (x3 : Int) (x4 : Int), fG_reach_j69 M0 x2 x3 x4 = some x → inR x2 → inR x3 → inR x4 →  ∀ (H : Heap) (locs : List Loc) (ls : Array Slot), Wd G M0 s H → va_S (PA G) s.heap H locs → lv_has ls 6 [(0, .ref (gA G (0))), (2, .int (i3 (x2))), (3, .int (i3 (x3))), (4, .int (i3 (x4)))] → W p l e ({ frames := 2, cells := 0, slots := 0, locals := 42 } : Room) s m args below meth c H locs 0 0 (MQ below (QcI G M0 r) args s 0 0 (PA G)) (F0 m 69 ls []) := by
      intro x2 x3 x4 hf hx2 hx3 hx4 H locs ls hW hS hl
      unfold fG_reach_j69 at hf
      refine lv_iload hx hb dX4_reach_69 (lv_at hl 3 rfl) ?_
      refine k_const hx hb dX4_reach_71 ?_
      obtain ⟨hg7, hf⟩ := gq_el hf
      refine k_div hx hb dX4_reach_72 hx4 (show inR (2) by decide) hg7 ?_
      refine lv_istore (lv' := [(4, .int (i3 (x4 / 2))), (0, .ref (gA G (0))), (2, .int (i3 (x2))), (3, .int (i3 (x3)))]) hx hb dX4_reach_73 hl (by decide) rfl (fun ls hl => ?_)
      refine lv_goto (tgt := 22) hx hb dX4_reach_75 (by decide) ?_
      obtain rfl := some_el hf
      exact hK hx2 hx3 (inR_div hx4 hg7.1 hg7.2) _ _ _ hW hS (lv_sub hl [1, 2, 3, 0] rfl)
    unfold fG_reach_l22 at hf
    refine lv_iload hx hb dX4_reach_22 (lv_at hl 3 rfl) ?_
    refine k_const hx hb dX4_reach_24 ?_
    refine k_icmp_lt (tgt := 78) hx hb hz4 (show inR (1) by decide) dX4_reach_25 (by decide) (fun hc3 => ?_) (fun hc3 => ?_)
    · rw [if_pos hc3] at hf
      obtain rfl := some_el hf
      exact hK hz2 _ _ _ hW hS (lv_sub hl [1] rfl)
    · rw [if_neg hc3] at hf
      refine lv_iload_n hx hb dX4_reach_28 rfl (lv_at hl 1 rfl) ?_
      refine lv_iload hx hb dX4_reach_29 (lv_at hl 3 rfl) ?_
      refine k_add hx hb dX4_reach_31 ?_
      obtain ⟨hg4, hf⟩ := gd_el hf
      refine lv_istore (lv' := [(5, .int (i3 (z.1 + z.2.2))), (0, .ref (gA G (0))), (2, .int (i3 (z.1))), (3, .int (i3 (z.2.1))), (4, .int (i3 (z.2.2)))]) hx hb dX4_reach_32 hl (by decide) rfl (fun ls hl => ?_)
      refine lv_iload hx hb dX4_reach_34 (lv_at hl 0 rfl) ?_
      refine k_bipush hx hb dX4_reach_36 (by decide +kernel) ?_
      refine k_icmp_gt (tgt := 69) hx hb hg4 (show inR (32) by decide) dX4_reach_38 (by decide) (fun hc5 => ?_) (fun hc5 => ?_)
      · rw [if_pos hc5] at hf
        exact J6 (z.1) (z.2.1) (z.2.2) hf hz2 hz3 hz4 _ _ _ hW hS (lv_sub hl [1, 2, 3, 4] rfl)
      · rw [if_neg hc5] at hf
        refine lv_aload_n hx hb dX4_reach_41 rfl (lv_at hl 1 rfl) ?_
        refine va_get (D := G.1) (ci := 4) (v := .ref (gA G (5 + 0))) (C := RX4) (T := TX4) (N := 10) hx hb hts hinX4 hown hW.K hW.P 0 (he_G G M0) rfl 0 (by decide) (hts _ (List.mem_cons_of_mem _ (inB_1 _ (List.mem_of_getElem? (i := 13) rfl)))) (fun _ h9 => h9) rfl dX4_reach_42 ?_
        refine lv_iload hx hb dX4_reach_45 (lv_at hl 0 rfl) ?_
        refine k_cVi (As := [.int (i3 (z.1 + z.2.2))]) (rest := []) ⟨hx, hb, hml, hown, hts⟩ (mW_sumOf l G M0 (0) (by decide) (z.1 + z.2.2) hg4 _ rfl) (cwV 1 hts (gbV (inB_10 _ (List.mem_of_getElem? (i := 16) rfl)) (inB_7 _ (List.mem_of_getElem? (i := 0) rfl)) (inB_7 _ (List.mem_of_getElem? (i := 1) rfl)) (inB_1 _ (List.mem_of_getElem? (i := 12) rfl)) (inB_7 _ (List.mem_of_getElem? (i := 2) rfl))) rfl rfl rfl (by decide +kernel) ⟨Nat.le_of_ble_eq_true rfl, Nat.le_of_ble_eq_true rfl⟩) (rv_wall (by decide) hW) hW hS rfl hl.1 rfl (lv_room (Nat.le_of_ble_eq_true rfl)) dX4_reach_47 ⟨Nat.zero_le _, Nat.zero_le _⟩ (fun hv8 H locs hW hS => ?_)
        refine lv_iload_n hx hb dX4_reach_50 rfl (lv_at hl 3 rfl) ?_
        refine k_icmp_ge (tgt := 69) hx hb hv8 hz3 dX4_reach_51 (by decide) (fun hc9 => ?_) (fun hc9 => ?_)
        · rw [if_neg hc9] at hf
          exact J6 (z.1) (z.2.1) (z.2.2) hf hz2 hz3 hz4 _ _ _ hW hS (lv_sub hl [1, 2, 3, 4] rfl)
        · rw [if_pos hc9] at hf
          refine lv_iload_n hx hb dX4_reach_54 rfl (lv_at hl 3 rfl) ?_
          refine lv_aload_n hx hb dX4_reach_55 rfl (lv_at hl 1 rfl) ?_
          refine va_get (D := G.1) (ci := 4) (v := .ref (gA G (5 + 0))) (C := RX4) (T := TX4) (N := 10) hx hb hts hinX4 hown hW.K hW.P 0 (he_G G M0) rfl 0 (by decide) (hts _ (List.mem_cons_of_mem _ (inB_1 _ (List.mem_of_getElem? (i := 13) rfl)))) (fun _ h9 => h9) rfl dX4_reach_56 ?_
          refine lv_iload hx hb dX4_reach_59 (lv_at hl 0 rfl) ?_
          refine k_cVi (As := [.int (i3 (z.1 + z.2.2))]) (rest := [.int (i3 (z.2.1))]) ⟨hx, hb, hml, hown, hts⟩ (mW_sumOf l G M0 (0) (by decide) (z.1 + z.2.2) hg4 _ rfl) (cwV 1 hts (gbV (inB_10 _ (List.mem_of_getElem? (i := 16) rfl)) (inB_7 _ (List.mem_of_getElem? (i := 0) rfl)) (inB_7 _ (List.mem_of_getElem? (i := 1) rfl)) (inB_1 _ (List.mem_of_getElem? (i := 12) rfl)) (inB_7 _ (List.mem_of_getElem? (i := 2) rfl))) rfl rfl rfl (by decide +kernel) ⟨Nat.le_of_ble_eq_true rfl, Nat.le_of_ble_eq_true rfl⟩) (rv_wall (by decide) hW) hW hS rfl hl.1 rfl (lv_room (Nat.le_of_ble_eq_true rfl)) dX4_reach_61 ⟨Nat.zero_le _, Nat.zero_le _⟩ (fun hv10 H locs hW hS => ?_)
          refine k_sub hx hb dX4_reach_64 ?_
          obtain ⟨hg11, hf⟩ := gd_el hf
          refine lv_istore_n (lv' := [(3, .int (i3 (z.2.1 - ((fW_sumOf M0 0 (z.1 + z.2.2)))))), (5, .int (i3 (z.1 + z.2.2))), (0, .ref (gA G (0))), (2, .int (i3 (z.1))), (4, .int (i3 (z.2.2)))]) hx hb dX4_reach_65 rfl hl (by decide) rfl (fun ls hl => ?_)
          refine lv_iload hx hb dX4_reach_66 (lv_at hl 1 rfl) ?_
          refine lv_istore_n (lv' := [(2, .int (i3 (z.1 + z.2.2))), (3, .int (i3 (z.2.1 - ((fW_sumOf M0 0 (z.1 + z.2.2)))))), (5, .int (i3 (z.1 + z.2.2))), (0, .ref (gA G (0))), (4, .int (i3 (z.2.2)))]) hx hb dX4_reach_68 rfl hl (by decide) rfl (fun ls hl => ?_)
          exact J6 (z.1 + z.2.2) (z.2.1 - ((fW_sumOf M0 0 (z.1 + z.2.2)))) (z.2.2) hf hg4 hg11 hz4 _ _ _ hW hS (lv_sub hl [3, 0, 1, 4] rfl)
  refine lv_iload_n hx hb dX4_reach_0 rfl (lv_at hl 1 rfl) ?_
  refine k_const hx hb dX4_reach_1 ?_
  refine k_sipush hx hb dX4_reach_2 (by decide +kernel) ?_
  refine k_cSz (As := [.int (i3 (x1)), .int (i3 (1)), .int (i3 (9999))]) (rest := []) ⟨hx, hb, hml, hown, hts⟩ (mG_isWithin l G M0 x1 hx1 1 (show inR (1) by decide) 9999 (show inR (9999) by decide) _ rfl) (va_cwS 3 hts (gbS (inB_4 _ (List.mem_of_getElem? (i := 11) rfl)) (inB_4 _ (List.mem_of_getElem? (i := 12) rfl)) (inB_1 _ (List.mem_of_getElem? (i := 2) rfl)) (inB_4 _ (List.mem_of_getElem? (i := 13) rfl))) rfl rfl rfl (by decide +kernel) ⟨Nat.le_of_ble_eq_true rfl, Nat.le_of_ble_eq_true rfl⟩) hW hS rfl hl.1 rfl (lv_room (Nat.le_of_ble_eq_true rfl)) dX4_reach_5 ⟨Nat.zero_le _, Nat.zero_le _⟩ (fun hv1 H locs hW hS => ?_)
  refine k_if_ne (tgt := 14) hx hb (inR_z hv1) dX4_reach_8 (by decide) (fun hc2 => ?_) (fun hc2 => ?_)
  · rw [if_neg hc2] at hf
    refine k_const hx hb dX4_reach_14 ?_
    refine lv_istore_n (lv' := [(2, .int (i3 (0))), (0, .ref (gA G (0))), (1, .int (i3 (x1)))]) hx hb dX4_reach_15 rfl hl (by decide) rfl (fun ls hl => ?_)
    refine lv_iload_n hx hb dX4_reach_16 rfl (lv_at hl 2 rfl) ?_
    refine lv_istore_n (lv' := [(3, .int (i3 (x1))), (2, .int (i3 (0))), (0, .ref (gA G (0))), (1, .int (i3 (x1)))]) hx hb dX4_reach_17 rfl hl (by decide) rfl (fun ls hl => ?_)
    refine k_bipush hx hb dX4_reach_18 (by decide +kernel) ?_
    refine lv_istore (lv' := [(4, .int (i3 (32))), (3, .int (i3 (x1))), (2, .int (i3 (0))), (0, .ref (gA G (0))), (1, .int (i3 (x1)))]) hx hb dX4_reach_20 hl (by decide) rfl (fun ls hl => ?_)
    obtain ⟨q13, hq13, hf⟩ := bind_el hf
    refine L12  (0, x1, 32) q13 hq13 ?_ (show inR (0) by decide) hx1 (show inR (32) by decide) _ _ _ hW hS (lv_sub hl [3, 2, 1, 0] rfl)
    intro hv14 H locs ls hW hS hl
    refine lv_iload_n hx hb dX4_reach_78 rfl (lv_at hl 0 rfl) ?_
    refine k_bipush hx hb dX4_reach_79 (by decide +kernel) ?_
    refine k_icmp_ge (tgt := 88) hx hb hv14 (show inR (32) by decide) dX4_reach_81 (by decide) (fun hc15 => ?_) (fun hc15 => ?_)
    · rw [if_neg hc15] at hf
      refine k_bipush hx hb dX4_reach_88 (by decide +kernel) ?_
      obtain rfl := some_el hf
      exact k_ret hx hb hr hlocks hW hS rfl (show inR (-15) by decide) dX4_reach_90
    · rw [if_pos hc15] at hf
      refine lv_iload_n hx hb dX4_reach_84 rfl (lv_at hl 0 rfl) ?_
      refine lv_goto (tgt := 90) hx hb dX4_reach_85 (by decide) ?_
      obtain rfl := some_el hf
      exact k_ret hx hb hr hlocks hW hS rfl hv14 dX4_reach_90
  · rw [if_pos hc2] at hf
    refine k_bipush hx hb dX4_reach_11 (by decide +kernel) ?_
    obtain rfl := some_el hf
    exact k_ret hx hb hr hlocks hW hS rfl (show inR (-12) by decide) dX4_reach_13
set_option maxHeartbeats 4000000 in
set_option maxRecDepth 100000 in
theorem mG_reachAgain (l : Launch) (G : gG) (M0 : MemG) (x1 : Int) (hx1 : inR x1) (r : Int) (hf : fG_reachAgain M0 x1 = some r) : Met l yX4_reachAgain (wb yX4_reachAgain cX4_reachAgain 4 (some .int)) ({ frames := 2, cells := 0, slots := 0, locals := 42 } : Room) (PcG G M0 [.ref (gA G (0)), .int (i3 (x1))]) (QcI G M0 r) 0 0 (PA G) := by
  refine Met.ofW (cc := cX4_reachAgain) (maxL := 4) (ret := (some .int)) (by decide) rfl ?_
  intro p e s m args below meth c s₁ B hml hv0
  obtain ⟨hav, hW⟩ := hv0
  have hx := B.exec
  have hb := B.bytes
  have hr := B.returns
  have hts := atoms_spec (ws := (wb yX4_reachAgain cX4_reachAgain 4 (some .int))) B.pre
  have hown : s.vm.findClass RX4 = some m.cls := findClass_of_methodNamed B.named
  have hlocks := B.notSynchronized
  have hinX4 : ∀ w ∈ u_ws RX4 TX4 10, w ∈ (wb yX4_reachAgain cX4_reachAgain 4 (some .int)) := fun _ h => List.mem_cons_of_mem _ (inlX4 _ h)
  have hW : Wd G M0 s s.heap := hW
  have hS : va_S (PA G) s.heap s.heap [] := va_S.rf
  have hl := lv_entry [.ref (gA G (0)), .int (i3 (x1))] (n := 4) (Nat.le_of_ble_eq_true rfl)
  have hent := lg_entry_eq m [.ref (gA G (0)), .int (i3 (x1))] 4
  rw [← hav] at hent
  rw [hent]
  clear hent
  generalize (lg_sl [.ref (gA G (0)), .int (i3 (x1))] ++ List.replicate (4 - (lg_sl [.ref (gA G (0)), .int (i3 (x1))]).length) Slot.unset).toArray = ls at hl ⊢
  have hl : lv_has ls 4 [(0, .ref (gA G (0))), (1, .int (i3 (x1)))] := hl
  unfold fG_reachAgain at hf
  show W p l e ({ frames := 2, cells := 0, slots := 0, locals := 42 } : Room) s m args below meth c s.heap [] 0 0 (MQ below (QcI G M0 r) args s 0 0 (PA G)) (F0 m 0 ls [])
  have L8 : ∀ (x1 : Int) (hx1 : inR x1), ∀ (z : (Int × Int)) (q : (Int)), loopN (fG_reachAgain_l18 M0 x1) 200 z = some q → (q = r) → (inR (z.1) → inR (z.2) → ∀ (H : Heap) (locs : List Loc) (ls : Array Slot), Wd G (M0) s H → va_S (PA G) s.heap H locs → lv_has ls 4 [(0, .ref (gA G (0))), (1, .int (i3 (x1))), (2, .int (i3 (z.1))), (3, .int (i3 (z.2)))] → W p l e ({ frames := 2, cells := 0, slots := 0, locals := 42 } : Room) s m args below meth c H locs 0 0 (MQ below (QcI G M0 r) args s 0 0 (PA G)) (F0 m 18 ls [])) := by
    intro x1 hx1 z q hq hex
    refine loop_rule (fG_reachAgain_l18 M0 x1) (fun z => inR (z.1) → inR (z.2) → ∀ (H : Heap) (locs : List Loc) (ls : Array Slot), Wd G (M0) s H → va_S (PA G) s.heap H locs → lv_has ls 4 [(0, .ref (gA G (0))), (1, .int (i3 (x1))), (2, .int (i3 (z.1))), (3, .int (i3 (z.2)))] → W p l e ({ frames := 2, cells := 0, slots := 0, locals := 42 } : Room) s m args below meth c H locs 0 0 (MQ below (QcI G M0 r) args s 0 0 (PA G)) (F0 m 18 ls [])) (fun q => (q = r)) ?_ 200 z q hq hex
    clear hq hex q z
    intro z x hf hK hz2 hz3 H locs ls hW hS hl
    unfold fG_reachAgain_l18 at hf
    refine lv_iload_n hx hb dX4_reachAgain_18 rfl (lv_at hl 3 rfl) ?_
    refine k_bipush hx hb dX4_reachAgain_19 (by decide +kernel) ?_
    refine k_icmp_ge (tgt := 48) hx hb hz3 (show inR (32) by decide) dX4_reachAgain_21 (by decide) (fun hc3 => ?_) (fun hc3 => ?_)
    · rw [if_neg hc3] at hf
      refine k_bipush hx hb dX4_reachAgain_48 (by decide +kernel) ?_
      obtain rfl := some_el hf
      obtain rfl : (-15) = r := hK
      exact k_ret hx hb hr hlocks hW hS rfl (show inR (-15) by decide) dX4_reachAgain_50
    · rw [if_pos hc3] at hf
      refine lv_iload_n hx hb dX4_reachAgain_24 rfl (lv_at hl 2 rfl) ?_
      refine lv_aload_n hx hb dX4_reachAgain_25 rfl (lv_at hl 0 rfl) ?_
      refine va_get (D := G.1) (ci := 4) (v := .ref (gA G (5 + 0))) (C := RX4) (T := TX4) (N := 10) hx hb hts hinX4 hown hW.K hW.P 0 (he_G G M0) rfl 0 (by decide) (hts _ (List.mem_cons_of_mem _ (inB_1 _ (List.mem_of_getElem? (i := 13) rfl)))) (fun _ h9 => h9) rfl dX4_reachAgain_26 ?_
      refine lv_iload_n hx hb dX4_reachAgain_29 rfl (lv_at hl 3 rfl) ?_
      refine k_cVi (As := [.int (i3 (z.2))]) (rest := [.int (i3 (z.1))]) ⟨hx, hb, hml, hown, hts⟩ (mW_sacksIn l G M0 (0) (by decide) z.2 hz3 _ rfl) (cwV 1 hts (gbV (inB_5 _ (List.mem_of_getElem? (i := 7) rfl)) (inB_5 _ (List.mem_of_getElem? (i := 8) rfl)) (inB_5 _ (List.mem_of_getElem? (i := 9) rfl)) (inB_1 _ (List.mem_of_getElem? (i := 12) rfl)) (inB_5 _ (List.mem_of_getElem? (i := 10) rfl))) rfl rfl rfl (by decide +kernel) ⟨Nat.le_of_ble_eq_true rfl, Nat.le_of_ble_eq_true rfl⟩) (rv_wall (by decide) hW) hW hS rfl hl.1 rfl (lv_room (Nat.le_of_ble_eq_true rfl)) dX4_reachAgain_30 ⟨Nat.zero_le _, Nat.zero_le _⟩ (fun hv4 H locs hW hS => ?_)
      refine k_add hx hb dX4_reachAgain_33 ?_
      obtain ⟨hg5, hf⟩ := gd_el hf
      refine lv_istore_n (lv' := [(2, .int (i3 (z.1 + ((fW_sacksIn M0 0 z.2))))), (0, .ref (gA G (0))), (1, .int (i3 (x1))), (3, .int (i3 (z.2)))]) hx hb dX4_reachAgain_34 rfl hl (by decide) rfl (fun ls hl => ?_)
      refine lv_iload_n hx hb dX4_reachAgain_35 rfl (lv_at hl 0 rfl) ?_
      refine lv_iload_n hx hb dX4_reachAgain_36 rfl (lv_at hl 2 rfl) ?_
      refine k_icmp_lt (tgt := 42) hx hb hg5 hx1 dX4_reachAgain_37 (by decide) (fun hc6 => ?_) (fun hc6 => ?_)
      · rw [if_pos hc6] at hf
        obtain ⟨hg7, hf⟩ := gd_el hf
        refine k_iinc (lv' := [(3, .int (i3 (z.2 + 1))), (2, .int (i3 (z.1 + ((fW_sacksIn M0 0 z.2))))), (0, .ref (gA G (0))), (1, .int (i3 (x1)))]) hx hb dX4_reachAgain_42 hl (k := 3) rfl (by decide) rfl (fun ls hl => ?_)
        refine lv_goto (tgt := 18) hx hb dX4_reachAgain_45 (by decide) ?_
        obtain rfl := some_el hf
        exact hK hg5 hg7 _ _ _ hW hS (lv_sub hl [2, 3, 1, 0] rfl)
      · rw [if_neg hc6] at hf
        refine lv_iload_n hx hb dX4_reachAgain_40 rfl (lv_at hl 3 rfl) ?_
        obtain rfl := some_el hf
        obtain rfl : z.2 = r := hK
        exact k_ret hx hb hr hlocks hW hS rfl hz3 dX4_reachAgain_41
  refine lv_iload_n hx hb dX4_reachAgain_0 rfl (lv_at hl 1 rfl) ?_
  refine k_const hx hb dX4_reachAgain_1 ?_
  refine k_sipush hx hb dX4_reachAgain_2 (by decide +kernel) ?_
  refine k_cSz (As := [.int (i3 (x1)), .int (i3 (1)), .int (i3 (9999))]) (rest := []) ⟨hx, hb, hml, hown, hts⟩ (mG_isWithin l G M0 x1 hx1 1 (show inR (1) by decide) 9999 (show inR (9999) by decide) _ rfl) (va_cwS 3 hts (gbS (inB_4 _ (List.mem_of_getElem? (i := 11) rfl)) (inB_4 _ (List.mem_of_getElem? (i := 12) rfl)) (inB_1 _ (List.mem_of_getElem? (i := 2) rfl)) (inB_4 _ (List.mem_of_getElem? (i := 13) rfl))) rfl rfl rfl (by decide +kernel) ⟨Nat.le_of_ble_eq_true rfl, Nat.le_of_ble_eq_true rfl⟩) hW hS rfl hl.1 rfl (lv_room (Nat.le_of_ble_eq_true rfl)) dX4_reachAgain_5 ⟨Nat.zero_le _, Nat.zero_le _⟩ (fun hv1 H locs hW hS => ?_)
  refine k_if_ne (tgt := 14) hx hb (inR_z hv1) dX4_reachAgain_8 (by decide) (fun hc2 => ?_) (fun hc2 => ?_)
  · rw [if_neg hc2] at hf
    refine k_const hx hb dX4_reachAgain_14 ?_
    refine lv_istore_n (lv' := [(2, .int (i3 (0))), (0, .ref (gA G (0))), (1, .int (i3 (x1)))]) hx hb dX4_reachAgain_15 rfl hl (by decide) rfl (fun ls hl => ?_)
    refine k_const hx hb dX4_reachAgain_16 ?_
    refine lv_istore_n (lv' := [(3, .int (i3 (0))), (2, .int (i3 (0))), (0, .ref (gA G (0))), (1, .int (i3 (x1)))]) hx hb dX4_reachAgain_17 rfl hl (by decide) rfl (fun ls hl => ?_)
    exact L8 (x1) hx1 (0, 0) r hf rfl (show inR (0) by decide) (show inR (0) by decide) _ _ _ hW hS (lv_sub hl [2, 3, 1, 0] rfl)
  · rw [if_pos hc2] at hf
    refine k_bipush hx hb dX4_reachAgain_11 (by decide +kernel) ?_
    obtain rfl := some_el hf
    exact k_ret hx hb hr hlocks hW hS rfl (show inR (-12) by decide) dX4_reachAgain_13
set_option maxHeartbeats 4000000 in
set_option maxRecDepth 100000 in
theorem mG_sum (l : Launch) (G : gG) (M0 : MemG) (x1 : Int) (hx1 : inR x1) (x2 : Int) (hx2 : inR x2) (r : Int) (hf : fG_sum M0 x1 x2 = some r) : Met l yX4_sum (wb yX4_sum cX4_sum 3 (some .int)) ({ frames := 3, cells := 0, slots := 0, locals := 66 } : Room) (PcG G M0 [.ref (gA G (0)), .int (i3 (x1)), .int (i3 (x2))]) (QcI G M0 r) 0 0 (PA G) := by
  refine Met.ofW (cc := cX4_sum) (maxL := 3) (ret := (some .int)) (by decide) rfl ?_
  intro p e s m args below meth c s₁ B hml hv0
  obtain ⟨hav, hW⟩ := hv0
  have hx := B.exec
  have hb := B.bytes
  have hr := B.returns
  have hts := atoms_spec (ws := (wb yX4_sum cX4_sum 3 (some .int))) B.pre
  have hown : s.vm.findClass RX4 = some m.cls := findClass_of_methodNamed B.named
  have hlocks := B.notSynchronized
  have hinX4 : ∀ w ∈ u_ws RX4 TX4 10, w ∈ (wb yX4_sum cX4_sum 3 (some .int)) := fun _ h => List.mem_cons_of_mem _ (inlX4 _ h)
  have hW : Wd G M0 s s.heap := hW
  have hS : va_S (PA G) s.heap s.heap [] := va_S.rf
  have hl := lv_entry [.ref (gA G (0)), .int (i3 (x1)), .int (i3 (x2))] (n := 3) (Nat.le_of_ble_eq_true rfl)
  have hent := lg_entry_eq m [.ref (gA G (0)), .int (i3 (x1)), .int (i3 (x2))] 3
  rw [← hav] at hent
  rw [hent]
  clear hent
  generalize (lg_sl [.ref (gA G (0)), .int (i3 (x1)), .int (i3 (x2))] ++ List.replicate (3 - (lg_sl [.ref (gA G (0)), .int (i3 (x1)), .int (i3 (x2))]).length) Slot.unset).toArray = ls at hl ⊢
  have hl : lv_has ls 3 [(0, .ref (gA G (0))), (1, .int (i3 (x1))), (2, .int (i3 (x2)))] := hl
  unfold fG_sum at hf
  show W p l e ({ frames := 3, cells := 0, slots := 0, locals := 66 } : Room) s m args below meth c s.heap [] 0 0 (MQ below (QcI G M0 r) args s 0 0 (PA G)) (F0 m 0 ls [])
  refine lv_iload_n hx hb dX4_sum_0 rfl (lv_at hl 1 rfl) ?_
  refine k_cSz (As := [.int (i3 (x1))]) (rest := []) ⟨hx, hb, hml, hown, hts⟩ (mG_isBay l G M0 x1 hx1 _ rfl) (va_cwS 1 hts (gbS (inB_4 _ (List.mem_of_getElem? (i := 8) rfl)) (inB_4 _ (List.mem_of_getElem? (i := 9) rfl)) (inB_1 _ (List.mem_of_getElem? (i := 2) rfl)) (inB_4 _ (List.mem_of_getElem? (i := 10) rfl))) rfl rfl rfl (by decide +kernel) ⟨Nat.le_of_ble_eq_true rfl, Nat.le_of_ble_eq_true rfl⟩) hW hS rfl hl.1 rfl (lv_room (Nat.le_of_ble_eq_true rfl)) dX4_sum_1 ⟨Nat.zero_le _, Nat.zero_le _⟩ (fun hv1 H locs hW hS => ?_)
  refine k_if_eq (tgt := 14) hx hb (inR_z hv1) dX4_sum_4 (by decide) (fun hc2 => ?_) (fun hc2 => ?_)
  · rw [if_pos hc2] at hf
    refine k_bipush hx hb dX4_sum_14 (by decide +kernel) ?_
    obtain rfl := some_el hf
    exact k_ret hx hb hr hlocks hW hS rfl (show inR (-11) by decide) dX4_sum_16
  · rw [if_neg hc2] at hf
    refine lv_iload_n hx hb dX4_sum_7 rfl (lv_at hl 2 rfl) ?_
    refine k_cSz (As := [.int (i3 (x2))]) (rest := []) ⟨hx, hb, hml, hown, hts⟩ (mG_isBay l G M0 x2 hx2 _ rfl) (va_cwS 1 hts (gbS (inB_4 _ (List.mem_of_getElem? (i := 8) rfl)) (inB_4 _ (List.mem_of_getElem? (i := 9) rfl)) (inB_1 _ (List.mem_of_getElem? (i := 2) rfl)) (inB_4 _ (List.mem_of_getElem? (i := 10) rfl))) rfl rfl rfl (by decide +kernel) ⟨Nat.le_of_ble_eq_true rfl, Nat.le_of_ble_eq_true rfl⟩) hW hS rfl hl.1 rfl (lv_room (Nat.le_of_ble_eq_true rfl)) dX4_sum_8 ⟨Nat.zero_le _, Nat.zero_le _⟩ (fun hv3 H locs hW hS => ?_)
    refine k_if_ne (tgt := 17) hx hb (inR_z hv3) dX4_sum_11 (by decide) (fun hc4 => ?_) (fun hc4 => ?_)
    · rw [if_neg hc4] at hf
      refine lv_iload_n hx hb dX4_sum_17 rfl (lv_at hl 2 rfl) ?_
      refine lv_iload_n hx hb dX4_sum_18 rfl (lv_at hl 1 rfl) ?_
      refine k_icmp_ge (tgt := 25) hx hb hx2 hx1 dX4_sum_19 (by decide) (fun hc5 => ?_) (fun hc5 => ?_)
      · rw [if_neg hc5] at hf
        refine lv_aload_n hx hb dX4_sum_25 rfl (lv_at hl 0 rfl) ?_
        refine va_get (D := G.1) (ci := 4) (v := .ref (gA G (5 + 0))) (C := RX4) (T := TX4) (N := 10) hx hb hts hinX4 hown hW.K hW.P 0 (he_G G M0) rfl 0 (by decide) (hts _ (List.mem_cons_of_mem _ (inB_1 _ (List.mem_of_getElem? (i := 13) rfl)))) (fun _ h9 => h9) rfl dX4_sum_26 ?_
        refine lv_iload_n hx hb dX4_sum_29 rfl (lv_at hl 2 rfl) ?_
        obtain ⟨q6, hq6, hf⟩ := bind_el hf
        refine k_cVi (As := [.int (i3 (x2))]) (rest := []) ⟨hx, hb, hml, hown, hts⟩ (mW_sumByClimbing l G M0 (0) (by decide) x2 hx2 q6 hq6) (cwV 1 hts (gbV (inB_22 _ (List.mem_of_getElem? (i := 20) rfl)) (inB_22 _ (List.mem_of_getElem? (i := 21) rfl)) (inB_22 _ (List.mem_of_getElem? (i := 22) rfl)) (inB_1 _ (List.mem_of_getElem? (i := 12) rfl)) (inB_22 _ (List.mem_of_getElem? (i := 23) rfl))) rfl rfl rfl (by decide +kernel) ⟨Nat.le_of_ble_eq_true rfl, Nat.le_of_ble_eq_true rfl⟩) (rv_wall (by decide) hW) hW hS rfl hl.1 rfl (lv_room (Nat.le_of_ble_eq_true rfl)) dX4_sum_30 ⟨Nat.zero_le _, Nat.zero_le _⟩ (fun hv7 H locs hW hS => ?_)
        refine lv_aload_n hx hb dX4_sum_33 rfl (lv_at hl 0 rfl) ?_
        refine va_get (D := G.1) (ci := 4) (v := .ref (gA G (5 + 0))) (C := RX4) (T := TX4) (N := 10) hx hb hts hinX4 hown hW.K hW.P 0 (he_G G M0) rfl 0 (by decide) (hts _ (List.mem_cons_of_mem _ (inB_1 _ (List.mem_of_getElem? (i := 13) rfl)))) (fun _ h9 => h9) rfl dX4_sum_34 ?_
        refine lv_iload_n hx hb dX4_sum_37 rfl (lv_at hl 1 rfl) ?_
        refine k_const hx hb dX4_sum_38 ?_
        refine k_sub hx hb dX4_sum_39 ?_
        obtain ⟨hg8, hf⟩ := gd_el hf
        obtain ⟨q9, hq9, hf⟩ := bind_el hf
        refine k_cVi (As := [.int (i3 (x1 - 1))]) (rest := [.int (i3 (q6))]) ⟨hx, hb, hml, hown, hts⟩ (mW_sumByClimbing l G M0 (0) (by decide) (x1 - 1) hg8 q9 hq9) (cwV 1 hts (gbV (inB_22 _ (List.mem_of_getElem? (i := 20) rfl)) (inB_22 _ (List.mem_of_getElem? (i := 21) rfl)) (inB_22 _ (List.mem_of_getElem? (i := 22) rfl)) (inB_1 _ (List.mem_of_getElem? (i := 12) rfl)) (inB_22 _ (List.mem_of_getElem? (i := 23) rfl))) rfl rfl rfl (by decide +kernel) ⟨Nat.le_of_ble_eq_true rfl, Nat.le_of_ble_eq_true rfl⟩) (rv_wall (by decide) hW) hW hS rfl hl.1 rfl (lv_room (Nat.le_of_ble_eq_true rfl)) dX4_sum_40 ⟨Nat.zero_le _, Nat.zero_le _⟩ (fun hv10 H locs hW hS => ?_)
        refine k_sub hx hb dX4_sum_43 ?_
        obtain ⟨hg11, hf⟩ := gd_el hf
        obtain rfl := some_el hf
        exact k_ret hx hb hr hlocks hW hS rfl hg11 dX4_sum_44
      · rw [if_pos hc5] at hf
        refine k_bipush hx hb dX4_sum_22 (by decide +kernel) ?_
        obtain rfl := some_el hf
        exact k_ret hx hb hr hlocks hW hS rfl (show inR (-12) by decide) dX4_sum_24
    · rw [if_pos hc4] at hf
      refine k_bipush hx hb dX4_sum_14 (by decide +kernel) ?_
      obtain rfl := some_el hf
      exact k_ret hx hb hr hlocks hW hS rfl (show inR (-11) by decide) dX4_sum_16
set_option maxHeartbeats 4000000 in
set_option maxRecDepth 100000 in
theorem mG_stepsBelow_b (n : Nat) (rec : Int → Int → Option Int) (l : Launch) (G : gG) (M0 : MemG) (k : Nat) (hk : k < 11) (hrec : ∀ (a : Int), inR a → ∀ (b : Int), inR b → ∀ (r : Int), rec a b = some r → Met l yX4_stepsBelow (wb yX4_stepsBelow cX4_stepsBelow 6 (some .int)) ({ frames := 2 + n, cells := 0, slots := 0, locals := 42 + 25 * n } : Room) (PcG G M0 [.ref (gA G (5 + k)), .int (i3 (a)), .int (i3 (b))]) (QcI G M0 r) 0 0 (PA G)) (x1 : Int) (hx1 : inR x1) (x2 : Int) (hx2 : inR x2) (r : Int) (hf : fG_stepsBelow_b rec M0 k x1 x2 = some r) : Met l yX4_stepsBelow (wb yX4_stepsBelow cX4_stepsBelow 6 (some .int)) ({ frames := 2 + (n + 1), cells := 0, slots := 0, locals := 42 + 25 * (n + 1) } : Room) (PcG G M0 [.ref (gA G (5 + k)), .int (i3 (x1)), .int (i3 (x2))]) (QcI G M0 r) 0 0 (PA G) := by
  refine Met.ofW (cc := cX4_stepsBelow) (maxL := 6) (ret := (some .int)) (by decide) rfl ?_
  intro p e s m args below meth c s₁ B hml hv0
  obtain ⟨hav, hW⟩ := hv0
  have hx := B.exec
  have hb := B.bytes
  have hr := B.returns
  have hts := atoms_spec (ws := (wb yX4_stepsBelow cX4_stepsBelow 6 (some .int))) B.pre
  have hown : s.vm.findClass RX4 = some m.cls := findClass_of_methodNamed B.named
  have hlocks := B.notSynchronized
  have hW : Wd G M0 s s.heap := hW
  have hS : va_S (PA G) s.heap s.heap [] := va_S.rf
  have hl := lv_entry [.ref (gA G (5 + k)), .int (i3 (x1)), .int (i3 (x2))] (n := 6) (Nat.le_of_ble_eq_true rfl)
  have hent := lg_entry_eq m [.ref (gA G (5 + k)), .int (i3 (x1)), .int (i3 (x2))] 6
  rw [← hav] at hent
  rw [hent]
  clear hent
  generalize (lg_sl [.ref (gA G (5 + k)), .int (i3 (x1)), .int (i3 (x2))] ++ List.replicate (6 - (lg_sl [.ref (gA G (5 + k)), .int (i3 (x1)), .int (i3 (x2))]).length) Slot.unset).toArray = ls at hl ⊢
  have hl : lv_has ls 6 [(0, .ref (gA G (5 + k))), (1, .int (i3 (x1))), (2, .int (i3 (x2)))] := hl
  unfold fG_stepsBelow_b at hf
  show W p l e ({ frames := 2 + (n + 1), cells := 0, slots := 0, locals := 42 + 25 * (n + 1) } : Room) s m args below meth c s.heap [] 0 0 (MQ below (QcI G M0 r) args s 0 0 (PA G)) (F0 m 0 ls [])
  have L16 : ∀ (x1 : Int) (hx1 : inR x1) (x2 : Int) (hx2 : inR x2), ∀ (z : (Int × Int × Int)) (q : (Int)), loopN (fG_stepsBelow_l25 rec M0 k x1 x2) 200 z = some q → (q = r) → (inR (z.1) → inR (z.2.1) → inR (z.2.2) → ∀ (H : Heap) (locs : List Loc) (ls : Array Slot), Wd G (M0) s H → va_S (PA G) s.heap H locs → lv_has ls 6 [(0, .ref (gA G (5 + k))), (1, .int (i3 (x1))), (2, .int (i3 (x2))), (3, .int (i3 (z.1))), (4, .int (i3 (z.2.1))), (5, .int (i3 (z.2.2)))] → W p l e ({ frames := 2 + (n + 1), cells := 0, slots := 0, locals := 42 + 25 * (n + 1) } : Room) s m args below meth c H locs 0 0 (MQ below (QcI G M0 r) args s 0 0 (PA G)) (F0 m 25 ls [])) := by
    intro x1 hx1 x2 hx2 z q hq hex
    refine loop_rule (fG_stepsBelow_l25 rec M0 k x1 x2) (fun z => inR (z.1) → inR (z.2.1) → inR (z.2.2) → ∀ (H : Heap) (locs : List Loc) (ls : Array Slot), Wd G (M0) s H → va_S (PA G) s.heap H locs → lv_has ls 6 [(0, .ref (gA G (5 + k))), (1, .int (i3 (x1))), (2, .int (i3 (x2))), (3, .int (i3 (z.1))), (4, .int (i3 (z.2.1))), (5, .int (i3 (z.2.2)))] → W p l e ({ frames := 2 + (n + 1), cells := 0, slots := 0, locals := 42 + 25 * (n + 1) } : Room) s m args below meth c H locs 0 0 (MQ below (QcI G M0 r) args s 0 0 (PA G)) (F0 m 25 ls [])) (fun q => (q = r)) ?_ 200 z q hq hex
    clear hq hex q z
    intro z x hf hK hz3 hz4 hz5 H locs ls hW hS hl
    unfold fG_stepsBelow_l25 at hf
    refine lv_iload hx hb dX4_stepsBelow_25 (lv_at hl 5 rfl) ?_
    refine k_bipush hx hb dX4_stepsBelow_27 (by decide +kernel) ?_
    refine k_icmp_ge (tgt := 69) hx hb hz5 (show inR (32) by decide) dX4_stepsBelow_29 (by decide) (fun hc5 => ?_) (fun hc5 => ?_)
    · rw [if_neg hc5] at hf
      refine lv_iload_n hx hb dX4_stepsBelow_69 rfl (lv_at hl 3 rfl) ?_
      obtain rfl := some_el hf
      obtain rfl : z.1 = r := hK
      exact k_ret hx hb hr hlocks hW hS rfl hz3 dX4_stepsBelow_70
    · rw [if_pos hc5] at hf
      refine lv_iload hx hb dX4_stepsBelow_32 (lv_at hl 4 rfl) ?_
      refine lv_iload_n hx hb dX4_stepsBelow_34 rfl (lv_at hl 1 rfl) ?_
      obtain ⟨q6, hq6, hf⟩ := bind_el hf
      refine k_cSi (As := [.int (i3 (x1))]) (rest := [.int (i3 (z.2.1))]) ⟨hx, hb, hml, hown, hts⟩ (mG_firstBayOf l G M0 x1 hx1 q6 hq6) (va_cwS 1 hts (gbS (inB_10 _ (List.mem_of_getElem? (i := 19) rfl)) (inB_10 _ (List.mem_of_getElem? (i := 20) rfl)) (inB_1 _ (List.mem_of_getElem? (i := 2) rfl)) (inB_10 _ (List.mem_of_getElem? (i := 21) rfl))) rfl rfl rfl (by decide +kernel) (by constructor <;> dsimp only <;> omega)) hW hS rfl hl.1 rfl (lv_room (Nat.le_of_ble_eq_true rfl)) dX4_stepsBelow_35 ⟨Nat.zero_le _, Nat.zero_le _⟩ (fun hv7 H locs hW hS => ?_)
      refine k_icmp_le (tgt := 69) hx hb hz4 hv7 dX4_stepsBelow_38 (by decide) (fun hc8 => ?_) (fun hc8 => ?_)
      · rw [if_neg hc8] at hf
        refine lv_iload_n hx hb dX4_stepsBelow_69 rfl (lv_at hl 3 rfl) ?_
        obtain rfl := some_el hf
        obtain rfl : z.1 = r := hK
        exact k_ret hx hb hr hlocks hW hS rfl hz3 dX4_stepsBelow_70
      · rw [if_pos hc8] at hf
        refine lv_iload_n hx hb dX4_stepsBelow_41 rfl (lv_at hl 3 rfl) ?_
        refine lv_aload_n hx hb dX4_stepsBelow_42 rfl (lv_at hl 0 rfl) ?_
        refine lv_iload hx hb dX4_stepsBelow_43 (lv_at hl 4 rfl) ?_
        refine lv_iload_n hx hb dX4_stepsBelow_45 rfl (lv_at hl 2 rfl) ?_
        refine k_const hx hb dX4_stepsBelow_46 ?_
        refine k_add hx hb dX4_stepsBelow_47 ?_
        obtain ⟨hg9, hf⟩ := gd_el hf
        obtain ⟨q10, hq10, hf⟩ := bind_el hf
        refine k_cSi (As := [.ref (gA G (5 + k)), .int (i3 (z.2.1)), .int (i3 (x2 + 1))]) (rest := [.int (i3 (z.1))]) ⟨hx, hb, hml, hown, hts⟩ (hrec z.2.1 hz4 (x2 + 1) hg9 q10 hq10) (va_cwS 3 hts (gbS (inB_23 _ (List.mem_of_getElem? (i := 15) rfl)) (inB_23 _ (List.mem_of_getElem? (i := 16) rfl)) (inB_1 _ (List.mem_of_getElem? (i := 2) rfl)) (inB_23 _ (List.mem_of_getElem? (i := 17) rfl))) rfl rfl rfl (by decide +kernel) (by constructor <;> dsimp only <;> omega)) hW hS rfl hl.1 rfl (lv_room (Nat.le_of_ble_eq_true rfl)) dX4_stepsBelow_48 ⟨Nat.zero_le _, Nat.zero_le _⟩ (fun hv11 H locs hW hS => ?_)
        refine k_add hx hb dX4_stepsBelow_51 ?_
        obtain ⟨hg12, hf⟩ := gd_el hf
        refine lv_istore_n (lv' := [(3, .int (i3 (z.1 + q10))), (0, .ref (gA G (5 + k))), (1, .int (i3 (x1))), (2, .int (i3 (x2))), (4, .int (i3 (z.2.1))), (5, .int (i3 (z.2.2)))]) hx hb dX4_stepsBelow_52 rfl hl (by decide) rfl (fun ls hl => ?_)
        refine lv_iload hx hb dX4_stepsBelow_53 (lv_at hl 4 rfl) ?_
        refine lv_iload hx hb dX4_stepsBelow_55 (lv_at hl 4 rfl) ?_
        refine k_cSi (As := [.int (i3 (z.2.1))]) (rest := [.int (i3 (z.2.1))]) ⟨hx, hb, hml, hown, hts⟩ (mG_sizeOf l G M0 z.2.1 hz4 _ rfl) (va_cwS 1 hts (gbS (inB_7 _ (List.mem_of_getElem? (i := 5) rfl)) (inB_6 _ (List.mem_of_getElem? (i := 13) rfl)) (inB_1 _ (List.mem_of_getElem? (i := 2) rfl)) (inB_6 _ (List.mem_of_getElem? (i := 14) rfl))) rfl rfl rfl (by decide +kernel) (by constructor <;> dsimp only <;> omega)) hW hS rfl hl.1 rfl (lv_room (Nat.le_of_ble_eq_true rfl)) dX4_stepsBelow_57 ⟨Nat.zero_le _, Nat.zero_le _⟩ (fun hv13 H locs hW hS => ?_)
        refine k_sub hx hb dX4_stepsBelow_60 ?_
        obtain ⟨hg14, hf⟩ := gd_el hf
        refine lv_istore (lv' := [(4, .int (i3 (z.2.1 - ((fG_sizeOf z.2.1))))), (3, .int (i3 (z.1 + q10))), (0, .ref (gA G (5 + k))), (1, .int (i3 (x1))), (2, .int (i3 (x2))), (5, .int (i3 (z.2.2)))]) hx hb dX4_stepsBelow_61 hl (by decide) rfl (fun ls hl => ?_)
        obtain ⟨hg15, hf⟩ := gd_el hf
        refine k_iinc (lv' := [(5, .int (i3 (z.2.2 + 1))), (4, .int (i3 (z.2.1 - ((fG_sizeOf z.2.1))))), (3, .int (i3 (z.1 + q10))), (0, .ref (gA G (5 + k))), (1, .int (i3 (x1))), (2, .int (i3 (x2)))]) hx hb dX4_stepsBelow_63 hl (k := 5) rfl (by decide) rfl (fun ls hl => ?_)
        refine lv_goto (tgt := 25) hx hb dX4_stepsBelow_66 (by decide) ?_
        obtain rfl := some_el hf
        exact hK hg12 hg14 hg15 _ _ _ hW hS (lv_sub hl [3, 4, 5, 2, 1, 0] rfl)
  refine lv_aload_n hx hb dX4_stepsBelow_0 rfl (lv_at hl 0 rfl) ?_
  refine lv_iload_n hx hb dX4_stepsBelow_1 rfl (lv_at hl 1 rfl) ?_
  refine k_cVz (As := [.int (i3 (x1))]) (rest := []) ⟨hx, hb, hml, hown, hts⟩ (mW_isCracked l G M0 (k) hk x1 hx1 _ rfl) (cwV 1 hts (gbV (inB_10 _ (List.mem_of_getElem? (i := 18) rfl)) (inB_6 _ (List.mem_of_getElem? (i := 20) rfl)) (inB_6 _ (List.mem_of_getElem? (i := 21) rfl)) (inB_1 _ (List.mem_of_getElem? (i := 12) rfl)) (inB_6 _ (List.mem_of_getElem? (i := 22) rfl))) rfl rfl rfl (by decide +kernel) (by constructor <;> dsimp only <;> omega)) (rv_wall hk hW) hW hS rfl hl.1 rfl (lv_room (Nat.le_of_ble_eq_true rfl)) dX4_stepsBelow_2 ⟨Nat.zero_le _, Nat.zero_le _⟩ (fun hv1 H locs hW hS => ?_)
  refine k_if_eq (tgt := 13) hx hb (inR_z hv1) dX4_stepsBelow_5 (by decide) (fun hc2 => ?_) (fun hc2 => ?_)
  · rw [if_pos hc2] at hf
    refine k_const hx hb dX4_stepsBelow_13 ?_
    obtain rfl := some_el hf
    exact k_ret hx hb hr hlocks hW hS rfl (show inR (1) by decide) dX4_stepsBelow_14
  · rw [if_neg hc2] at hf
    refine lv_iload_n hx hb dX4_stepsBelow_8 rfl (lv_at hl 2 rfl) ?_
    refine k_const hx hb dX4_stepsBelow_9 ?_
    refine k_icmp_le (tgt := 15) hx hb hx2 (show inR (5) by decide) dX4_stepsBelow_10 (by decide) (fun hc3 => ?_) (fun hc3 => ?_)
    · rw [if_neg hc3] at hf
      refine k_const hx hb dX4_stepsBelow_15 ?_
      refine lv_istore_n (lv' := [(3, .int (i3 (1))), (0, .ref (gA G (5 + k))), (1, .int (i3 (x1))), (2, .int (i3 (x2)))]) hx hb dX4_stepsBelow_16 rfl hl (by decide) rfl (fun ls hl => ?_)
      refine lv_iload_n hx hb dX4_stepsBelow_17 rfl (lv_at hl 2 rfl) ?_
      refine k_const hx hb dX4_stepsBelow_18 ?_
      refine k_sub hx hb dX4_stepsBelow_19 ?_
      obtain ⟨hg4, hf⟩ := gd_el hf
      refine lv_istore (lv' := [(4, .int (i3 (x1 - 1))), (3, .int (i3 (1))), (0, .ref (gA G (5 + k))), (1, .int (i3 (x1))), (2, .int (i3 (x2)))]) hx hb dX4_stepsBelow_20 hl (by decide) rfl (fun ls hl => ?_)
      refine k_const hx hb dX4_stepsBelow_22 ?_
      refine lv_istore (lv' := [(5, .int (i3 (0))), (4, .int (i3 (x1 - 1))), (3, .int (i3 (1))), (0, .ref (gA G (5 + k))), (1, .int (i3 (x1))), (2, .int (i3 (x2)))]) hx hb dX4_stepsBelow_23 hl (by decide) rfl (fun ls hl => ?_)
      exact L16 (x1) hx1 (x2) hx2 (1, x1 - 1, 0) r hf rfl (show inR (1) by decide) hg4 (show inR (0) by decide) _ _ _ hW hS (lv_sub hl [3, 4, 5, 2, 1, 0] rfl)
    · rw [if_pos hc3] at hf
      refine k_const hx hb dX4_stepsBelow_13 ?_
      obtain rfl := some_el hf
      exact k_ret hx hb hr hlocks hW hS rfl (show inR (1) by decide) dX4_stepsBelow_14
theorem mG_stepsBelow (n : Nat) (l : Launch) (G : gG) (M0 : MemG) (k : Nat) (hk : k < 11) : ∀ (x1 : Int), inR x1 → ∀ (x2 : Int), inR x2 → ∀ (r : Int), fG_stepsBelow n M0 k x1 x2 = some r → Met l yX4_stepsBelow (wb yX4_stepsBelow cX4_stepsBelow 6 (some .int)) ({ frames := 2 + n, cells := 0, slots := 0, locals := 42 + 25 * n } : Room) (PcG G M0 [.ref (gA G (5 + k)), .int (i3 (x1)), .int (i3 (x2))]) (QcI G M0 r) 0 0 (PA G) := by
  induction n with
  | zero => intro x1 h1 x2 h2 r hf; cases hf
  | succ n ih => intro x1 h1 x2 h2 r hf; exact mG_stepsBelow_b n _ l G M0 k hk ih x1 h1 x2 h2 r hf
set_option maxHeartbeats 4000000 in
set_option maxRecDepth 100000 in
theorem mG_steps (l : Launch) (G : gG) (M0 : MemG) (x1 : Int) (hx1 : inR x1) (r : Int) (hf : fG_steps M0 x1 = some r) : Met l yX4_steps (wb yX4_steps cX4_steps 5 (some .int)) ({ frames := 10, cells := 0, slots := 0, locals := 242 } : Room) (PcG G M0 [.ref (gA G (0)), .int (i3 (x1))]) (QcI G M0 r) 0 0 (PA G) := by
  refine Met.ofW (cc := cX4_steps) (maxL := 5) (ret := (some .int)) (by decide) rfl ?_
  intro p e s m args below meth c s₁ B hml hv0
  obtain ⟨hav, hW⟩ := hv0
  have hx := B.exec
  have hb := B.bytes
  have hr := B.returns
  have hts := atoms_spec (ws := (wb yX4_steps cX4_steps 5 (some .int))) B.pre
  have hown : s.vm.findClass RX4 = some m.cls := findClass_of_methodNamed B.named
  have hlocks := B.notSynchronized
  have hinX4 : ∀ w ∈ u_ws RX4 TX4 10, w ∈ (wb yX4_steps cX4_steps 5 (some .int)) := fun _ h => List.mem_cons_of_mem _ (inlX4 _ h)
  have hW : Wd G M0 s s.heap := hW
  have hS : va_S (PA G) s.heap s.heap [] := va_S.rf
  have hl := lv_entry [.ref (gA G (0)), .int (i3 (x1))] (n := 5) (Nat.le_of_ble_eq_true rfl)
  have hent := lg_entry_eq m [.ref (gA G (0)), .int (i3 (x1))] 5
  rw [← hav] at hent
  rw [hent]
  clear hent
  generalize (lg_sl [.ref (gA G (0)), .int (i3 (x1))] ++ List.replicate (5 - (lg_sl [.ref (gA G (0)), .int (i3 (x1))]).length) Slot.unset).toArray = ls at hl ⊢
  have hl : lv_has ls 5 [(0, .ref (gA G (0))), (1, .int (i3 (x1)))] := hl
  unfold fG_steps at hf
  show W p l e ({ frames := 10, cells := 0, slots := 0, locals := 242 } : Room) s m args below meth c s.heap [] 0 0 (MQ below (QcI G M0 r) args s 0 0 (PA G)) (F0 m 0 ls [])
  have L12 : ∀ (z : (Int × Int × Int)) (q : (Int)), loopN (fG_steps_l19 M0) 200 z = some q → (q = r) → (inR (z.1) → inR (z.2.1) → inR (z.2.2) → ∀ (H : Heap) (locs : List Loc) (ls : Array Slot), Wd G (M0) s H → va_S (PA G) s.heap H locs → lv_has ls 5 [(0, .ref (gA G (0))), (2, .int (i3 (z.1))), (3, .int (i3 (z.2.1))), (4, .int (i3 (z.2.2)))] → W p l e ({ frames := 10, cells := 0, slots := 0, locals := 242 } : Room) s m args below meth c H locs 0 0 (MQ below (QcI G M0 r) args s 0 0 (PA G)) (F0 m 19 ls [])) := by
    intro z q hq hex
    refine loop_rule (fG_steps_l19 M0) (fun z => inR (z.1) → inR (z.2.1) → inR (z.2.2) → ∀ (H : Heap) (locs : List Loc) (ls : Array Slot), Wd G (M0) s H → va_S (PA G) s.heap H locs → lv_has ls 5 [(0, .ref (gA G (0))), (2, .int (i3 (z.1))), (3, .int (i3 (z.2.1))), (4, .int (i3 (z.2.2)))] → W p l e ({ frames := 10, cells := 0, slots := 0, locals := 242 } : Room) s m args below meth c H locs 0 0 (MQ below (QcI G M0 r) args s 0 0 (PA G)) (F0 m 19 ls [])) (fun q => (q = r)) ?_ 200 z q hq hex
    clear hq hex q z
    intro z x hf hK hz2 hz3 hz4 H locs ls hW hS hl
    unfold fG_steps_l19 at hf
    refine lv_iload hx hb dX4_steps_19 (lv_at hl 3 rfl) ?_
    refine k_bipush hx hb dX4_steps_21 (by decide +kernel) ?_
    refine k_icmp_ge (tgt := 55) hx hb hz4 (show inR (32) by decide) dX4_steps_23 (by decide) (fun hc4 => ?_) (fun hc4 => ?_)
    · rw [if_neg hc4] at hf
      refine lv_iload_n hx hb dX4_steps_55 rfl (lv_at hl 1 rfl) ?_
      obtain rfl := some_el hf
      obtain rfl : z.1 = r := hK
      exact k_ret hx hb hr hlocks hW hS rfl hz2 dX4_steps_56
    · rw [if_pos hc4] at hf
      refine lv_iload_n hx hb dX4_steps_26 rfl (lv_at hl 2 rfl) ?_
      refine k_if_le (tgt := 55) hx hb hz3 dX4_steps_27 (by decide) (fun hc5 => ?_) (fun hc5 => ?_)
      · rw [if_neg hc5] at hf
        refine lv_iload_n hx hb dX4_steps_55 rfl (lv_at hl 1 rfl) ?_
        obtain rfl := some_el hf
        obtain rfl : z.1 = r := hK
        exact k_ret hx hb hr hlocks hW hS rfl hz2 dX4_steps_56
      · rw [if_pos hc5] at hf
        refine lv_iload_n hx hb dX4_steps_30 rfl (lv_at hl 1 rfl) ?_
        refine lv_aload_n hx hb dX4_steps_31 rfl (lv_at hl 0 rfl) ?_
        refine va_get (D := G.1) (ci := 4) (v := .ref (gA G (5 + 0))) (C := RX4) (T := TX4) (N := 10) hx hb hts hinX4 hown hW.K hW.P 0 (he_G G M0) rfl 0 (by decide) (hts _ (List.mem_cons_of_mem _ (inB_1 _ (List.mem_of_getElem? (i := 13) rfl)))) (fun _ h9 => h9) rfl dX4_steps_32 ?_
        refine lv_iload_n hx hb dX4_steps_35 rfl (lv_at hl 2 rfl) ?_
        refine k_const hx hb dX4_steps_36 ?_
        obtain ⟨q6, hq6, hf⟩ := bind_el hf
        refine k_cSi (As := [.ref (gA G (5 + 0)), .int (i3 (z.2.1)), .int (i3 (0))]) (rest := [.int (i3 (z.1))]) ⟨hx, hb, hml, hown, hts⟩ (mG_stepsBelow 7 l G M0 (0) (by decide) z.2.1 hz3 0 (show inR (0) by decide) q6 hq6) (va_cwS 3 hts (gbS (inB_23 _ (List.mem_of_getElem? (i := 15) rfl)) (inB_23 _ (List.mem_of_getElem? (i := 16) rfl)) (inB_1 _ (List.mem_of_getElem? (i := 2) rfl)) (inB_23 _ (List.mem_of_getElem? (i := 17) rfl))) rfl rfl rfl (by decide +kernel) ⟨Nat.le_of_ble_eq_true rfl, Nat.le_of_ble_eq_true rfl⟩) hW hS rfl hl.1 rfl (lv_room (Nat.le_of_ble_eq_true rfl)) dX4_steps_37 ⟨Nat.zero_le _, Nat.zero_le _⟩ (fun hv7 H locs hW hS => ?_)
        refine k_add hx hb dX4_steps_40 ?_
        obtain ⟨hg8, hf⟩ := gd_el hf
        refine lv_istore_n (lv' := [(2, .int (i3 (z.1 + q6))), (0, .ref (gA G (0))), (3, .int (i3 (z.2.1))), (4, .int (i3 (z.2.2)))]) hx hb dX4_steps_41 rfl hl (by decide) rfl (fun ls hl => ?_)
        refine lv_iload_n hx hb dX4_steps_42 rfl (lv_at hl 2 rfl) ?_
        refine lv_iload_n hx hb dX4_steps_43 rfl (lv_at hl 2 rfl) ?_
        refine k_cSi (As := [.int (i3 (z.2.1))]) (rest := [.int (i3 (z.2.1))]) ⟨hx, hb, hml, hown, hts⟩ (mG_sizeOf l G M0 z.2.1 hz3 _ rfl) (va_cwS 1 hts (gbS (inB_7 _ (List.mem_of_getElem? (i := 5) rfl)) (inB_6 _ (List.mem_of_getElem? (i := 13) rfl)) (inB_1 _ (List.mem_of_getElem? (i := 2) rfl)) (inB_6 _ (List.mem_of_getElem? (i := 14) rfl))) rfl rfl rfl (by decide +kernel) ⟨Nat.le_of_ble_eq_true rfl, Nat.le_of_ble_eq_true rfl⟩) hW hS rfl hl.1 rfl (lv_room (Nat.le_of_ble_eq_true rfl)) dX4_steps_44 ⟨Nat.zero_le _, Nat.zero_le _⟩ (fun hv9 H locs hW hS => ?_)
        refine k_sub hx hb dX4_steps_47 ?_
        obtain ⟨hg10, hf⟩ := gd_el hf
        refine lv_istore_n (lv' := [(3, .int (i3 (z.2.1 - ((fG_sizeOf z.2.1))))), (2, .int (i3 (z.1 + q6))), (0, .ref (gA G (0))), (4, .int (i3 (z.2.2)))]) hx hb dX4_steps_48 rfl hl (by decide) rfl (fun ls hl => ?_)
        obtain ⟨hg11, hf⟩ := gd_el hf
        refine k_iinc (lv' := [(4, .int (i3 (z.2.2 + 1))), (3, .int (i3 (z.2.1 - ((fG_sizeOf z.2.1))))), (2, .int (i3 (z.1 + q6))), (0, .ref (gA G (0)))]) hx hb dX4_steps_49 hl (k := 3) rfl (by decide) rfl (fun ls hl => ?_)
        refine lv_goto (tgt := 19) hx hb dX4_steps_52 (by decide) ?_
        obtain rfl := some_el hf
        exact hK hg8 hg10 hg11 _ _ _ hW hS (lv_sub hl [3, 2, 1, 0] rfl)
  refine lv_iload_n hx hb dX4_steps_0 rfl (lv_at hl 1 rfl) ?_
  refine k_cSz (As := [.int (i3 (x1))]) (rest := []) ⟨hx, hb, hml, hown, hts⟩ (mG_isBay l G M0 x1 hx1 _ rfl) (va_cwS 1 hts (gbS (inB_4 _ (List.mem_of_getElem? (i := 8) rfl)) (inB_4 _ (List.mem_of_getElem? (i := 9) rfl)) (inB_1 _ (List.mem_of_getElem? (i := 2) rfl)) (inB_4 _ (List.mem_of_getElem? (i := 10) rfl))) rfl rfl rfl (by decide +kernel) ⟨Nat.le_of_ble_eq_true rfl, Nat.le_of_ble_eq_true rfl⟩) hW hS rfl hl.1 rfl (lv_room (Nat.le_of_ble_eq_true rfl)) dX4_steps_1 ⟨Nat.zero_le _, Nat.zero_le _⟩ (fun hv1 H locs hW hS => ?_)
  refine k_if_ne (tgt := 10) hx hb (inR_z hv1) dX4_steps_4 (by decide) (fun hc2 => ?_) (fun hc2 => ?_)
  · rw [if_neg hc2] at hf
    refine k_const hx hb dX4_steps_10 ?_
    refine lv_istore_n (lv' := [(2, .int (i3 (0))), (0, .ref (gA G (0))), (1, .int (i3 (x1)))]) hx hb dX4_steps_11 rfl hl (by decide) rfl (fun ls hl => ?_)
    refine lv_iload_n hx hb dX4_steps_12 rfl (lv_at hl 2 rfl) ?_
    refine k_const hx hb dX4_steps_13 ?_
    refine k_add hx hb dX4_steps_14 ?_
    obtain ⟨hg3, hf⟩ := gd_el hf
    refine lv_istore_n (lv' := [(3, .int (i3 (x1 + 1))), (2, .int (i3 (0))), (0, .ref (gA G (0))), (1, .int (i3 (x1)))]) hx hb dX4_steps_15 rfl hl (by decide) rfl (fun ls hl => ?_)
    refine k_const hx hb dX4_steps_16 ?_
    refine lv_istore (lv' := [(4, .int (i3 (0))), (3, .int (i3 (x1 + 1))), (2, .int (i3 (0))), (0, .ref (gA G (0))), (1, .int (i3 (x1)))]) hx hb dX4_steps_17 hl (by decide) rfl (fun ls hl => ?_)
    exact L12  (0, x1 + 1, 0) r hf rfl (show inR (0) by decide) hg3 (show inR (0) by decide) _ _ _ hW hS (lv_sub hl [3, 2, 1, 0] rfl)
  · rw [if_pos hc2] at hf
    refine k_bipush hx hb dX4_steps_7 (by decide +kernel) ?_
    obtain rfl := some_el hf
    exact k_ret hx hb hr hlocks hW hS rfl (show inR (-11) by decide) dX4_steps_9
set_option maxHeartbeats 4000000 in
set_option maxRecDepth 100000 in
theorem mG_knownSteps (l : Launch) (G : gG) (M0 : MemG) (x1 : Int) (hx1 : inR x1) (x2 : Int) (hx2 : inR x2) (r : Int) (hf : fG_knownSteps M0 x1 x2 = some r) : Met l yX4_knownSteps (wb yX4_knownSteps cX4_knownSteps 6 (some .int)) ({ frames := 1, cells := 0, slots := 0, locals := 21 } : Room) (PcG G M0 [.ref (gA G (0)), .int (i3 (x1)), .int (i3 (x2))]) (QcI G M0 r) 0 0 (PA G) := by
  refine Met.ofW (cc := cX4_knownSteps) (maxL := 6) (ret := (some .int)) (by decide) rfl ?_
  intro p e s m args below meth c s₁ B hml hv0
  obtain ⟨hav, hW⟩ := hv0
  have hx := B.exec
  have hb := B.bytes
  have hr := B.returns
  have hts := atoms_spec (ws := (wb yX4_knownSteps cX4_knownSteps 6 (some .int))) B.pre
  have hown : s.vm.findClass RX4 = some m.cls := findClass_of_methodNamed B.named
  have hlocks := B.notSynchronized
  have hinX4 : ∀ w ∈ u_ws RX4 TX4 10, w ∈ (wb yX4_knownSteps cX4_knownSteps 6 (some .int)) := fun _ h => List.mem_cons_of_mem _ (inlX4 _ h)
  have hW : Wd G M0 s s.heap := hW
  have hS : va_S (PA G) s.heap s.heap [] := va_S.rf
  have hl := lv_entry [.ref (gA G (0)), .int (i3 (x1)), .int (i3 (x2))] (n := 6) (Nat.le_of_ble_eq_true rfl)
  have hent := lg_entry_eq m [.ref (gA G (0)), .int (i3 (x1)), .int (i3 (x2))] 6
  rw [← hav] at hent
  rw [hent]
  clear hent
  generalize (lg_sl [.ref (gA G (0)), .int (i3 (x1)), .int (i3 (x2))] ++ List.replicate (6 - (lg_sl [.ref (gA G (0)), .int (i3 (x1)), .int (i3 (x2))]).length) Slot.unset).toArray = ls at hl ⊢
  have hl : lv_has ls 6 [(0, .ref (gA G (0))), (1, .int (i3 (x1))), (2, .int (i3 (x2)))] := hl
  unfold fG_knownSteps at hf
  show W p l e ({ frames := 1, cells := 0, slots := 0, locals := 21 } : Room) s m args below meth c s.heap [] 0 0 (MQ below (QcI G M0 r) args s 0 0 (PA G)) (F0 m 0 ls [])
  have L8 : ∀ (x2 : Int) (hx2 : inR x2), ∀ (z : (Int × Int × Int)) (q : (Int)), loopN (fG_knownSteps_l8 M0 x2) 200 z = some q → (q = r) → (inR (z.1) → inR (z.2.1) → inR (z.2.2) → ∀ (H : Heap) (locs : List Loc) (ls : Array Slot), Wd G (M0) s H → va_S (PA G) s.heap H locs → lv_has ls 6 [(0, .ref (gA G (0))), (2, .int (i3 (x2))), (3, .int (i3 (z.1))), (4, .int (i3 (z.2.1))), (5, .int (i3 (z.2.2)))] → W p l e ({ frames := 1, cells := 0, slots := 0, locals := 21 } : Room) s m args below meth c H locs 0 0 (MQ below (QcI G M0 r) args s 0 0 (PA G)) (F0 m 8 ls [])) := by
    intro x2 hx2 z q hq hex
    refine loop_rule (fG_knownSteps_l8 M0 x2) (fun z => inR (z.1) → inR (z.2.1) → inR (z.2.2) → ∀ (H : Heap) (locs : List Loc) (ls : Array Slot), Wd G (M0) s H → va_S (PA G) s.heap H locs → lv_has ls 6 [(0, .ref (gA G (0))), (2, .int (i3 (x2))), (3, .int (i3 (z.1))), (4, .int (i3 (z.2.1))), (5, .int (i3 (z.2.2)))] → W p l e ({ frames := 1, cells := 0, slots := 0, locals := 21 } : Room) s m args below meth c H locs 0 0 (MQ below (QcI G M0 r) args s 0 0 (PA G)) (F0 m 8 ls [])) (fun q => (q = r)) ?_ 200 z q hq hex
    clear hq hex q z
    intro z x hf hK hz3 hz4 hz5 H locs ls hW hS hl
    unfold fG_knownSteps_l8 at hf
    refine lv_iload hx hb dX4_knownSteps_8 (lv_at hl 4 rfl) ?_
    refine k_bipush hx hb dX4_knownSteps_10 (by decide +kernel) ?_
    refine k_icmp_ge (tgt := 49) hx hb hz5 (show inR (32) by decide) dX4_knownSteps_12 (by decide) (fun hc1 => ?_) (fun hc1 => ?_)
    · rw [if_neg hc1] at hf
      refine lv_iload_n hx hb dX4_knownSteps_49 rfl (lv_at hl 2 rfl) ?_
      obtain rfl := some_el hf
      obtain rfl : z.1 = r := hK
      exact k_ret hx hb hr hlocks hW hS rfl hz3 dX4_knownSteps_50
    · rw [if_pos hc1] at hf
      refine lv_iload hx hb dX4_knownSteps_15 (lv_at hl 3 rfl) ?_
      refine lv_iload_n hx hb dX4_knownSteps_17 rfl (lv_at hl 1 rfl) ?_
      refine k_icmp_le (tgt := 49) hx hb hz4 hx2 dX4_knownSteps_18 (by decide) (fun hc2 => ?_) (fun hc2 => ?_)
      · rw [if_neg hc2] at hf
        refine lv_iload_n hx hb dX4_knownSteps_49 rfl (lv_at hl 2 rfl) ?_
        obtain rfl := some_el hf
        obtain rfl : z.1 = r := hK
        exact k_ret hx hb hr hlocks hW hS rfl hz3 dX4_knownSteps_50
      · rw [if_pos hc2] at hf
        refine lv_iload_n hx hb dX4_knownSteps_21 rfl (lv_at hl 2 rfl) ?_
        refine lv_aload_n hx hb dX4_knownSteps_22 rfl (lv_at hl 0 rfl) ?_
        refine va_get (D := G.1) (ci := 4) (v := .ref (gA G (85))) (C := RX4) (T := TX4) (N := 10) hx hb hts hinX4 hown hW.K hW.P 0 (he_G G M0) rfl 9 (by decide) (hts _ (List.mem_cons_of_mem _ (inB_2 _ (List.mem_of_getElem? (i := 8) rfl)))) (fun _ h9 => h9) rfl dX4_knownSteps_23 ?_
        refine lv_iload hx hb dX4_knownSteps_26 (lv_at hl 3 rfl) ?_
        refine k_cSi (As := [.ref (gA G (85)), .int (i3 (z.2.1))]) (rest := [.int (i3 (z.1))]) ⟨hx, hb, hml, hown, hts⟩ (mG_at l G M0 (85) (by omega) z.2.1 hz4 _ rfl) (va_cwS 2 hts (gbS (inB_24 _ (List.mem_of_getElem? (i := 6) rfl)) (inB_5 _ (List.mem_of_getElem? (i := 1) rfl)) (inB_1 _ (List.mem_of_getElem? (i := 2) rfl)) (inB_5 _ (List.mem_of_getElem? (i := 2) rfl))) rfl rfl rfl (by decide +kernel) ⟨Nat.le_of_ble_eq_true rfl, Nat.le_of_ble_eq_true rfl⟩) hW hS rfl hl.1 rfl (lv_room (Nat.le_of_ble_eq_true rfl)) dX4_knownSteps_28 ⟨Nat.zero_le _, Nat.zero_le _⟩ (fun hv3 H locs hW hS => ?_)
        refine k_add hx hb dX4_knownSteps_31 ?_
        obtain ⟨hg4, hf⟩ := gd_el hf
        refine lv_istore_n (lv' := [(3, .int (i3 (z.1 + ((fG_at M0 (85) z.2.1))))), (0, .ref (gA G (0))), (2, .int (i3 (x2))), (4, .int (i3 (z.2.1))), (5, .int (i3 (z.2.2)))]) hx hb dX4_knownSteps_32 rfl hl (by decide) rfl (fun ls hl => ?_)
        refine lv_iload hx hb dX4_knownSteps_33 (lv_at hl 3 rfl) ?_
        refine lv_iload hx hb dX4_knownSteps_35 (lv_at hl 3 rfl) ?_
        refine k_cSi (As := [.int (i3 (z.2.1))]) (rest := [.int (i3 (z.2.1))]) ⟨hx, hb, hml, hown, hts⟩ (mG_sizeOf l G M0 z.2.1 hz4 _ rfl) (va_cwS 1 hts (gbS (inB_7 _ (List.mem_of_getElem? (i := 5) rfl)) (inB_6 _ (List.mem_of_getElem? (i := 13) rfl)) (inB_1 _ (List.mem_of_getElem? (i := 2) rfl)) (inB_6 _ (List.mem_of_getElem? (i := 14) rfl))) rfl rfl rfl (by decide +kernel) ⟨Nat.le_of_ble_eq_true rfl, Nat.le_of_ble_eq_true rfl⟩) hW hS rfl hl.1 rfl (lv_room (Nat.le_of_ble_eq_true rfl)) dX4_knownSteps_37 ⟨Nat.zero_le _, Nat.zero_le _⟩ (fun hv5 H locs hW hS => ?_)
        refine k_sub hx hb dX4_knownSteps_40 ?_
        obtain ⟨hg6, hf⟩ := gd_el hf
        refine lv_istore (lv' := [(4, .int (i3 (z.2.1 - ((fG_sizeOf z.2.1))))), (3, .int (i3 (z.1 + ((fG_at M0 (85) z.2.1))))), (0, .ref (gA G (0))), (2, .int (i3 (x2))), (5, .int (i3 (z.2.2)))]) hx hb dX4_knownSteps_41 hl (by decide) rfl (fun ls hl => ?_)
        obtain ⟨hg7, hf⟩ := gd_el hf
        refine k_iinc (lv' := [(5, .int (i3 (z.2.2 + 1))), (4, .int (i3 (z.2.1 - ((fG_sizeOf z.2.1))))), (3, .int (i3 (z.1 + ((fG_at M0 (85) z.2.1))))), (0, .ref (gA G (0))), (2, .int (i3 (x2)))]) hx hb dX4_knownSteps_43 hl (k := 4) rfl (by decide) rfl (fun ls hl => ?_)
        refine lv_goto (tgt := 8) hx hb dX4_knownSteps_46 (by decide) ?_
        obtain rfl := some_el hf
        exact hK hg4 hg6 hg7 _ _ _ hW hS (lv_sub hl [3, 4, 2, 1, 0] rfl)
  refine k_const hx hb dX4_knownSteps_0 ?_
  refine lv_istore_n (lv' := [(3, .int (i3 (0))), (0, .ref (gA G (0))), (1, .int (i3 (x1))), (2, .int (i3 (x2)))]) hx hb dX4_knownSteps_1 rfl hl (by decide) rfl (fun ls hl => ?_)
  refine lv_iload_n hx hb dX4_knownSteps_2 rfl (lv_at hl 2 rfl) ?_
  refine lv_istore (lv' := [(4, .int (i3 (x1))), (3, .int (i3 (0))), (0, .ref (gA G (0))), (1, .int (i3 (x1))), (2, .int (i3 (x2)))]) hx hb dX4_knownSteps_3 hl (by decide) rfl (fun ls hl => ?_)
  refine k_const hx hb dX4_knownSteps_5 ?_
  refine lv_istore (lv' := [(5, .int (i3 (0))), (4, .int (i3 (x1))), (3, .int (i3 (0))), (0, .ref (gA G (0))), (1, .int (i3 (x1))), (2, .int (i3 (x2)))]) hx hb dX4_knownSteps_6 hl (by decide) rfl (fun ls hl => ?_)
  exact L8 (x2) hx2 (0, x1, 0) r hf rfl (show inR (0) by decide) hx1 (show inR (0) by decide) _ _ _ hW hS (lv_sub hl [3, 5, 2, 1, 0] rfl)
set_option maxHeartbeats 4000000 in
set_option maxRecDepth 100000 in
theorem mG_stepsByKnown (l : Launch) (G : gG) (M0 : MemG) (x1 : Int) (hx1 : inR x1) (r : Int) (hf : fG_stepsByKnown M0 x1 = some r) : Met l yX4_stepsByKnown (wb yX4_stepsByKnown cX4_stepsByKnown 2 (some .int)) ({ frames := 2, cells := 0, slots := 0, locals := 46 } : Room) (PcG G M0 [.ref (gA G (0)), .int (i3 (x1))]) (QcI G M0 r) 0 0 (PA G) := by
  refine Met.ofW (cc := cX4_stepsByKnown) (maxL := 2) (ret := (some .int)) (by decide) rfl ?_
  intro p e s m args below meth c s₁ B hml hv0
  obtain ⟨hav, hW⟩ := hv0
  have hx := B.exec
  have hb := B.bytes
  have hr := B.returns
  have hts := atoms_spec (ws := (wb yX4_stepsByKnown cX4_stepsByKnown 2 (some .int))) B.pre
  have hown : s.vm.findClass RX4 = some m.cls := findClass_of_methodNamed B.named
  have hlocks := B.notSynchronized
  have hinX4 : ∀ w ∈ u_ws RX4 TX4 10, w ∈ (wb yX4_stepsByKnown cX4_stepsByKnown 2 (some .int)) := fun _ h => List.mem_cons_of_mem _ (inlX4 _ h)
  have hW : Wd G M0 s s.heap := hW
  have hS : va_S (PA G) s.heap s.heap [] := va_S.rf
  have hl := lv_entry [.ref (gA G (0)), .int (i3 (x1))] (n := 2) (Nat.le_of_ble_eq_true rfl)
  have hent := lg_entry_eq m [.ref (gA G (0)), .int (i3 (x1))] 2
  rw [← hav] at hent
  rw [hent]
  clear hent
  generalize (lg_sl [.ref (gA G (0)), .int (i3 (x1))] ++ List.replicate (2 - (lg_sl [.ref (gA G (0)), .int (i3 (x1))]).length) Slot.unset).toArray = ls at hl ⊢
  have hl : lv_has ls 2 [(0, .ref (gA G (0))), (1, .int (i3 (x1)))] := hl
  unfold fG_stepsByKnown at hf
  show W p l e ({ frames := 2, cells := 0, slots := 0, locals := 46 } : Room) s m args below meth c s.heap [] 0 0 (MQ below (QcI G M0 r) args s 0 0 (PA G)) (F0 m 0 ls [])
  refine lv_aload_n hx hb dX4_stepsByKnown_0 rfl (lv_at hl 0 rfl) ?_
  refine va_get (D := G.1) (ci := 4) (v := .ref (gA G (5 + 0))) (C := RX4) (T := TX4) (N := 10) hx hb hts hinX4 hown hW.K hW.P 0 (he_G G M0) rfl 0 (by decide) (hts _ (List.mem_cons_of_mem _ (inB_1 _ (List.mem_of_getElem? (i := 13) rfl)))) (fun _ h9 => h9) rfl dX4_stepsByKnown_1 ?_
  refine lv_iload_n hx hb dX4_stepsByKnown_4 rfl (lv_at hl 1 rfl) ?_
  refine k_cVz (As := [.int (i3 (x1))]) (rest := []) ⟨hx, hb, hml, hown, hts⟩ (mW_isCracked l G M0 (0) (by decide) x1 hx1 _ rfl) (cwV 1 hts (gbV (inB_10 _ (List.mem_of_getElem? (i := 18) rfl)) (inB_6 _ (List.mem_of_getElem? (i := 20) rfl)) (inB_6 _ (List.mem_of_getElem? (i := 21) rfl)) (inB_1 _ (List.mem_of_getElem? (i := 12) rfl)) (inB_6 _ (List.mem_of_getElem? (i := 22) rfl))) rfl rfl rfl (by decide +kernel) ⟨Nat.le_of_ble_eq_true rfl, Nat.le_of_ble_eq_true rfl⟩) (rv_wall (by decide) hW) hW hS rfl hl.1 rfl (lv_room (Nat.le_of_ble_eq_true rfl)) dX4_stepsByKnown_5 ⟨Nat.zero_le _, Nat.zero_le _⟩ (fun hv1 H locs hW hS => ?_)
  refine k_if_eq (tgt := 27) hx hb (inR_z hv1) dX4_stepsByKnown_8 (by decide) (fun hc2 => ?_) (fun hc2 => ?_)
  · rw [if_pos hc2] at hf
    refine k_const hx hb dX4_stepsByKnown_27 ?_
    obtain rfl := some_el hf
    exact k_ret hx hb hr hlocks hW hS rfl (show inR (1) by decide) dX4_stepsByKnown_28
  · rw [if_neg hc2] at hf
    refine k_const hx hb dX4_stepsByKnown_11 ?_
    refine lv_aload_n hx hb dX4_stepsByKnown_12 rfl (lv_at hl 0 rfl) ?_
    refine lv_iload_n hx hb dX4_stepsByKnown_13 rfl (lv_at hl 1 rfl) ?_
    refine k_const hx hb dX4_stepsByKnown_14 ?_
    refine k_sub hx hb dX4_stepsByKnown_15 ?_
    refine lv_iload_n hx hb dX4_stepsByKnown_16 rfl (lv_at hl 1 rfl) ?_
    obtain ⟨q3, hq3, hf⟩ := bind_el hf
    refine k_cSi (As := [.int (i3 (x1))]) (rest := [.int (i3 (x1 - 1)), .ref (gA G (0)), .int (i3 (1))]) ⟨hx, hb, hml, hown, hts⟩ (mG_firstBayOf l G M0 x1 hx1 q3 hq3) (va_cwS 1 hts (gbS (inB_10 _ (List.mem_of_getElem? (i := 19) rfl)) (inB_10 _ (List.mem_of_getElem? (i := 20) rfl)) (inB_1 _ (List.mem_of_getElem? (i := 2) rfl)) (inB_10 _ (List.mem_of_getElem? (i := 21) rfl))) rfl rfl rfl (by decide +kernel) ⟨Nat.le_of_ble_eq_true rfl, Nat.le_of_ble_eq_true rfl⟩) hW hS rfl hl.1 rfl (lv_room (Nat.le_of_ble_eq_true rfl)) dX4_stepsByKnown_17 ⟨Nat.zero_le _, Nat.zero_le _⟩ (fun hv4 H locs hW hS => ?_)
    obtain ⟨hg5, hf⟩ := gd_el hf
    obtain ⟨q6, hq6, hf⟩ := bind_el hf
    refine k_cVi (As := [.int (i3 (x1 - 1)), .int (i3 (q3))]) (rest := [.int (i3 (1))]) ⟨hx, hb, hml, hown, hts⟩ (mG_knownSteps l G M0 (x1 - 1) hg5 q3 hv4 q6 hq6) (cwV 2 hts (gbV (inB_24 _ (List.mem_of_getElem? (i := 2) rfl)) (inB_24 _ (List.mem_of_getElem? (i := 3) rfl)) (inB_24 _ (List.mem_of_getElem? (i := 4) rfl)) (inB_1 _ (List.mem_of_getElem? (i := 2) rfl)) (inB_24 _ (List.mem_of_getElem? (i := 5) rfl))) rfl rfl rfl (by decide +kernel) ⟨Nat.le_of_ble_eq_true rfl, Nat.le_of_ble_eq_true rfl⟩) (rv_G hW) hW hS rfl hl.1 rfl (lv_room (Nat.le_of_ble_eq_true rfl)) dX4_stepsByKnown_20 ⟨Nat.zero_le _, Nat.zero_le _⟩ (fun hv7 H locs hW hS => ?_)
    refine k_add hx hb dX4_stepsByKnown_23 ?_
    refine lv_goto (tgt := 28) hx hb dX4_stepsByKnown_24 (by decide) ?_
    obtain ⟨hg8, hf⟩ := gd_el hf
    obtain rfl := some_el hf
    exact k_ret hx hb hr hlocks hW hS rfl hg8 dX4_stepsByKnown_28
set_option maxHeartbeats 4000000 in
set_option maxRecDepth 100000 in
theorem mG_stepsAgain (l : Launch) (G : gG) (M0 : MemG) (x1 : Int) (hx1 : inR x1) (r : MemG × Int) (hf : fG_stepsAgain M0 x1 = some r) : Met l yX4_stepsAgain (wb yX4_stepsAgain cX4_stepsAgain 3 (some .int)) ({ frames := 3, cells := 0, slots := 0, locals := 67 } : Room) (PcG G M0 [.ref (gA G (0)), .int (i3 (x1))]) (QcI G r.1 r.2) 0 0 (PA G) := by
  refine Met.ofW (cc := cX4_stepsAgain) (maxL := 3) (ret := (some .int)) (by decide) rfl ?_
  intro p e s m args below meth c s₁ B hml hv0
  obtain ⟨hav, hW⟩ := hv0
  have hx := B.exec
  have hb := B.bytes
  have hr := B.returns
  have hts := atoms_spec (ws := (wb yX4_stepsAgain cX4_stepsAgain 3 (some .int))) B.pre
  have hown : s.vm.findClass RX4 = some m.cls := findClass_of_methodNamed B.named
  have hlocks := B.notSynchronized
  have hinX4 : ∀ w ∈ u_ws RX4 TX4 10, w ∈ (wb yX4_stepsAgain cX4_stepsAgain 3 (some .int)) := fun _ h => List.mem_cons_of_mem _ (inlX4 _ h)
  have hW : Wd G M0 s s.heap := hW
  have hS : va_S (PA G) s.heap s.heap [] := va_S.rf
  have hl := lv_entry [.ref (gA G (0)), .int (i3 (x1))] (n := 3) (Nat.le_of_ble_eq_true rfl)
  have hent := lg_entry_eq m [.ref (gA G (0)), .int (i3 (x1))] 3
  rw [← hav] at hent
  rw [hent]
  clear hent
  generalize (lg_sl [.ref (gA G (0)), .int (i3 (x1))] ++ List.replicate (3 - (lg_sl [.ref (gA G (0)), .int (i3 (x1))]).length) Slot.unset).toArray = ls at hl ⊢
  have hl : lv_has ls 3 [(0, .ref (gA G (0))), (1, .int (i3 (x1)))] := hl
  unfold fG_stepsAgain at hf
  show W p l e ({ frames := 3, cells := 0, slots := 0, locals := 67 } : Room) s m args below meth c s.heap [] 0 0 (MQ below (QcI G r.1 r.2) args s 0 0 (PA G)) (F0 m 0 ls [])
  have L10 : ∀ (x1 : Int) (hx1 : inR x1), ∀ (z : (Int × MemG)) (q : (MemG)), loopN (fG_stepsAgain_l12 x1) 200 z = some q → (∀ (H : Heap) (locs : List Loc) (ls : Array Slot), Wd G (q) s H → va_S (PA G) s.heap H locs → lv_has ls 3 [(0, .ref (gA G (0))), (1, .int (i3 (x1)))] → W p l e ({ frames := 3, cells := 0, slots := 0, locals := 67 } : Room) s m args below meth c H locs 0 0 (MQ below (QcI G r.1 r.2) args s 0 0 (PA G)) (F0 m 38 ls [])) → (inR (z.1) → ∀ (H : Heap) (locs : List Loc) (ls : Array Slot), Wd G (z.2) s H → va_S (PA G) s.heap H locs → lv_has ls 3 [(0, .ref (gA G (0))), (1, .int (i3 (x1))), (2, .int (i3 (z.1)))] → W p l e ({ frames := 3, cells := 0, slots := 0, locals := 67 } : Room) s m args below meth c H locs 0 0 (MQ below (QcI G r.1 r.2) args s 0 0 (PA G)) (F0 m 12 ls [])) := by
    intro x1 hx1 z q hq hex
    refine loop_rule (fG_stepsAgain_l12 x1) (fun z => inR (z.1) → ∀ (H : Heap) (locs : List Loc) (ls : Array Slot), Wd G (z.2) s H → va_S (PA G) s.heap H locs → lv_has ls 3 [(0, .ref (gA G (0))), (1, .int (i3 (x1))), (2, .int (i3 (z.1)))] → W p l e ({ frames := 3, cells := 0, slots := 0, locals := 67 } : Room) s m args below meth c H locs 0 0 (MQ below (QcI G r.1 r.2) args s 0 0 (PA G)) (F0 m 12 ls [])) (fun q => (∀ (H : Heap) (locs : List Loc) (ls : Array Slot), Wd G (q) s H → va_S (PA G) s.heap H locs → lv_has ls 3 [(0, .ref (gA G (0))), (1, .int (i3 (x1)))] → W p l e ({ frames := 3, cells := 0, slots := 0, locals := 67 } : Room) s m args below meth c H locs 0 0 (MQ below (QcI G r.1 r.2) args s 0 0 (PA G)) (F0 m 38 ls []))) ?_ 200 z q hq hex
    clear hq hex q z
    intro z x hf hK hz2 H locs ls hW hS hl
    unfold fG_stepsAgain_l12 at hf
    refine lv_iload_n hx hb dX4_stepsAgain_12 rfl (lv_at hl 2 rfl) ?_
    refine lv_iload_n hx hb dX4_stepsAgain_13 rfl (lv_at hl 1 rfl) ?_
    refine k_const hx hb dX4_stepsAgain_14 ?_
    refine k_add hx hb dX4_stepsAgain_15 ?_
    obtain ⟨hg3, hf⟩ := gd_el hf
    refine k_icmp_gt (tgt := 38) hx hb hz2 hg3 dX4_stepsAgain_16 (by decide) (fun hc4 => ?_) (fun hc4 => ?_)
    · rw [if_pos hc4] at hf
      obtain rfl := some_el hf
      exact hK  _ _ _ hW hS (lv_sub hl [0, 1] rfl)
    · rw [if_neg hc4] at hf
      refine lv_aload_n hx hb dX4_stepsAgain_19 rfl (lv_at hl 0 rfl) ?_
      refine va_get (D := G.1) (ci := 4) (v := .ref (gA G (85))) (C := RX4) (T := TX4) (N := 10) hx hb hts hinX4 hown hW.K hW.P 0 (he_G G z.2) rfl 9 (by decide) (hts _ (List.mem_cons_of_mem _ (inB_2 _ (List.mem_of_getElem? (i := 8) rfl)))) (fun _ h9 => h9) rfl dX4_stepsAgain_20 ?_
      refine lv_iload_n hx hb dX4_stepsAgain_23 rfl (lv_at hl 2 rfl) ?_
      refine lv_aload_n hx hb dX4_stepsAgain_24 rfl (lv_at hl 0 rfl) ?_
      refine lv_iload_n hx hb dX4_stepsAgain_25 rfl (lv_at hl 2 rfl) ?_
      obtain ⟨q5, hq5, hf⟩ := bind_el hf
      refine k_cVi (As := [.int (i3 (z.1))]) (rest := [.int (i3 (z.1)), .ref (gA G (85))]) ⟨hx, hb, hml, hown, hts⟩ (mG_stepsByKnown l G z.2 z.1 hz2 q5 hq5) (cwV 1 hts (gbV (inB_23 _ (List.mem_of_getElem? (i := 22) rfl)) (inB_23 _ (List.mem_of_getElem? (i := 23) rfl)) (inB_24 _ (List.mem_of_getElem? (i := 0) rfl)) (inB_1 _ (List.mem_of_getElem? (i := 2) rfl)) (inB_24 _ (List.mem_of_getElem? (i := 1) rfl))) rfl rfl rfl (by decide +kernel) ⟨Nat.le_of_ble_eq_true rfl, Nat.le_of_ble_eq_true rfl⟩) (rv_G hW) hW hS rfl hl.1 rfl (lv_room (Nat.le_of_ble_eq_true rfl)) dX4_stepsAgain_26 ⟨Nat.zero_le _, Nat.zero_le _⟩ (fun hv6 H locs hW hS => ?_)
      obtain ⟨m7, hm7, hf⟩ := bind_el hf
      refine k_cSv (As := [.ref (gA G (85)), .int (i3 (z.1)), .int (i3 (q5))]) (rest := []) ⟨hx, hb, hml, hown, hts⟩ (mG_put l G z.2 (85) (by omega) z.1 hz2 q5 hv6 m7 hm7) (va_cwS 3 hts (gbS (inB_24 _ (List.mem_of_getElem? (i := 7) rfl)) (inB_5 _ (List.mem_of_getElem? (i := 23) rfl)) (inB_1 _ (List.mem_of_getElem? (i := 2) rfl)) (inB_6 _ (List.mem_of_getElem? (i := 0) rfl))) rfl rfl rfl (by decide +kernel) ⟨Nat.le_of_ble_eq_true rfl, Nat.le_of_ble_eq_true rfl⟩) hW hS rfl hl.1 rfl (lv_room (Nat.le_of_ble_eq_true rfl)) dX4_stepsAgain_29 ⟨Nat.zero_le _, Nat.zero_le _⟩ (fun H locs hW hS => ?_)
      obtain ⟨hg9, hf⟩ := gd_el hf
      refine k_iinc (lv' := [(2, .int (i3 (z.1 + 1))), (0, .ref (gA G (0))), (1, .int (i3 (x1)))]) hx hb dX4_stepsAgain_32 hl (k := 2) rfl (by decide) rfl (fun ls hl => ?_)
      refine lv_goto (tgt := 12) hx hb dX4_stepsAgain_35 (by decide) ?_
      obtain rfl := some_el hf
      exact hK hg9 _ _ _ hW hS (lv_sub hl [1, 2, 0] rfl)
  refine lv_iload_n hx hb dX4_stepsAgain_0 rfl (lv_at hl 1 rfl) ?_
  refine k_cSz (As := [.int (i3 (x1))]) (rest := []) ⟨hx, hb, hml, hown, hts⟩ (mG_isBay l G M0 x1 hx1 _ rfl) (va_cwS 1 hts (gbS (inB_4 _ (List.mem_of_getElem? (i := 8) rfl)) (inB_4 _ (List.mem_of_getElem? (i := 9) rfl)) (inB_1 _ (List.mem_of_getElem? (i := 2) rfl)) (inB_4 _ (List.mem_of_getElem? (i := 10) rfl))) rfl rfl rfl (by decide +kernel) ⟨Nat.le_of_ble_eq_true rfl, Nat.le_of_ble_eq_true rfl⟩) hW hS rfl hl.1 rfl (lv_room (Nat.le_of_ble_eq_true rfl)) dX4_stepsAgain_1 ⟨Nat.zero_le _, Nat.zero_le _⟩ (fun hv1 H locs hW hS => ?_)
  refine k_if_ne (tgt := 10) hx hb (inR_z hv1) dX4_stepsAgain_4 (by decide) (fun hc2 => ?_) (fun hc2 => ?_)
  · rw [if_neg hc2] at hf
    refine k_const hx hb dX4_stepsAgain_10 ?_
    refine lv_istore_n (lv' := [(2, .int (i3 (1))), (0, .ref (gA G (0))), (1, .int (i3 (x1)))]) hx hb dX4_stepsAgain_11 rfl hl (by decide) rfl (fun ls hl => ?_)
    obtain ⟨q11, hq11, hf⟩ := bind_el hf
    refine L10 (x1) hx1 (1, M0) q11 hq11 ?_ (show inR (1) by decide) _ _ _ hW hS (lv_sub hl [1, 2, 0] rfl)
    intro  H locs ls hW hS hl
    refine lv_aload_n hx hb dX4_stepsAgain_38 rfl (lv_at hl 0 rfl) ?_
    refine lv_iload_n hx hb dX4_stepsAgain_39 rfl (lv_at hl 1 rfl) ?_
    refine k_const hx hb dX4_stepsAgain_40 ?_
    refine k_add hx hb dX4_stepsAgain_41 ?_
    refine k_const hx hb dX4_stepsAgain_42 ?_
    obtain ⟨hg12, hf⟩ := gd_el hf
    obtain ⟨q13, hq13, hf⟩ := bind_el hf
    refine k_cVi (As := [.int (i3 (x1 + 1)), .int (i3 (0))]) (rest := []) ⟨hx, hb, hml, hown, hts⟩ (mG_knownSteps l G q11 (x1 + 1) hg12 0 (show inR (0) by decide) q13 hq13) (cwV 2 hts (gbV (inB_24 _ (List.mem_of_getElem? (i := 2) rfl)) (inB_24 _ (List.mem_of_getElem? (i := 3) rfl)) (inB_24 _ (List.mem_of_getElem? (i := 4) rfl)) (inB_1 _ (List.mem_of_getElem? (i := 2) rfl)) (inB_24 _ (List.mem_of_getElem? (i := 5) rfl))) rfl rfl rfl (by decide +kernel) ⟨Nat.le_of_ble_eq_true rfl, Nat.le_of_ble_eq_true rfl⟩) (rv_G hW) hW hS rfl hl.1 rfl (lv_room (Nat.le_of_ble_eq_true rfl)) dX4_stepsAgain_43 ⟨Nat.zero_le _, Nat.zero_le _⟩ (fun hv14 H locs hW hS => ?_)
    obtain rfl := some_el hf
    exact k_ret hx hb hr hlocks hW hS rfl hv14 dX4_stepsAgain_46
  · rw [if_pos hc2] at hf
    refine k_bipush hx hb dX4_stepsAgain_7 (by decide +kernel) ?_
    obtain rfl := some_el hf
    exact k_ret hx hb hr hlocks hW hS rfl (show inR (-11) by decide) dX4_stepsAgain_9
set_option maxHeartbeats 4000000 in
set_option maxRecDepth 100000 in
theorem mG_sumAgain (l : Launch) (G : gG) (M0 : MemG) (x1 : Int) (hx1 : inR x1) (x2 : Int) (hx2 : inR x2) (r : Int) (hf : fG_sumAgain M0 x1 x2 = some r) : Met l yX4_sumAgain (wb yX4_sumAgain cX4_sumAgain 3 (some .int)) ({ frames := 3, cells := 0, slots := 0, locals := 66 } : Room) (PcG G M0 [.ref (gA G (0)), .int (i3 (x1)), .int (i3 (x2))]) (QcI G M0 r) 0 0 (PA G) := by
  refine Met.ofW (cc := cX4_sumAgain) (maxL := 3) (ret := (some .int)) (by decide) rfl ?_
  intro p e s m args below meth c s₁ B hml hv0
  obtain ⟨hav, hW⟩ := hv0
  have hx := B.exec
  have hb := B.bytes
  have hr := B.returns
  have hts := atoms_spec (ws := (wb yX4_sumAgain cX4_sumAgain 3 (some .int))) B.pre
  have hown : s.vm.findClass RX4 = some m.cls := findClass_of_methodNamed B.named
  have hlocks := B.notSynchronized
  have hinX4 : ∀ w ∈ u_ws RX4 TX4 10, w ∈ (wb yX4_sumAgain cX4_sumAgain 3 (some .int)) := fun _ h => List.mem_cons_of_mem _ (inlX4 _ h)
  have hW : Wd G M0 s s.heap := hW
  have hS : va_S (PA G) s.heap s.heap [] := va_S.rf
  have hl := lv_entry [.ref (gA G (0)), .int (i3 (x1)), .int (i3 (x2))] (n := 3) (Nat.le_of_ble_eq_true rfl)
  have hent := lg_entry_eq m [.ref (gA G (0)), .int (i3 (x1)), .int (i3 (x2))] 3
  rw [← hav] at hent
  rw [hent]
  clear hent
  generalize (lg_sl [.ref (gA G (0)), .int (i3 (x1)), .int (i3 (x2))] ++ List.replicate (3 - (lg_sl [.ref (gA G (0)), .int (i3 (x1)), .int (i3 (x2))]).length) Slot.unset).toArray = ls at hl ⊢
  have hl : lv_has ls 3 [(0, .ref (gA G (0))), (1, .int (i3 (x1))), (2, .int (i3 (x2)))] := hl
  unfold fG_sumAgain at hf
  show W p l e ({ frames := 3, cells := 0, slots := 0, locals := 66 } : Room) s m args below meth c s.heap [] 0 0 (MQ below (QcI G M0 r) args s 0 0 (PA G)) (F0 m 0 ls [])
  refine lv_iload_n hx hb dX4_sumAgain_0 rfl (lv_at hl 1 rfl) ?_
  refine k_cSz (As := [.int (i3 (x1))]) (rest := []) ⟨hx, hb, hml, hown, hts⟩ (mG_isBay l G M0 x1 hx1 _ rfl) (va_cwS 1 hts (gbS (inB_4 _ (List.mem_of_getElem? (i := 8) rfl)) (inB_4 _ (List.mem_of_getElem? (i := 9) rfl)) (inB_1 _ (List.mem_of_getElem? (i := 2) rfl)) (inB_4 _ (List.mem_of_getElem? (i := 10) rfl))) rfl rfl rfl (by decide +kernel) ⟨Nat.le_of_ble_eq_true rfl, Nat.le_of_ble_eq_true rfl⟩) hW hS rfl hl.1 rfl (lv_room (Nat.le_of_ble_eq_true rfl)) dX4_sumAgain_1 ⟨Nat.zero_le _, Nat.zero_le _⟩ (fun hv1 H locs hW hS => ?_)
  refine k_if_eq (tgt := 14) hx hb (inR_z hv1) dX4_sumAgain_4 (by decide) (fun hc2 => ?_) (fun hc2 => ?_)
  · rw [if_pos hc2] at hf
    refine k_bipush hx hb dX4_sumAgain_14 (by decide +kernel) ?_
    obtain rfl := some_el hf
    exact k_ret hx hb hr hlocks hW hS rfl (show inR (-11) by decide) dX4_sumAgain_16
  · rw [if_neg hc2] at hf
    refine lv_iload_n hx hb dX4_sumAgain_7 rfl (lv_at hl 2 rfl) ?_
    refine k_cSz (As := [.int (i3 (x2))]) (rest := []) ⟨hx, hb, hml, hown, hts⟩ (mG_isBay l G M0 x2 hx2 _ rfl) (va_cwS 1 hts (gbS (inB_4 _ (List.mem_of_getElem? (i := 8) rfl)) (inB_4 _ (List.mem_of_getElem? (i := 9) rfl)) (inB_1 _ (List.mem_of_getElem? (i := 2) rfl)) (inB_4 _ (List.mem_of_getElem? (i := 10) rfl))) rfl rfl rfl (by decide +kernel) ⟨Nat.le_of_ble_eq_true rfl, Nat.le_of_ble_eq_true rfl⟩) hW hS rfl hl.1 rfl (lv_room (Nat.le_of_ble_eq_true rfl)) dX4_sumAgain_8 ⟨Nat.zero_le _, Nat.zero_le _⟩ (fun hv3 H locs hW hS => ?_)
    refine k_if_ne (tgt := 17) hx hb (inR_z hv3) dX4_sumAgain_11 (by decide) (fun hc4 => ?_) (fun hc4 => ?_)
    · rw [if_neg hc4] at hf
      refine lv_iload_n hx hb dX4_sumAgain_17 rfl (lv_at hl 2 rfl) ?_
      refine lv_iload_n hx hb dX4_sumAgain_18 rfl (lv_at hl 1 rfl) ?_
      refine k_icmp_ge (tgt := 25) hx hb hx2 hx1 dX4_sumAgain_19 (by decide) (fun hc5 => ?_) (fun hc5 => ?_)
      · rw [if_neg hc5] at hf
        refine lv_aload_n hx hb dX4_sumAgain_25 rfl (lv_at hl 0 rfl) ?_
        refine va_get (D := G.1) (ci := 4) (v := .ref (gA G (5 + 0))) (C := RX4) (T := TX4) (N := 10) hx hb hts hinX4 hown hW.K hW.P 0 (he_G G M0) rfl 0 (by decide) (hts _ (List.mem_cons_of_mem _ (inB_1 _ (List.mem_of_getElem? (i := 13) rfl)))) (fun _ h9 => h9) rfl dX4_sumAgain_26 ?_
        refine lv_iload_n hx hb dX4_sumAgain_29 rfl (lv_at hl 1 rfl) ?_
        refine lv_iload_n hx hb dX4_sumAgain_30 rfl (lv_at hl 2 rfl) ?_
        obtain ⟨q6, hq6, hf⟩ := bind_el hf
        refine k_cVi (As := [.int (i3 (x1)), .int (i3 (x2))]) (rest := []) ⟨hx, hb, hml, hown, hts⟩ (mW_sumByBays l G M0 (0) (by decide) x1 hx1 x2 hx2 q6 hq6) (cwV 2 hts (gbV (inB_23 _ (List.mem_of_getElem? (i := 4) rfl)) (inB_8 _ (List.mem_of_getElem? (i := 16) rfl)) (inB_8 _ (List.mem_of_getElem? (i := 17) rfl)) (inB_1 _ (List.mem_of_getElem? (i := 12) rfl)) (inB_8 _ (List.mem_of_getElem? (i := 18) rfl))) rfl rfl rfl (by decide +kernel) ⟨Nat.le_of_ble_eq_true rfl, Nat.le_of_ble_eq_true rfl⟩) (rv_wall (by decide) hW) hW hS rfl hl.1 rfl (lv_room (Nat.le_of_ble_eq_true rfl)) dX4_sumAgain_31 ⟨Nat.zero_le _, Nat.zero_le _⟩ (fun hv7 H locs hW hS => ?_)
        obtain rfl := some_el hf
        exact k_ret hx hb hr hlocks hW hS rfl hv7 dX4_sumAgain_34
      · rw [if_pos hc5] at hf
        refine k_bipush hx hb dX4_sumAgain_22 (by decide +kernel) ?_
        obtain rfl := some_el hf
        exact k_ret hx hb hr hlocks hW hS rfl (show inR (-12) by decide) dX4_sumAgain_24
    · rw [if_pos hc4] at hf
      refine k_bipush hx hb dX4_sumAgain_14 (by decide +kernel) ?_
      obtain rfl := some_el hf
      exact k_ret hx hb hr hlocks hW hS rfl (show inR (-11) by decide) dX4_sumAgain_16
set_option maxHeartbeats 4000000 in
set_option maxRecDepth 100000 in
theorem mG_character (l : Launch) (G : gG) (M0 : MemG) (x1 : Int) (hx1 : inR x1) (r : Int) (hf : fG_character M0 x1 = some r) : Met l yX4_character (wb yX4_character cX4_character 2 (some .int)) ({ frames := 2, cells := 0, slots := 0, locals := 43 } : Room) (PcG G M0 [.ref (gA G (0)), .int (i3 (x1))]) (QcI G M0 r) 0 0 (PA G) := by
  refine Met.ofW (cc := cX4_character) (maxL := 2) (ret := (some .int)) (by decide) rfl ?_
  intro p e s m args below meth c s₁ B hml hv0
  obtain ⟨hav, hW⟩ := hv0
  have hx := B.exec
  have hb := B.bytes
  have hr := B.returns
  have hts := atoms_spec (ws := (wb yX4_character cX4_character 2 (some .int))) B.pre
  have hown : s.vm.findClass RX4 = some m.cls := findClass_of_methodNamed B.named
  have hlocks := B.notSynchronized
  have hinX4 : ∀ w ∈ u_ws RX4 TX4 10, w ∈ (wb yX4_character cX4_character 2 (some .int)) := fun _ h => List.mem_cons_of_mem _ (inlX4 _ h)
  have hW : Wd G M0 s s.heap := hW
  have hS : va_S (PA G) s.heap s.heap [] := va_S.rf
  have hl := lv_entry [.ref (gA G (0)), .int (i3 (x1))] (n := 2) (Nat.le_of_ble_eq_true rfl)
  have hent := lg_entry_eq m [.ref (gA G (0)), .int (i3 (x1))] 2
  rw [← hav] at hent
  rw [hent]
  clear hent
  generalize (lg_sl [.ref (gA G (0)), .int (i3 (x1))] ++ List.replicate (2 - (lg_sl [.ref (gA G (0)), .int (i3 (x1))]).length) Slot.unset).toArray = ls at hl ⊢
  have hl : lv_has ls 2 [(0, .ref (gA G (0))), (1, .int (i3 (x1)))] := hl
  unfold fG_character at hf
  show W p l e ({ frames := 2, cells := 0, slots := 0, locals := 43 } : Room) s m args below meth c s.heap [] 0 0 (MQ below (QcI G M0 r) args s 0 0 (PA G)) (F0 m 0 ls [])
  refine lv_aload_n hx hb dX4_character_0 rfl (lv_at hl 0 rfl) ?_
  refine va_get (D := G.1) (ci := 4) (v := .ref (gA G (3))) (C := RX4) (T := TX4) (N := 10) hx hb hts hinX4 hown hW.K hW.P 0 (he_G G M0) rfl 6 (by decide) (hts _ (List.mem_cons_of_mem _ (inB_2 _ (List.mem_of_getElem? (i := 4) rfl)))) (fun _ h9 => h9) rfl dX4_character_1 ?_
  refine lv_iload_n hx hb dX4_character_4 rfl (lv_at hl 1 rfl) ?_
  obtain ⟨q1, hq1, hf⟩ := bind_el hf
  refine k_cVi (As := [.int (i3 (x1))]) (rest := []) ⟨hx, hb, hml, hown, hts⟩ (mN_codeAt l G M0 x1 hx1 q1 hq1) (cwV 1 hts (gbV (inB_25 _ (List.mem_of_getElem? (i := 23) rfl)) (inB_26 _ (List.mem_of_getElem? (i := 0) rfl)) (inB_26 _ (List.mem_of_getElem? (i := 1) rfl)) (inB_2 _ (List.mem_of_getElem? (i := 3) rfl)) (inB_26 _ (List.mem_of_getElem? (i := 2) rfl))) rfl rfl rfl (by decide +kernel) ⟨Nat.le_of_ble_eq_true rfl, Nat.le_of_ble_eq_true rfl⟩) (rv_N hW) hW hS rfl hl.1 rfl (lv_room (Nat.le_of_ble_eq_true rfl)) dX4_character_5 ⟨Nat.zero_le _, Nat.zero_le _⟩ (fun hv2 H locs hW hS => ?_)
  obtain rfl := some_el hf
  exact k_ret hx hb hr hlocks hW hS rfl hv2 dX4_character_8
set_option maxHeartbeats 4000000 in
set_option maxRecDepth 100000 in
theorem mG_tellRung (l : Launch) (G : gG) (M0 : MemG) (x1 : Int) (hx1 : inR x1) (r : MemG × Int) (hf : fG_tellRung M0 x1 = some r) : Met l yX4_tellRung (wb yX4_tellRung cX4_tellRung 2 (some .int)) ({ frames := 3, cells := 0, slots := 0, locals := 65 } : Room) (PcG G M0 [.ref (gA G (0)), .int (i3 (x1))]) (QcI G r.1 r.2) 0 0 (PA G) := by
  refine Met.ofW (cc := cX4_tellRung) (maxL := 2) (ret := (some .int)) (by decide) rfl ?_
  intro p e s m args below meth c s₁ B hml hv0
  obtain ⟨hav, hW⟩ := hv0
  have hx := B.exec
  have hb := B.bytes
  have hr := B.returns
  have hts := atoms_spec (ws := (wb yX4_tellRung cX4_tellRung 2 (some .int))) B.pre
  have hown : s.vm.findClass RX4 = some m.cls := findClass_of_methodNamed B.named
  have hlocks := B.notSynchronized
  have hinX4 : ∀ w ∈ u_ws RX4 TX4 10, w ∈ (wb yX4_tellRung cX4_tellRung 2 (some .int)) := fun _ h => List.mem_cons_of_mem _ (inlX4 _ h)
  have hW : Wd G M0 s s.heap := hW
  have hS : va_S (PA G) s.heap s.heap [] := va_S.rf
  have hl := lv_entry [.ref (gA G (0)), .int (i3 (x1))] (n := 2) (Nat.le_of_ble_eq_true rfl)
  have hent := lg_entry_eq m [.ref (gA G (0)), .int (i3 (x1))] 2
  rw [← hav] at hent
  rw [hent]
  clear hent
  generalize (lg_sl [.ref (gA G (0)), .int (i3 (x1))] ++ List.replicate (2 - (lg_sl [.ref (gA G (0)), .int (i3 (x1))]).length) Slot.unset).toArray = ls at hl ⊢
  have hl : lv_has ls 2 [(0, .ref (gA G (0))), (1, .int (i3 (x1)))] := hl
  unfold fG_tellRung at hf
  show W p l e ({ frames := 3, cells := 0, slots := 0, locals := 65 } : Room) s m args below meth c s.heap [] 0 0 (MQ below (QcI G r.1 r.2) args s 0 0 (PA G)) (F0 m 0 ls [])
  have J25 : ∀ (M : MemG), fG_tellRung_j108 M = some r →  ∀ (H : Heap) (locs : List Loc) (ls : Array Slot), Wd G M s H → va_S (PA G) s.heap H locs → lv_has ls 2 [(0, .ref (gA G (0)))] → W p l e ({ frames := 3, cells := 0, slots := 0, locals := 65 } : Room) s m args below meth c H locs 0 0 (MQ below (QcI G r.1 r.2) args s 0 0 (PA G)) (F0 m 108 ls []) := by
    intro M hf  H locs ls hW hS hl
    unfold fG_tellRung_j108 at hf
    refine lv_aload_n hx hb dX4_tellRung_108 rfl (lv_at hl 0 rfl) ?_
    refine va_get (D := G.1) (ci := 4) (v := .ref (gA G (3))) (C := RX4) (T := TX4) (N := 10) hx hb hts hinX4 hown hW.K hW.P 0 (he_G G M) rfl 6 (by decide) (hts _ (List.mem_cons_of_mem _ (inB_2 _ (List.mem_of_getElem? (i := 4) rfl)))) (fun _ h9 => h9) rfl dX4_tellRung_109 ?_
    refine k_cVi (As := []) (rest := []) ⟨hx, hb, hml, hown, hts⟩ (mN_size l G M _ rfl) (cwV 0 hts (gbV (inB_25 _ (List.mem_of_getElem? (i := 15) rfl)) (inB_25 _ (List.mem_of_getElem? (i := 16) rfl)) (inB_25 _ (List.mem_of_getElem? (i := 17) rfl)) (inB_2 _ (List.mem_of_getElem? (i := 3) rfl)) (inB_25 _ (List.mem_of_getElem? (i := 18) rfl))) rfl rfl rfl (by decide +kernel) ⟨Nat.le_of_ble_eq_true rfl, Nat.le_of_ble_eq_true rfl⟩) (rv_N hW) hW hS rfl hl.1 rfl (lv_room (Nat.le_of_ble_eq_true rfl)) dX4_tellRung_112 ⟨Nat.zero_le _, Nat.zero_le _⟩ (fun hv26 H locs hW hS => ?_)
    obtain rfl := some_el hf
    exact k_ret hx hb hr hlocks hW hS rfl hv26 dX4_tellRung_115
  refine lv_iload_n hx hb dX4_tellRung_0 rfl (lv_at hl 1 rfl) ?_
  refine k_cSz (As := [.int (i3 (x1))]) (rest := []) ⟨hx, hb, hml, hown, hts⟩ (mG_isRung l G M0 x1 hx1 _ rfl) (va_cwS 1 hts (gbS (inB_10 _ (List.mem_of_getElem? (i := 13) rfl)) (inB_10 _ (List.mem_of_getElem? (i := 14) rfl)) (inB_1 _ (List.mem_of_getElem? (i := 2) rfl)) (inB_10 _ (List.mem_of_getElem? (i := 15) rfl))) rfl rfl rfl (by decide +kernel) ⟨Nat.le_of_ble_eq_true rfl, Nat.le_of_ble_eq_true rfl⟩) hW hS rfl hl.1 rfl (lv_room (Nat.le_of_ble_eq_true rfl)) dX4_tellRung_1 ⟨Nat.zero_le _, Nat.zero_le _⟩ (fun hv1 H locs hW hS => ?_)
  refine k_if_ne (tgt := 10) hx hb (inR_z hv1) dX4_tellRung_4 (by decide) (fun hc2 => ?_) (fun hc2 => ?_)
  · rw [if_neg hc2] at hf
    refine lv_aload_n hx hb dX4_tellRung_10 rfl (lv_at hl 0 rfl) ?_
    refine va_get (D := G.1) (ci := 4) (v := .ref (gA G (3))) (C := RX4) (T := TX4) (N := 10) hx hb hts hinX4 hown hW.K hW.P 0 (he_G G M0) rfl 6 (by decide) (hts _ (List.mem_cons_of_mem _ (inB_2 _ (List.mem_of_getElem? (i := 4) rfl)))) (fun _ h9 => h9) rfl dX4_tellRung_11 ?_
    obtain ⟨m3, hm3, hf⟩ := bind_el hf
    refine k_cVv (As := []) (rest := []) ⟨hx, hb, hml, hown, hts⟩ (mN_becomeEmpty l G M0 m3 hm3) (cwV 0 hts (gbV (inB_25 _ (List.mem_of_getElem? (i := 2) rfl)) (inB_25 _ (List.mem_of_getElem? (i := 3) rfl)) (inB_25 _ (List.mem_of_getElem? (i := 4) rfl)) (inB_2 _ (List.mem_of_getElem? (i := 3) rfl)) (inB_25 _ (List.mem_of_getElem? (i := 5) rfl))) rfl rfl rfl (by decide +kernel) ⟨Nat.le_of_ble_eq_true rfl, Nat.le_of_ble_eq_true rfl⟩) (rv_N hW) hW hS rfl hl.1 rfl (lv_room (Nat.le_of_ble_eq_true rfl)) dX4_tellRung_14 ⟨Nat.zero_le _, Nat.zero_le _⟩ (fun H locs hW hS => ?_)
    refine lv_aload_n hx hb dX4_tellRung_17 rfl (lv_at hl 0 rfl) ?_
    refine va_get (D := G.1) (ci := 4) (v := .ref (gA G (3))) (C := RX4) (T := TX4) (N := 10) hx hb hts hinX4 hown hW.K hW.P 0 (he_G G m3) rfl 6 (by decide) (hts _ (List.mem_cons_of_mem _ (inB_2 _ (List.mem_of_getElem? (i := 4) rfl)))) (fun _ h9 => h9) rfl dX4_tellRung_18 ?_
    refine lv_iload_n hx hb dX4_tellRung_21 rfl (lv_at hl 1 rfl) ?_
    obtain ⟨m5, hm5, hf⟩ := bind_el hf
    refine k_cVv (As := [.int (i3 (x1))]) (rest := []) ⟨hx, hb, hml, hown, hts⟩ (mN_addNumber l G m3 x1 hx1 m5 hm5) (cwV 1 hts (gbV (inB_25 _ (List.mem_of_getElem? (i := 6) rfl)) (inB_25 _ (List.mem_of_getElem? (i := 7) rfl)) (inB_25 _ (List.mem_of_getElem? (i := 8) rfl)) (inB_2 _ (List.mem_of_getElem? (i := 3) rfl)) (inB_25 _ (List.mem_of_getElem? (i := 9) rfl))) rfl rfl rfl (by decide +kernel) ⟨Nat.le_of_ble_eq_true rfl, Nat.le_of_ble_eq_true rfl⟩) (rv_N hW) hW hS rfl hl.1 rfl (lv_room (Nat.le_of_ble_eq_true rfl)) dX4_tellRung_22 ⟨Nat.zero_le _, Nat.zero_le _⟩ (fun H locs hW hS => ?_)
    refine lv_aload_n hx hb dX4_tellRung_25 rfl (lv_at hl 0 rfl) ?_
    refine va_get (D := G.1) (ci := 4) (v := .ref (gA G (3))) (C := RX4) (T := TX4) (N := 10) hx hb hts hinX4 hown hW.K hW.P 0 (he_G G m5) rfl 6 (by decide) (hts _ (List.mem_cons_of_mem _ (inB_2 _ (List.mem_of_getElem? (i := 4) rfl)))) (fun _ h9 => h9) rfl dX4_tellRung_26 ?_
    refine k_bipush hx hb dX4_tellRung_29 (by decide +kernel) ?_
    obtain ⟨m7, hm7, hf⟩ := bind_el hf
    refine k_cVv (As := [.int (i3 (58))]) (rest := []) ⟨hx, hb, hml, hown, hts⟩ (mN_addCode l G m5 58 (show inR (58) by decide) m7 hm7) (cwV 1 hts (gbV (inB_25 _ (List.mem_of_getElem? (i := 14) rfl)) (inB_25 _ (List.mem_of_getElem? (i := 11) rfl)) (inB_25 _ (List.mem_of_getElem? (i := 12) rfl)) (inB_2 _ (List.mem_of_getElem? (i := 3) rfl)) (inB_25 _ (List.mem_of_getElem? (i := 13) rfl))) rfl rfl rfl (by decide +kernel) ⟨Nat.le_of_ble_eq_true rfl, Nat.le_of_ble_eq_true rfl⟩) (rv_N hW) hW hS rfl hl.1 rfl (lv_room (Nat.le_of_ble_eq_true rfl)) dX4_tellRung_31 ⟨Nat.zero_le _, Nat.zero_le _⟩ (fun H locs hW hS => ?_)
    refine lv_aload_n hx hb dX4_tellRung_34 rfl (lv_at hl 0 rfl) ?_
    refine va_get (D := G.1) (ci := 4) (v := .ref (gA G (3))) (C := RX4) (T := TX4) (N := 10) hx hb hts hinX4 hown hW.K hW.P 0 (he_G G m7) rfl 6 (by decide) (hts _ (List.mem_cons_of_mem _ (inB_2 _ (List.mem_of_getElem? (i := 4) rfl)))) (fun _ h9 => h9) rfl dX4_tellRung_35 ?_
    refine lv_iload_n hx hb dX4_tellRung_38 rfl (lv_at hl 1 rfl) ?_
    obtain ⟨q9, hq9, hf⟩ := bind_el hf
    refine k_cSi (As := [.int (i3 (x1))]) (rest := [.ref (gA G (3))]) ⟨hx, hb, hml, hown, hts⟩ (mG_firstBayOf l G m7 x1 hx1 q9 hq9) (va_cwS 1 hts (gbS (inB_10 _ (List.mem_of_getElem? (i := 19) rfl)) (inB_10 _ (List.mem_of_getElem? (i := 20) rfl)) (inB_1 _ (List.mem_of_getElem? (i := 2) rfl)) (inB_10 _ (List.mem_of_getElem? (i := 21) rfl))) rfl rfl rfl (by decide +kernel) ⟨Nat.le_of_ble_eq_true rfl, Nat.le_of_ble_eq_true rfl⟩) hW hS rfl hl.1 rfl (lv_room (Nat.le_of_ble_eq_true rfl)) dX4_tellRung_39 ⟨Nat.zero_le _, Nat.zero_le _⟩ (fun hv10 H locs hW hS => ?_)
    obtain ⟨m11, hm11, hf⟩ := bind_el hf
    refine k_cVv (As := [.int (i3 (q9))]) (rest := []) ⟨hx, hb, hml, hown, hts⟩ (mN_addNumber l G m7 q9 hv10 m11 hm11) (cwV 1 hts (gbV (inB_25 _ (List.mem_of_getElem? (i := 6) rfl)) (inB_25 _ (List.mem_of_getElem? (i := 7) rfl)) (inB_25 _ (List.mem_of_getElem? (i := 8) rfl)) (inB_2 _ (List.mem_of_getElem? (i := 3) rfl)) (inB_25 _ (List.mem_of_getElem? (i := 9) rfl))) rfl rfl rfl (by decide +kernel) ⟨Nat.le_of_ble_eq_true rfl, Nat.le_of_ble_eq_true rfl⟩) (rv_N hW) hW hS rfl hl.1 rfl (lv_room (Nat.le_of_ble_eq_true rfl)) dX4_tellRung_42 ⟨Nat.zero_le _, Nat.zero_le _⟩ (fun H locs hW hS => ?_)
    refine lv_aload_n hx hb dX4_tellRung_45 rfl (lv_at hl 0 rfl) ?_
    refine va_get (D := G.1) (ci := 4) (v := .ref (gA G (3))) (C := RX4) (T := TX4) (N := 10) hx hb hts hinX4 hown hW.K hW.P 0 (he_G G m11) rfl 6 (by decide) (hts _ (List.mem_cons_of_mem _ (inB_2 _ (List.mem_of_getElem? (i := 4) rfl)))) (fun _ h9 => h9) rfl dX4_tellRung_46 ?_
    refine k_bipush hx hb dX4_tellRung_49 (by decide +kernel) ?_
    obtain ⟨m13, hm13, hf⟩ := bind_el hf
    refine k_cVv (As := [.int (i3 (45))]) (rest := []) ⟨hx, hb, hml, hown, hts⟩ (mN_addCode l G m11 45 (show inR (45) by decide) m13 hm13) (cwV 1 hts (gbV (inB_25 _ (List.mem_of_getElem? (i := 14) rfl)) (inB_25 _ (List.mem_of_getElem? (i := 11) rfl)) (inB_25 _ (List.mem_of_getElem? (i := 12) rfl)) (inB_2 _ (List.mem_of_getElem? (i := 3) rfl)) (inB_25 _ (List.mem_of_getElem? (i := 13) rfl))) rfl rfl rfl (by decide +kernel) ⟨Nat.le_of_ble_eq_true rfl, Nat.le_of_ble_eq_true rfl⟩) (rv_N hW) hW hS rfl hl.1 rfl (lv_room (Nat.le_of_ble_eq_true rfl)) dX4_tellRung_51 ⟨Nat.zero_le _, Nat.zero_le _⟩ (fun H locs hW hS => ?_)
    refine lv_aload_n hx hb dX4_tellRung_54 rfl (lv_at hl 0 rfl) ?_
    refine va_get (D := G.1) (ci := 4) (v := .ref (gA G (3))) (C := RX4) (T := TX4) (N := 10) hx hb hts hinX4 hown hW.K hW.P 0 (he_G G m13) rfl 6 (by decide) (hts _ (List.mem_cons_of_mem _ (inB_2 _ (List.mem_of_getElem? (i := 4) rfl)))) (fun _ h9 => h9) rfl dX4_tellRung_55 ?_
    refine lv_iload_n hx hb dX4_tellRung_58 rfl (lv_at hl 1 rfl) ?_
    refine k_const hx hb dX4_tellRung_59 ?_
    refine k_sub hx hb dX4_tellRung_60 ?_
    obtain ⟨hg15, hf⟩ := gd_el hf
    obtain ⟨m16, hm16, hf⟩ := bind_el hf
    refine k_cVv (As := [.int (i3 (x1 - 1))]) (rest := []) ⟨hx, hb, hml, hown, hts⟩ (mN_addNumber l G m13 (x1 - 1) hg15 m16 hm16) (cwV 1 hts (gbV (inB_25 _ (List.mem_of_getElem? (i := 6) rfl)) (inB_25 _ (List.mem_of_getElem? (i := 7) rfl)) (inB_25 _ (List.mem_of_getElem? (i := 8) rfl)) (inB_2 _ (List.mem_of_getElem? (i := 3) rfl)) (inB_25 _ (List.mem_of_getElem? (i := 9) rfl))) rfl rfl rfl (by decide +kernel) ⟨Nat.le_of_ble_eq_true rfl, Nat.le_of_ble_eq_true rfl⟩) (rv_N hW) hW hS rfl hl.1 rfl (lv_room (Nat.le_of_ble_eq_true rfl)) dX4_tellRung_61 ⟨Nat.zero_le _, Nat.zero_le _⟩ (fun H locs hW hS => ?_)
    refine lv_aload_n hx hb dX4_tellRung_64 rfl (lv_at hl 0 rfl) ?_
    refine va_get (D := G.1) (ci := 4) (v := .ref (gA G (3))) (C := RX4) (T := TX4) (N := 10) hx hb hts hinX4 hown hW.K hW.P 0 (he_G G m16) rfl 6 (by decide) (hts _ (List.mem_cons_of_mem _ (inB_2 _ (List.mem_of_getElem? (i := 4) rfl)))) (fun _ h9 => h9) rfl dX4_tellRung_65 ?_
    refine k_bipush hx hb dX4_tellRung_68 (by decide +kernel) ?_
    obtain ⟨m18, hm18, hf⟩ := bind_el hf
    refine k_cVv (As := [.int (i3 (61))]) (rest := []) ⟨hx, hb, hml, hown, hts⟩ (mN_addCode l G m16 61 (show inR (61) by decide) m18 hm18) (cwV 1 hts (gbV (inB_25 _ (List.mem_of_getElem? (i := 14) rfl)) (inB_25 _ (List.mem_of_getElem? (i := 11) rfl)) (inB_25 _ (List.mem_of_getElem? (i := 12) rfl)) (inB_2 _ (List.mem_of_getElem? (i := 3) rfl)) (inB_25 _ (List.mem_of_getElem? (i := 13) rfl))) rfl rfl rfl (by decide +kernel) ⟨Nat.le_of_ble_eq_true rfl, Nat.le_of_ble_eq_true rfl⟩) (rv_N hW) hW hS rfl hl.1 rfl (lv_room (Nat.le_of_ble_eq_true rfl)) dX4_tellRung_70 ⟨Nat.zero_le _, Nat.zero_le _⟩ (fun H locs hW hS => ?_)
    refine lv_aload_n hx hb dX4_tellRung_73 rfl (lv_at hl 0 rfl) ?_
    refine va_get (D := G.1) (ci := 4) (v := .ref (gA G (3))) (C := RX4) (T := TX4) (N := 10) hx hb hts hinX4 hown hW.K hW.P 0 (he_G G m18) rfl 6 (by decide) (hts _ (List.mem_cons_of_mem _ (inB_2 _ (List.mem_of_getElem? (i := 4) rfl)))) (fun _ h9 => h9) rfl dX4_tellRung_74 ?_
    refine lv_aload_n hx hb dX4_tellRung_77 rfl (lv_at hl 0 rfl) ?_
    refine va_get (D := G.1) (ci := 4) (v := .ref (gA G (5 + 0))) (C := RX4) (T := TX4) (N := 10) hx hb hts hinX4 hown hW.K hW.P 0 (he_G G m18) rfl 0 (by decide) (hts _ (List.mem_cons_of_mem _ (inB_1 _ (List.mem_of_getElem? (i := 13) rfl)))) (fun _ h9 => h9) rfl dX4_tellRung_78 ?_
    refine lv_iload_n hx hb dX4_tellRung_81 rfl (lv_at hl 1 rfl) ?_
    refine k_cVi (As := [.int (i3 (x1))]) (rest := [.ref (gA G (3))]) ⟨hx, hb, hml, hown, hts⟩ (mW_sumOf l G m18 (0) (by decide) x1 hx1 _ rfl) (cwV 1 hts (gbV (inB_10 _ (List.mem_of_getElem? (i := 16) rfl)) (inB_7 _ (List.mem_of_getElem? (i := 0) rfl)) (inB_7 _ (List.mem_of_getElem? (i := 1) rfl)) (inB_1 _ (List.mem_of_getElem? (i := 12) rfl)) (inB_7 _ (List.mem_of_getElem? (i := 2) rfl))) rfl rfl rfl (by decide +kernel) ⟨Nat.le_of_ble_eq_true rfl, Nat.le_of_ble_eq_true rfl⟩) (rv_wall (by decide) hW) hW hS rfl hl.1 rfl (lv_room (Nat.le_of_ble_eq_true rfl)) dX4_tellRung_82 ⟨Nat.zero_le _, Nat.zero_le _⟩ (fun hv20 H locs hW hS => ?_)
    obtain ⟨m21, hm21, hf⟩ := bind_el hf
    refine k_cVv (As := [.int (i3 ((fW_sumOf m18 0 x1)))]) (rest := []) ⟨hx, hb, hml, hown, hts⟩ (mN_addNumber l G m18 ((fW_sumOf m18 0 x1)) hv20 m21 hm21) (cwV 1 hts (gbV (inB_25 _ (List.mem_of_getElem? (i := 6) rfl)) (inB_25 _ (List.mem_of_getElem? (i := 7) rfl)) (inB_25 _ (List.mem_of_getElem? (i := 8) rfl)) (inB_2 _ (List.mem_of_getElem? (i := 3) rfl)) (inB_25 _ (List.mem_of_getElem? (i := 9) rfl))) rfl rfl rfl (by decide +kernel) ⟨Nat.le_of_ble_eq_true rfl, Nat.le_of_ble_eq_true rfl⟩) (rv_N hW) hW hS rfl hl.1 rfl (lv_room (Nat.le_of_ble_eq_true rfl)) dX4_tellRung_85 ⟨Nat.zero_le _, Nat.zero_le _⟩ (fun H locs hW hS => ?_)
    refine lv_aload_n hx hb dX4_tellRung_88 rfl (lv_at hl 0 rfl) ?_
    refine va_get (D := G.1) (ci := 4) (v := .ref (gA G (5 + 0))) (C := RX4) (T := TX4) (N := 10) hx hb hts hinX4 hown hW.K hW.P 0 (he_G G m21) rfl 0 (by decide) (hts _ (List.mem_cons_of_mem _ (inB_1 _ (List.mem_of_getElem? (i := 13) rfl)))) (fun _ h9 => h9) rfl dX4_tellRung_89 ?_
    refine lv_iload_n hx hb dX4_tellRung_92 rfl (lv_at hl 1 rfl) ?_
    refine k_cVz (As := [.int (i3 (x1))]) (rest := []) ⟨hx, hb, hml, hown, hts⟩ (mW_isCracked l G m21 (0) (by decide) x1 hx1 _ rfl) (cwV 1 hts (gbV (inB_10 _ (List.mem_of_getElem? (i := 18) rfl)) (inB_6 _ (List.mem_of_getElem? (i := 20) rfl)) (inB_6 _ (List.mem_of_getElem? (i := 21) rfl)) (inB_1 _ (List.mem_of_getElem? (i := 12) rfl)) (inB_6 _ (List.mem_of_getElem? (i := 22) rfl))) rfl rfl rfl (by decide +kernel) ⟨Nat.le_of_ble_eq_true rfl, Nat.le_of_ble_eq_true rfl⟩) (rv_wall (by decide) hW) hW hS rfl hl.1 rfl (lv_room (Nat.le_of_ble_eq_true rfl)) dX4_tellRung_93 ⟨Nat.zero_le _, Nat.zero_le _⟩ (fun hv23 H locs hW hS => ?_)
    refine k_if_eq (tgt := 108) hx hb (inR_z hv23) dX4_tellRung_96 (by decide) (fun hc24 => ?_) (fun hc24 => ?_)
    · rw [if_pos hc24] at hf
      exact J25 (m21) hf  _ _ _ hW hS (lv_sub hl [0] rfl)
    · rw [if_neg hc24] at hf
      refine lv_aload_n hx hb dX4_tellRung_99 rfl (lv_at hl 0 rfl) ?_
      refine va_get (D := G.1) (ci := 4) (v := .ref (gA G (3))) (C := RX4) (T := TX4) (N := 10) hx hb hts hinX4 hown hW.K hW.P 0 (he_G G m21) rfl 6 (by decide) (hts _ (List.mem_cons_of_mem _ (inB_2 _ (List.mem_of_getElem? (i := 4) rfl)))) (fun _ h9 => h9) rfl dX4_tellRung_100 ?_
      refine k_bipush hx hb dX4_tellRung_103 (by decide +kernel) ?_
      obtain ⟨m27, hm27, hf⟩ := bind_el hf
      refine k_cVv (As := [.int (i3 (33))]) (rest := []) ⟨hx, hb, hml, hown, hts⟩ (mN_addCode l G m21 33 (show inR (33) by decide) m27 hm27) (cwV 1 hts (gbV (inB_25 _ (List.mem_of_getElem? (i := 14) rfl)) (inB_25 _ (List.mem_of_getElem? (i := 11) rfl)) (inB_25 _ (List.mem_of_getElem? (i := 12) rfl)) (inB_2 _ (List.mem_of_getElem? (i := 3) rfl)) (inB_25 _ (List.mem_of_getElem? (i := 13) rfl))) rfl rfl rfl (by decide +kernel) ⟨Nat.le_of_ble_eq_true rfl, Nat.le_of_ble_eq_true rfl⟩) (rv_N hW) hW hS rfl hl.1 rfl (lv_room (Nat.le_of_ble_eq_true rfl)) dX4_tellRung_105 ⟨Nat.zero_le _, Nat.zero_le _⟩ (fun H locs hW hS => ?_)
      exact J25 (m27) hf  _ _ _ hW hS (lv_sub hl [0] rfl)
  · rw [if_pos hc2] at hf
    refine k_bipush hx hb dX4_tellRung_7 (by decide +kernel) ?_
    obtain rfl := some_el hf
    exact k_ret hx hb hr hlocks hW hS rfl (show inR (-11) by decide) dX4_tellRung_9
set_option maxHeartbeats 4000000 in
set_option maxRecDepth 100000 in
theorem mG_isBalanced (l : Launch) (G : gG) (M0 : MemG)  (r : Int) (hf : fG_isBalanced M0 = some r) : Met l yX4_isBalanced (wb yX4_isBalanced cX4_isBalanced 2 (some .int)) ({ frames := 4, cells := 0, slots := 0, locals := 86 } : Room) (PcG G M0 [.ref (gA G (0))]) (QcI G M0 r) 0 0 (PA G) := by
  refine Met.ofW (cc := cX4_isBalanced) (maxL := 2) (ret := (some .int)) (by decide) rfl ?_
  intro p e s m args below meth c s₁ B hml hv0
  obtain ⟨hav, hW⟩ := hv0
  have hx := B.exec
  have hb := B.bytes
  have hr := B.returns
  have hts := atoms_spec (ws := (wb yX4_isBalanced cX4_isBalanced 2 (some .int))) B.pre
  have hown : s.vm.findClass RX4 = some m.cls := findClass_of_methodNamed B.named
  have hlocks := B.notSynchronized
  have hinX4 : ∀ w ∈ u_ws RX4 TX4 10, w ∈ (wb yX4_isBalanced cX4_isBalanced 2 (some .int)) := fun _ h => List.mem_cons_of_mem _ (inlX4 _ h)
  have hW : Wd G M0 s s.heap := hW
  have hS : va_S (PA G) s.heap s.heap [] := va_S.rf
  have hl := lv_entry [.ref (gA G (0))] (n := 2) (Nat.le_of_ble_eq_true rfl)
  have hent := lg_entry_eq m [.ref (gA G (0))] 2
  rw [← hav] at hent
  rw [hent]
  clear hent
  generalize (lg_sl [.ref (gA G (0))] ++ List.replicate (2 - (lg_sl [.ref (gA G (0))]).length) Slot.unset).toArray = ls at hl ⊢
  have hl : lv_has ls 2 [(0, .ref (gA G (0)))] := hl
  unfold fG_isBalanced at hf
  show W p l e ({ frames := 4, cells := 0, slots := 0, locals := 86 } : Room) s m args below meth c s.heap [] 0 0 (MQ below (QcI G M0 r) args s 0 0 (PA G)) (F0 m 0 ls [])
  have L10 : ∀ (z : (Int)) (q : (Unit ⊕ (Int))), loopN (fG_isBalanced_l2 M0) 200 z = some q → (match q with | .inl w => (∀ (H : Heap) (locs : List Loc) (ls : Array Slot), Wd G (M0) s H → va_S (PA G) s.heap H locs → lv_has ls 2 [(0, .ref (gA G (0)))] → W p l e ({ frames := 4, cells := 0, slots := 0, locals := 86 } : Room) s m args below meth c H locs 0 0 (MQ below (QcI G M0 r) args s 0 0 (PA G)) (F0 m 41 ls [])) | .inr w => w = r) → (inR (z) → ∀ (H : Heap) (locs : List Loc) (ls : Array Slot), Wd G (M0) s H → va_S (PA G) s.heap H locs → lv_has ls 2 [(0, .ref (gA G (0))), (1, .int (i3 (z)))] → W p l e ({ frames := 4, cells := 0, slots := 0, locals := 86 } : Room) s m args below meth c H locs 0 0 (MQ below (QcI G M0 r) args s 0 0 (PA G)) (F0 m 2 ls [])) := by
    intro z q hq hex
    refine loop_rule (fG_isBalanced_l2 M0) (fun z => inR (z) → ∀ (H : Heap) (locs : List Loc) (ls : Array Slot), Wd G (M0) s H → va_S (PA G) s.heap H locs → lv_has ls 2 [(0, .ref (gA G (0))), (1, .int (i3 (z)))] → W p l e ({ frames := 4, cells := 0, slots := 0, locals := 86 } : Room) s m args below meth c H locs 0 0 (MQ below (QcI G M0 r) args s 0 0 (PA G)) (F0 m 2 ls [])) (fun q => (match q with | .inl w => (∀ (H : Heap) (locs : List Loc) (ls : Array Slot), Wd G (M0) s H → va_S (PA G) s.heap H locs → lv_has ls 2 [(0, .ref (gA G (0)))] → W p l e ({ frames := 4, cells := 0, slots := 0, locals := 86 } : Room) s m args below meth c H locs 0 0 (MQ below (QcI G M0 r) args s 0 0 (PA G)) (F0 m 41 ls [])) | .inr w => w = r)) ?_ 200 z q hq hex
    clear hq hex q z
    intro z x hf hK hz1 H locs ls hW hS hl
    unfold fG_isBalanced_l2 at hf
    refine lv_iload_n hx hb dX4_isBalanced_2 rfl (lv_at hl 1 rfl) ?_
    refine k_bipush hx hb dX4_isBalanced_3 (by decide +kernel) ?_
    refine k_icmp_gt (tgt := 41) hx hb hz1 (show inR (32) by decide) dX4_isBalanced_5 (by decide) (fun hc1 => ?_) (fun hc1 => ?_)
    · rw [if_pos hc1] at hf
      obtain rfl := some_el hf
      exact hK  _ _ _ hW hS (lv_sub hl [0] rfl)
    · rw [if_neg hc1] at hf
      refine lv_aload_n hx hb dX4_isBalanced_8 rfl (lv_at hl 0 rfl) ?_
      refine va_get (D := G.1) (ci := 4) (v := .ref (gA G (5 + 0))) (C := RX4) (T := TX4) (N := 10) hx hb hts hinX4 hown hW.K hW.P 0 (he_G G M0) rfl 0 (by decide) (hts _ (List.mem_cons_of_mem _ (inB_1 _ (List.mem_of_getElem? (i := 13) rfl)))) (fun _ h9 => h9) rfl dX4_isBalanced_9 ?_
      refine lv_iload_n hx hb dX4_isBalanced_12 rfl (lv_at hl 1 rfl) ?_
      refine k_cVi (As := [.int (i3 (z))]) (rest := []) ⟨hx, hb, hml, hown, hts⟩ (mW_sumOf l G M0 (0) (by decide) z hz1 _ rfl) (cwV 1 hts (gbV (inB_10 _ (List.mem_of_getElem? (i := 16) rfl)) (inB_7 _ (List.mem_of_getElem? (i := 0) rfl)) (inB_7 _ (List.mem_of_getElem? (i := 1) rfl)) (inB_1 _ (List.mem_of_getElem? (i := 12) rfl)) (inB_7 _ (List.mem_of_getElem? (i := 2) rfl))) rfl rfl rfl (by decide +kernel) ⟨Nat.le_of_ble_eq_true rfl, Nat.le_of_ble_eq_true rfl⟩) (rv_wall (by decide) hW) hW hS rfl hl.1 rfl (lv_room (Nat.le_of_ble_eq_true rfl)) dX4_isBalanced_13 ⟨Nat.zero_le _, Nat.zero_le _⟩ (fun hv2 H locs hW hS => ?_)
      refine lv_aload_n hx hb dX4_isBalanced_16 rfl (lv_at hl 0 rfl) ?_
      refine va_get (D := G.1) (ci := 4) (v := .ref (gA G (5 + 0))) (C := RX4) (T := TX4) (N := 10) hx hb hts hinX4 hown hW.K hW.P 0 (he_G G M0) rfl 0 (by decide) (hts _ (List.mem_cons_of_mem _ (inB_1 _ (List.mem_of_getElem? (i := 13) rfl)))) (fun _ h9 => h9) rfl dX4_isBalanced_17 ?_
      refine lv_iload_n hx hb dX4_isBalanced_20 rfl (lv_at hl 1 rfl) ?_
      obtain ⟨q3, hq3, hf⟩ := bind_el hf
      refine k_cSi (As := [.int (i3 (z))]) (rest := [.ref (gA G (5 + 0)), .int (i3 ((fW_sumOf M0 0 z)))]) ⟨hx, hb, hml, hown, hts⟩ (mG_firstBayOf l G M0 z hz1 q3 hq3) (va_cwS 1 hts (gbS (inB_10 _ (List.mem_of_getElem? (i := 19) rfl)) (inB_10 _ (List.mem_of_getElem? (i := 20) rfl)) (inB_1 _ (List.mem_of_getElem? (i := 2) rfl)) (inB_10 _ (List.mem_of_getElem? (i := 21) rfl))) rfl rfl rfl (by decide +kernel) ⟨Nat.le_of_ble_eq_true rfl, Nat.le_of_ble_eq_true rfl⟩) hW hS rfl hl.1 rfl (lv_room (Nat.le_of_ble_eq_true rfl)) dX4_isBalanced_21 ⟨Nat.zero_le _, Nat.zero_le _⟩ (fun hv4 H locs hW hS => ?_)
      refine lv_iload_n hx hb dX4_isBalanced_24 rfl (lv_at hl 1 rfl) ?_
      refine k_const hx hb dX4_isBalanced_25 ?_
      refine k_sub hx hb dX4_isBalanced_26 ?_
      obtain ⟨hg5, hf⟩ := gd_el hf
      obtain ⟨q6, hq6, hf⟩ := bind_el hf
      refine k_cVi (As := [.int (i3 (q3)), .int (i3 (z - 1))]) (rest := [.int (i3 ((fW_sumOf M0 0 z)))]) ⟨hx, hb, hml, hown, hts⟩ (mW_sumByBays l G M0 (0) (by decide) q3 hv4 (z - 1) hg5 q6 hq6) (cwV 2 hts (gbV (inB_23 _ (List.mem_of_getElem? (i := 4) rfl)) (inB_8 _ (List.mem_of_getElem? (i := 16) rfl)) (inB_8 _ (List.mem_of_getElem? (i := 17) rfl)) (inB_1 _ (List.mem_of_getElem? (i := 12) rfl)) (inB_8 _ (List.mem_of_getElem? (i := 18) rfl))) rfl rfl rfl (by decide +kernel) ⟨Nat.le_of_ble_eq_true rfl, Nat.le_of_ble_eq_true rfl⟩) (rv_wall (by decide) hW) hW hS rfl hl.1 rfl (lv_room (Nat.le_of_ble_eq_true rfl)) dX4_isBalanced_27 ⟨Nat.zero_le _, Nat.zero_le _⟩ (fun hv7 H locs hW hS => ?_)
      refine k_icmp_eq (tgt := 35) hx hb hv2 hv7 dX4_isBalanced_30 (by decide) (fun hc8 => ?_) (fun hc8 => ?_)
      · rw [if_pos hc8] at hf
        obtain ⟨hg9, hf⟩ := gd_el hf
        refine k_iinc (lv' := [(1, .int (i3 (z + 1))), (0, .ref (gA G (0)))]) hx hb dX4_isBalanced_35 hl (k := 1) rfl (by decide) rfl (fun ls hl => ?_)
        refine lv_goto (tgt := 2) hx hb dX4_isBalanced_38 (by decide) ?_
        obtain rfl := some_el hf
        exact hK hg9 _ _ _ hW hS (lv_sub hl [1, 0] rfl)
      · rw [if_neg hc8] at hf
        refine k_const hx hb dX4_isBalanced_33 ?_
        obtain rfl := some_el hf
        obtain rfl : 0 = r := hK
        exact k_ret hx hb hr hlocks hW hS rfl (show inR (0) by decide) dX4_isBalanced_34
  refine k_const hx hb dX4_isBalanced_0 ?_
  refine lv_istore_n (lv' := [(1, .int (i3 (1))), (0, .ref (gA G (0)))]) hx hb dX4_isBalanced_1 rfl hl (by decide) rfl (fun ls hl => ?_)
  obtain ⟨q11, hq11, hf⟩ := bind_el hf
  refine L10  (1) q11 hq11 ?_ (show inR (1) by decide) _ _ _ hW hS (lv_sub hl [1, 0] rfl)
  clear hq11
  rcases q11 with w12 | w13
  · dsimp only at hf
    intro  H locs ls hW hS hl
    refine lv_aload_n hx hb dX4_isBalanced_41 rfl (lv_at hl 0 rfl) ?_
    refine va_get (D := G.1) (ci := 4) (v := .ref (gA G (5 + 0))) (C := RX4) (T := TX4) (N := 10) hx hb hts hinX4 hown hW.K hW.P 0 (he_G G M0) rfl 0 (by decide) (hts _ (List.mem_cons_of_mem _ (inB_1 _ (List.mem_of_getElem? (i := 13) rfl)))) (fun _ h9 => h9) rfl dX4_isBalanced_42 ?_
    refine k_bipush hx hb dX4_isBalanced_45 (by decide +kernel) ?_
    refine k_cVi (As := [.int (i3 (9))]) (rest := []) ⟨hx, hb, hml, hown, hts⟩ (mW_counted l G M0 (0) (by decide) 9 (show inR (9) by decide) _ rfl) (cwV 1 hts (gbV (inB_9 _ (List.mem_of_getElem? (i := 13) rfl)) (inB_9 _ (List.mem_of_getElem? (i := 14) rfl)) (inB_9 _ (List.mem_of_getElem? (i := 15) rfl)) (inB_1 _ (List.mem_of_getElem? (i := 12) rfl)) (inB_9 _ (List.mem_of_getElem? (i := 16) rfl))) rfl rfl rfl (by decide +kernel) ⟨Nat.le_of_ble_eq_true rfl, Nat.le_of_ble_eq_true rfl⟩) (rv_wall (by decide) hW) hW hS rfl hl.1 rfl (lv_room (Nat.le_of_ble_eq_true rfl)) dX4_isBalanced_47 ⟨Nat.zero_le _, Nat.zero_le _⟩ (fun hv14 H locs hW hS => ?_)
    refine lv_aload_n hx hb dX4_isBalanced_50 rfl (lv_at hl 0 rfl) ?_
    refine va_get (D := G.1) (ci := 4) (v := .ref (gA G (5 + 0))) (C := RX4) (T := TX4) (N := 10) hx hb hts hinX4 hown hW.K hW.P 0 (he_G G M0) rfl 0 (by decide) (hts _ (List.mem_cons_of_mem _ (inB_1 _ (List.mem_of_getElem? (i := 13) rfl)))) (fun _ h9 => h9) rfl dX4_isBalanced_51 ?_
    refine k_bipush hx hb dX4_isBalanced_54 (by decide +kernel) ?_
    refine k_cVi (As := [.int (i3 (10))]) (rest := [.int (i3 ((fW_counted M0 0 9)))]) ⟨hx, hb, hml, hown, hts⟩ (mW_counted l G M0 (0) (by decide) 10 (show inR (10) by decide) _ rfl) (cwV 1 hts (gbV (inB_9 _ (List.mem_of_getElem? (i := 13) rfl)) (inB_9 _ (List.mem_of_getElem? (i := 14) rfl)) (inB_9 _ (List.mem_of_getElem? (i := 15) rfl)) (inB_1 _ (List.mem_of_getElem? (i := 12) rfl)) (inB_9 _ (List.mem_of_getElem? (i := 16) rfl))) rfl rfl rfl (by decide +kernel) ⟨Nat.le_of_ble_eq_true rfl, Nat.le_of_ble_eq_true rfl⟩) (rv_wall (by decide) hW) hW hS rfl hl.1 rfl (lv_room (Nat.le_of_ble_eq_true rfl)) dX4_isBalanced_56 ⟨Nat.zero_le _, Nat.zero_le _⟩ (fun hv15 H locs hW hS => ?_)
    refine k_add hx hb dX4_isBalanced_59 ?_
    refine lv_aload_n hx hb dX4_isBalanced_60 rfl (lv_at hl 0 rfl) ?_
    refine va_get (D := G.1) (ci := 4) (v := .ref (gA G (5 + 0))) (C := RX4) (T := TX4) (N := 10) hx hb hts hinX4 hown hW.K hW.P 0 (he_G G M0) rfl 0 (by decide) (hts _ (List.mem_cons_of_mem _ (inB_1 _ (List.mem_of_getElem? (i := 13) rfl)))) (fun _ h9 => h9) rfl dX4_isBalanced_61 ?_
    refine k_bipush hx hb dX4_isBalanced_64 (by decide +kernel) ?_
    refine k_cVi (As := [.int (i3 (11))]) (rest := [.int (i3 (((fW_counted M0 0 9)) + ((fW_counted M0 0 10))))]) ⟨hx, hb, hml, hown, hts⟩ (mW_counted l G M0 (0) (by decide) 11 (show inR (11) by decide) _ rfl) (cwV 1 hts (gbV (inB_9 _ (List.mem_of_getElem? (i := 13) rfl)) (inB_9 _ (List.mem_of_getElem? (i := 14) rfl)) (inB_9 _ (List.mem_of_getElem? (i := 15) rfl)) (inB_1 _ (List.mem_of_getElem? (i := 12) rfl)) (inB_9 _ (List.mem_of_getElem? (i := 16) rfl))) rfl rfl rfl (by decide +kernel) ⟨Nat.le_of_ble_eq_true rfl, Nat.le_of_ble_eq_true rfl⟩) (rv_wall (by decide) hW) hW hS rfl hl.1 rfl (lv_room (Nat.le_of_ble_eq_true rfl)) dX4_isBalanced_66 ⟨Nat.zero_le _, Nat.zero_le _⟩ (fun hv16 H locs hW hS => ?_)
    refine k_add hx hb dX4_isBalanced_69 ?_
    obtain ⟨hg17, hf⟩ := gd_el hf
    refine lv_istore_n (lv' := [(1, .int (i3 ((((fW_counted M0 0 9)) + ((fW_counted M0 0 10))) + ((fW_counted M0 0 11))))), (0, .ref (gA G (0)))]) hx hb dX4_isBalanced_70 rfl hl (by decide) rfl (fun ls hl => ?_)
    refine lv_aload_n hx hb dX4_isBalanced_71 rfl (lv_at hl 1 rfl) ?_
    refine va_get (D := G.1) (ci := 4) (v := .ref (gA G (5 + 0))) (C := RX4) (T := TX4) (N := 10) hx hb hts hinX4 hown hW.K hW.P 0 (he_G G M0) rfl 0 (by decide) (hts _ (List.mem_cons_of_mem _ (inB_1 _ (List.mem_of_getElem? (i := 13) rfl)))) (fun _ h9 => h9) rfl dX4_isBalanced_72 ?_
    obtain ⟨q18, hq18, hf⟩ := bind_el hf
    refine k_cVi (As := []) (rest := []) ⟨hx, hb, hml, hown, hts⟩ (mW_allSacks l G M0 (0) (by decide) q18 hq18) (cwV 0 hts (gbV (inB_8 _ (List.mem_of_getElem? (i := 11) rfl)) (inB_8 _ (List.mem_of_getElem? (i := 12) rfl)) (inB_8 _ (List.mem_of_getElem? (i := 13) rfl)) (inB_1 _ (List.mem_of_getElem? (i := 12) rfl)) (inB_8 _ (List.mem_of_getElem? (i := 14) rfl))) rfl rfl rfl (by decide +kernel) ⟨Nat.le_of_ble_eq_true rfl, Nat.le_of_ble_eq_true rfl⟩) (rv_wall (by decide) hW) hW hS rfl hl.1 rfl (lv_room (Nat.le_of_ble_eq_true rfl)) dX4_isBalanced_75 ⟨Nat.zero_le _, Nat.zero_le _⟩ (fun hv19 H locs hW hS => ?_)
    refine lv_aload_n hx hb dX4_isBalanced_78 rfl (lv_at hl 1 rfl) ?_
    refine va_get (D := G.1) (ci := 4) (v := .ref (gA G (5 + 0))) (C := RX4) (T := TX4) (N := 10) hx hb hts hinX4 hown hW.K hW.P 0 (he_G G M0) rfl 0 (by decide) (hts _ (List.mem_cons_of_mem _ (inB_1 _ (List.mem_of_getElem? (i := 13) rfl)))) (fun _ h9 => h9) rfl dX4_isBalanced_79 ?_
    refine k_bipush hx hb dX4_isBalanced_82 (by decide +kernel) ?_
    refine k_cVi (As := [.int (i3 (8))]) (rest := [.int (i3 (q18))]) ⟨hx, hb, hml, hown, hts⟩ (mW_counted l G M0 (0) (by decide) 8 (show inR (8) by decide) _ rfl) (cwV 1 hts (gbV (inB_9 _ (List.mem_of_getElem? (i := 13) rfl)) (inB_9 _ (List.mem_of_getElem? (i := 14) rfl)) (inB_9 _ (List.mem_of_getElem? (i := 15) rfl)) (inB_1 _ (List.mem_of_getElem? (i := 12) rfl)) (inB_9 _ (List.mem_of_getElem? (i := 16) rfl))) rfl rfl rfl (by decide +kernel) ⟨Nat.le_of_ble_eq_true rfl, Nat.le_of_ble_eq_true rfl⟩) (rv_wall (by decide) hW) hW hS rfl hl.1 rfl (lv_room (Nat.le_of_ble_eq_true rfl)) dX4_isBalanced_84 ⟨Nat.zero_le _, Nat.zero_le _⟩ (fun hv20 H locs hW hS => ?_)
    refine lv_iload_n hx hb dX4_isBalanced_87 rfl (lv_at hl 0 rfl) ?_
    refine k_sub hx hb dX4_isBalanced_88 ?_
    obtain ⟨hg21, hf⟩ := gd_el hf
    refine k_icmp_ne (tgt := 96) hx hb hv19 hg21 dX4_isBalanced_89 (by decide) (fun hc22 => ?_) (fun hc22 => ?_)
    · rw [if_neg hc22] at hf
      refine k_const hx hb dX4_isBalanced_96 ?_
      obtain rfl := some_el hf
      exact k_ret hx hb hr hlocks hW hS rfl (show inR (0) by decide) dX4_isBalanced_97
    · rw [if_pos hc22] at hf
      refine k_const hx hb dX4_isBalanced_92 ?_
      refine lv_goto (tgt := 97) hx hb dX4_isBalanced_93 (by decide) ?_
      obtain rfl := some_el hf
      exact k_ret hx hb hr hlocks hW hS rfl (show inR (1) by decide) dX4_isBalanced_97
  · dsimp only at hf
    exact some_el hf
set_option maxHeartbeats 4000000 in
set_option maxRecDepth 100000 in
theorem mG_meanSacks (l : Launch) (G : gG) (M0 : MemG)  (r : UInt64) (hf : fG_meanSacks M0 = some r) : Met l yX4_meanSacks (wb yX4_meanSacks cX4_meanSacks 2 (some .double)) ({ frames := 4, cells := 0, slots := 0, locals := 86 } : Room) (PcG G M0 [.ref (gA G (0))]) (QcD G M0 r) 0 0 (PA G) := by
  refine Met.ofW (cc := cX4_meanSacks) (maxL := 2) (ret := (some .double)) (by decide) rfl ?_
  intro p e s m args below meth c s₁ B hml hv0
  obtain ⟨hav, hW⟩ := hv0
  have hx := B.exec
  have hb := B.bytes
  have hr := B.returns
  have hts := atoms_spec (ws := (wb yX4_meanSacks cX4_meanSacks 2 (some .double))) B.pre
  have hown : s.vm.findClass RX4 = some m.cls := findClass_of_methodNamed B.named
  have hlocks := B.notSynchronized
  have hinX4 : ∀ w ∈ u_ws RX4 TX4 10, w ∈ (wb yX4_meanSacks cX4_meanSacks 2 (some .double)) := fun _ h => List.mem_cons_of_mem _ (inlX4 _ h)
  have hW : Wd G M0 s s.heap := hW
  have hS : va_S (PA G) s.heap s.heap [] := va_S.rf
  have hl := lv_entry [.ref (gA G (0))] (n := 2) (Nat.le_of_ble_eq_true rfl)
  have hent := lg_entry_eq m [.ref (gA G (0))] 2
  rw [← hav] at hent
  rw [hent]
  clear hent
  generalize (lg_sl [.ref (gA G (0))] ++ List.replicate (2 - (lg_sl [.ref (gA G (0))]).length) Slot.unset).toArray = ls at hl ⊢
  have hl : lv_has ls 2 [(0, .ref (gA G (0)))] := hl
  unfold fG_meanSacks at hf
  show W p l e ({ frames := 4, cells := 0, slots := 0, locals := 86 } : Room) s m args below meth c s.heap [] 0 0 (MQ below (QcD G M0 r) args s 0 0 (PA G)) (F0 m 0 ls [])
  refine lv_aload_n hx hb dX4_meanSacks_0 rfl (lv_at hl 0 rfl) ?_
  refine va_get (D := G.1) (ci := 4) (v := .ref (gA G (5 + 0))) (C := RX4) (T := TX4) (N := 10) hx hb hts hinX4 hown hW.K hW.P 0 (he_G G M0) rfl 0 (by decide) (hts _ (List.mem_cons_of_mem _ (inB_1 _ (List.mem_of_getElem? (i := 13) rfl)))) (fun _ h9 => h9) rfl dX4_meanSacks_1 ?_
  obtain ⟨q1, hq1, hf⟩ := bind_el hf
  refine k_cVi (As := []) (rest := []) ⟨hx, hb, hml, hown, hts⟩ (mW_filledBays l G M0 (0) (by decide) q1 hq1) (cwV 0 hts (gbV (inB_8 _ (List.mem_of_getElem? (i := 6) rfl)) (inB_8 _ (List.mem_of_getElem? (i := 7) rfl)) (inB_8 _ (List.mem_of_getElem? (i := 8) rfl)) (inB_1 _ (List.mem_of_getElem? (i := 12) rfl)) (inB_8 _ (List.mem_of_getElem? (i := 9) rfl))) rfl rfl rfl (by decide +kernel) ⟨Nat.le_of_ble_eq_true rfl, Nat.le_of_ble_eq_true rfl⟩) (rv_wall (by decide) hW) hW hS rfl hl.1 rfl (lv_room (Nat.le_of_ble_eq_true rfl)) dX4_meanSacks_4 ⟨Nat.zero_le _, Nat.zero_le _⟩ (fun hv2 H locs hW hS => ?_)
  refine lv_istore_n (lv' := [(1, .int (i3 (q1))), (0, .ref (gA G (0)))]) hx hb dX4_meanSacks_7 rfl hl (by decide) rfl (fun ls hl => ?_)
  refine lv_iload_n hx hb dX4_meanSacks_8 rfl (lv_at hl 0 rfl) ?_
  refine k_if_ne (tgt := 14) hx hb hv2 dX4_meanSacks_9 (by decide) (fun hc3 => ?_) (fun hc3 => ?_)
  · rw [if_neg hc3] at hf
    refine lv_aload_n hx hb dX4_meanSacks_14 rfl (lv_at hl 1 rfl) ?_
    refine va_get (D := G.1) (ci := 4) (v := .ref (gA G (5 + 0))) (C := RX4) (T := TX4) (N := 10) hx hb hts hinX4 hown hW.K hW.P 0 (he_G G M0) rfl 0 (by decide) (hts _ (List.mem_cons_of_mem _ (inB_1 _ (List.mem_of_getElem? (i := 13) rfl)))) (fun _ h9 => h9) rfl dX4_meanSacks_15 ?_
    obtain ⟨q4, hq4, hf⟩ := bind_el hf
    refine k_cVi (As := []) (rest := []) ⟨hx, hb, hml, hown, hts⟩ (mW_allSacks l G M0 (0) (by decide) q4 hq4) (cwV 0 hts (gbV (inB_8 _ (List.mem_of_getElem? (i := 11) rfl)) (inB_8 _ (List.mem_of_getElem? (i := 12) rfl)) (inB_8 _ (List.mem_of_getElem? (i := 13) rfl)) (inB_1 _ (List.mem_of_getElem? (i := 12) rfl)) (inB_8 _ (List.mem_of_getElem? (i := 14) rfl))) rfl rfl rfl (by decide +kernel) ⟨Nat.le_of_ble_eq_true rfl, Nat.le_of_ble_eq_true rfl⟩) (rv_wall (by decide) hW) hW hS rfl hl.1 rfl (lv_room (Nat.le_of_ble_eq_true rfl)) dX4_meanSacks_18 ⟨Nat.zero_le _, Nat.zero_le _⟩ (fun hv5 H locs hW hS => ?_)
    refine lv_i2d hx hb dX4_meanSacks_21 ?_
    refine lv_iload_n hx hb dX4_meanSacks_22 rfl (lv_at hl 0 rfl) ?_
    refine lv_i2d hx hb dX4_meanSacks_23 ?_
    obtain ⟨hg6, hf⟩ := gdd_el hf
    refine lv_ddiv hx hb dX4_meanSacks_24 hg6 ?_
    obtain rfl := some_el hf
    exact k_retd hx hb hr hlocks hW hS rfl dX4_meanSacks_25
  · rw [if_pos hc3] at hf
    refine lv_dconst0 hx hb dX4_meanSacks_12 ?_
    obtain rfl := some_el hf
    exact k_retd hx hb hr hlocks hW hS rfl dX4_meanSacks_13
set_option maxHeartbeats 4000000 in
set_option maxRecDepth 100000 in
theorem mG_bestBay (l : Launch) (G : gG) (M0 : MemG) (x1 : Int) (hx1 : inR x1) (x2 : Int) (hx2 : inR x2) (r : Int) (hf : fG_bestBay M0 x1 x2 = some r) : Met l yX4_bestBay (wb yX4_bestBay cX4_bestBay 6 (some .int)) ({ frames := 3, cells := 0, slots := 0, locals := 66 } : Room) (PcG G M0 [.ref (gA G (0)), .int (i3 (x1)), .int (i3 (x2))]) (QcI G M0 r) 0 0 (PA G) := by
  refine Met.ofW (cc := cX4_bestBay) (maxL := 6) (ret := (some .int)) (by decide) rfl ?_
  intro p e s m args below meth c s₁ B hml hv0
  obtain ⟨hav, hW⟩ := hv0
  have hx := B.exec
  have hb := B.bytes
  have hr := B.returns
  have hts := atoms_spec (ws := (wb yX4_bestBay cX4_bestBay 6 (some .int))) B.pre
  have hown : s.vm.findClass RX4 = some m.cls := findClass_of_methodNamed B.named
  have hlocks := B.notSynchronized
  have hinX4 : ∀ w ∈ u_ws RX4 TX4 10, w ∈ (wb yX4_bestBay cX4_bestBay 6 (some .int)) := fun _ h => List.mem_cons_of_mem _ (inlX4 _ h)
  have hW : Wd G M0 s s.heap := hW
  have hS : va_S (PA G) s.heap s.heap [] := va_S.rf
  have hl := lv_entry [.ref (gA G (0)), .int (i3 (x1)), .int (i3 (x2))] (n := 6) (Nat.le_of_ble_eq_true rfl)
  have hent := lg_entry_eq m [.ref (gA G (0)), .int (i3 (x1)), .int (i3 (x2))] 6
  rw [← hav] at hent
  rw [hent]
  clear hent
  generalize (lg_sl [.ref (gA G (0)), .int (i3 (x1)), .int (i3 (x2))] ++ List.replicate (6 - (lg_sl [.ref (gA G (0)), .int (i3 (x1)), .int (i3 (x2))]).length) Slot.unset).toArray = ls at hl ⊢
  have hl : lv_has ls 6 [(0, .ref (gA G (0))), (1, .int (i3 (x1))), (2, .int (i3 (x2)))] := hl
  unfold fG_bestBay at hf
  show W p l e ({ frames := 3, cells := 0, slots := 0, locals := 66 } : Room) s m args below meth c s.heap [] 0 0 (MQ below (QcI G M0 r) args s 0 0 (PA G)) (F0 m 0 ls [])
  have L21 : ∀ (x1 : Int) (hx1 : inR x1) (x2 : Int) (hx2 : inR x2), ∀ (z : (Int × Int)) (q : (Int)), loopN (fG_bestBay_l27 M0 x1 x2) 200 z = some q → (q = r) → (inR (z.1) → inR (z.2) → ∀ (H : Heap) (locs : List Loc) (ls : Array Slot), Wd G (M0) s H → va_S (PA G) s.heap H locs → lv_has ls 6 [(0, .ref (gA G (0))), (1, .int (i3 (x1))), (2, .int (i3 (x2))), (3, .int (i3 (z.1))), (4, .int (i3 (z.2)))] → W p l e ({ frames := 3, cells := 0, slots := 0, locals := 66 } : Room) s m args below meth c H locs 0 0 (MQ below (QcI G M0 r) args s 0 0 (PA G)) (F0 m 27 ls [])) := by
    intro x1 hx1 x2 hx2 z q hq hex
    refine loop_rule (fG_bestBay_l27 M0 x1 x2) (fun z => inR (z.1) → inR (z.2) → ∀ (H : Heap) (locs : List Loc) (ls : Array Slot), Wd G (M0) s H → va_S (PA G) s.heap H locs → lv_has ls 6 [(0, .ref (gA G (0))), (1, .int (i3 (x1))), (2, .int (i3 (x2))), (3, .int (i3 (z.1))), (4, .int (i3 (z.2)))] → W p l e ({ frames := 3, cells := 0, slots := 0, locals := 66 } : Room) s m args below meth c H locs 0 0 (MQ below (QcI G M0 r) args s 0 0 (PA G)) (F0 m 27 ls [])) (fun q => (q = r)) ?_ 200 z q hq hex
    clear hq hex q z
    intro z x hf hK hz3 hz4 H locs ls hW hS hl
    have J13 : ∀ (x3 : Int) (x4 : Int), fG_bestBay_j99 M0 x1 x2 x3 x4 = some x → inR x3 → inR x4 →  ∀ (H : Heap) (locs : List Loc) (ls : Array Slot), Wd G M0 s H → va_S (PA G) s.heap H locs → lv_has ls 6 [(0, .ref (gA G (0))), (1, .int (i3 (x1))), (2, .int (i3 (x2))), (3, .int (i3 (x3))), (4, .int (i3 (x4)))] → W p l e ({ frames := 3, cells := 0, slots := 0, locals := 66 } : Room) s m args below meth c H locs 0 0 (MQ below (QcI G M0 r) args s 0 0 (PA G)) (F0 m 99 ls []) := by
      intro x3 x4 hf hx3 hx4 H locs ls hW hS hl
      unfold fG_bestBay_j99 at hf
      obtain ⟨hg14, hf⟩ := gd_el hf
      refine k_iinc (lv' := [(4, .int (i3 (x4 + 1))), (0, .ref (gA G (0))), (1, .int (i3 (x1))), (2, .int (i3 (x2))), (3, .int (i3 (x3)))]) hx hb dX4_bestBay_99 hl (k := 4) rfl (by decide) rfl (fun ls hl => ?_)
      refine lv_goto (tgt := 27) hx hb dX4_bestBay_102 (by decide) ?_
      obtain rfl := some_el hf
      exact hK hx3 hg14 _ _ _ hW hS (lv_sub hl [1, 2, 3, 4, 0] rfl)
    have J11 : ∀ (x3 : Int) (x4 : Int) (x5 : Int), fG_bestBay_j85 M0 x1 x2 x3 x4 x5 = some x → inR x3 → inR x4 → inR x5 →  ∀ (H : Heap) (locs : List Loc) (ls : Array Slot), Wd G M0 s H → va_S (PA G) s.heap H locs → lv_has ls 6 [(0, .ref (gA G (0))), (1, .int (i3 (x1))), (2, .int (i3 (x2))), (3, .int (i3 (x3))), (4, .int (i3 (x4))), (5, .int (i3 (x5)))] → W p l e ({ frames := 3, cells := 0, slots := 0, locals := 66 } : Room) s m args below meth c H locs 0 0 (MQ below (QcI G M0 r) args s 0 0 (PA G)) (F0 m 85 ls []) := by
      intro x3 x4 x5 hf hx3 hx4 hx5 H locs ls hW hS hl
      unfold fG_bestBay_j85 at hf
      refine lv_iload hx hb dX4_bestBay_85 (lv_at hl 5 rfl) ?_
      refine k_if_eq (tgt := 99) hx hb hx5 dX4_bestBay_87 (by decide) (fun hc12 => ?_) (fun hc12 => ?_)
      · rw [if_pos hc12] at hf
        exact J13 (x3) (x4) hf hx3 hx4 _ _ _ hW hS (lv_sub hl [0, 1, 2, 3, 4] rfl)
      · rw [if_neg hc12] at hf
        refine lv_iload_n hx hb dX4_bestBay_90 rfl (lv_at hl 3 rfl) ?_
        refine k_bipush hx hb dX4_bestBay_91 (by decide +kernel) ?_
        refine k_icmp_ne (tgt := 99) hx hb hx3 (show inR (-15) by decide) dX4_bestBay_93 (by decide) (fun hc15 => ?_) (fun hc15 => ?_)
        · rw [if_neg hc15] at hf
          exact J13 (x3) (x4) hf hx3 hx4 _ _ _ hW hS (lv_sub hl [0, 1, 2, 3, 4] rfl)
        · rw [if_pos hc15] at hf
          refine lv_iload hx hb dX4_bestBay_96 (lv_at hl 4 rfl) ?_
          refine lv_istore_n (lv' := [(3, .int (i3 (x4))), (0, .ref (gA G (0))), (1, .int (i3 (x1))), (2, .int (i3 (x2))), (4, .int (i3 (x4))), (5, .int (i3 (x5)))]) hx hb dX4_bestBay_98 rfl hl (by decide) rfl (fun ls hl => ?_)
          exact J13 (x4) (x4) hf hx4 hx4 _ _ _ hW hS (lv_sub hl [1, 2, 3, 0, 4] rfl)
    have J9 : ∀ (x3 : Int) (x4 : Int) (t0 : Int), fG_bestBay_j63 M0 x1 x2 x3 x4 t0 = some x → inR x3 → inR x4 → inR t0 →  ∀ (H : Heap) (locs : List Loc) (ls : Array Slot), Wd G M0 s H → va_S (PA G) s.heap H locs → lv_has ls 6 [(0, .ref (gA G (0))), (1, .int (i3 (x1))), (2, .int (i3 (x2))), (3, .int (i3 (x3))), (4, .int (i3 (x4)))] → W p l e ({ frames := 3, cells := 0, slots := 0, locals := 66 } : Room) s m args below meth c H locs 0 0 (MQ below (QcI G M0 r) args s 0 0 (PA G)) (F0 m 63 ls [.int (i3 (t0))]) := by
      intro x3 x4 t0 hf hx3 hx4 ht0 H locs ls hW hS hl
      unfold fG_bestBay_j63 at hf
      refine lv_istore (lv' := [(5, .int (i3 (t0))), (0, .ref (gA G (0))), (1, .int (i3 (x1))), (2, .int (i3 (x2))), (3, .int (i3 (x3))), (4, .int (i3 (x4)))]) hx hb dX4_bestBay_63 hl (by decide) rfl (fun ls hl => ?_)
      refine lv_iload hx hb dX4_bestBay_65 (lv_at hl 0 rfl) ?_
      refine k_if_eq (tgt := 85) hx hb ht0 dX4_bestBay_67 (by decide) (fun hc10 => ?_) (fun hc10 => ?_)
      · rw [if_pos hc10] at hf
        exact J11 (x3) (x4) (t0) hf hx3 hx4 ht0 _ _ _ hW hS (lv_sub hl [1, 2, 3, 4, 5, 0] rfl)
      · rw [if_neg hc10] at hf
        refine lv_aload_n hx hb dX4_bestBay_70 rfl (lv_at hl 1 rfl) ?_
        refine va_get (D := G.1) (ci := 4) (v := .ref (gA G (5 + 0))) (C := RX4) (T := TX4) (N := 10) hx hb hts hinX4 hown hW.K hW.P 0 (he_G G M0) rfl 0 (by decide) (hts _ (List.mem_cons_of_mem _ (inB_1 _ (List.mem_of_getElem? (i := 13) rfl)))) (fun _ h9 => h9) rfl dX4_bestBay_71 ?_
        refine lv_iload hx hb dX4_bestBay_74 (lv_at hl 5 rfl) ?_
        refine k_cVz (As := [.int (i3 (x4))]) (rest := []) ⟨hx, hb, hml, hown, hts⟩ (mW_isEmpty l G M0 (0) (by decide) x4 hx4 _ rfl) (cwV 1 hts (gbV (inB_4 _ (List.mem_of_getElem? (i := 21) rfl)) (inB_4 _ (List.mem_of_getElem? (i := 22) rfl)) (inB_4 _ (List.mem_of_getElem? (i := 23) rfl)) (inB_1 _ (List.mem_of_getElem? (i := 12) rfl)) (inB_5 _ (List.mem_of_getElem? (i := 0) rfl))) rfl rfl rfl (by decide +kernel) ⟨Nat.le_of_ble_eq_true rfl, Nat.le_of_ble_eq_true rfl⟩) (rv_wall (by decide) hW) hW hS rfl hl.1 rfl (lv_room (Nat.le_of_ble_eq_true rfl)) dX4_bestBay_76 ⟨Nat.zero_le _, Nat.zero_le _⟩ (fun hv16 H locs hW hS => ?_)
        refine k_if_ne (tgt := 85) hx hb (inR_z hv16) dX4_bestBay_79 (by decide) (fun hc17 => ?_) (fun hc17 => ?_)
        · rw [if_neg hc17] at hf
          exact J11 (x3) (x4) (t0) hf hx3 hx4 ht0 _ _ _ hW hS (lv_sub hl [1, 2, 3, 4, 5, 0] rfl)
        · rw [if_pos hc17] at hf
          refine lv_iload hx hb dX4_bestBay_82 (lv_at hl 5 rfl) ?_
          obtain rfl := some_el hf
          obtain rfl : x4 = r := hK
          exact k_ret hx hb hr hlocks hW hS rfl hx4 dX4_bestBay_84
    unfold fG_bestBay_l27 at hf
    refine lv_iload hx hb dX4_bestBay_27 (lv_at hl 4 rfl) ?_
    refine k_bipush hx hb dX4_bestBay_29 (by decide +kernel) ?_
    refine k_icmp_ge (tgt := 105) hx hb hz4 (show inR (32) by decide) dX4_bestBay_31 (by decide) (fun hc5 => ?_) (fun hc5 => ?_)
    · rw [if_neg hc5] at hf
      refine lv_iload_n hx hb dX4_bestBay_105 rfl (lv_at hl 3 rfl) ?_
      obtain rfl := some_el hf
      obtain rfl : z.1 = r := hK
      exact k_ret hx hb hr hlocks hW hS rfl hz3 dX4_bestBay_106
    · rw [if_pos hc5] at hf
      refine lv_aload_n hx hb dX4_bestBay_34 rfl (lv_at hl 0 rfl) ?_
      refine lv_iload hx hb dX4_bestBay_35 (lv_at hl 4 rfl) ?_
      refine lv_iload_n hx hb dX4_bestBay_37 rfl (lv_at hl 1 rfl) ?_
      refine lv_iload_n hx hb dX4_bestBay_38 rfl (lv_at hl 2 rfl) ?_
      obtain ⟨q6, hq6, hf⟩ := bind_el hf
      refine k_cVz (As := [.int (i3 (z.2)), .int (i3 (x1)), .int (i3 (x2))]) (rest := []) ⟨hx, hb, hml, hown, hts⟩ (mG_hasRoom l G M0 z.2 hz4 x1 hx1 x2 hx2 q6 hq6) (cwV 3 hts (gbV (inB_4 _ (List.mem_of_getElem? (i := 17) rfl)) (inB_4 _ (List.mem_of_getElem? (i := 18) rfl)) (inB_4 _ (List.mem_of_getElem? (i := 19) rfl)) (inB_1 _ (List.mem_of_getElem? (i := 2) rfl)) (inB_4 _ (List.mem_of_getElem? (i := 20) rfl))) rfl rfl rfl (by decide +kernel) ⟨Nat.le_of_ble_eq_true rfl, Nat.le_of_ble_eq_true rfl⟩) (rv_G hW) hW hS rfl hl.1 rfl (lv_room (Nat.le_of_ble_eq_true rfl)) dX4_bestBay_39 ⟨Nat.zero_le _, Nat.zero_le _⟩ (fun hv7 H locs hW hS => ?_)
      refine k_if_eq (tgt := 62) hx hb (inR_z hv7) dX4_bestBay_42 (by decide) (fun hc8 => ?_) (fun hc8 => ?_)
      · rw [if_pos hc8] at hf
        refine k_const hx hb dX4_bestBay_62 ?_
        exact J9 (z.1) (z.2) (0) hf hz3 hz4 (show inR (0) by decide) _ _ _ hW hS (lv_sub hl [0, 1, 2, 3, 4] rfl)
      · rw [if_neg hc8] at hf
        refine lv_aload_n hx hb dX4_bestBay_45 rfl (lv_at hl 0 rfl) ?_
        refine va_get (D := G.1) (ci := 4) (v := .ref (gA G (5 + 0))) (C := RX4) (T := TX4) (N := 10) hx hb hts hinX4 hown hW.K hW.P 0 (he_G G M0) rfl 0 (by decide) (hts _ (List.mem_cons_of_mem _ (inB_1 _ (List.mem_of_getElem? (i := 13) rfl)))) (fun _ h9 => h9) rfl dX4_bestBay_46 ?_
        refine lv_iload hx hb dX4_bestBay_49 (lv_at hl 4 rfl) ?_
        refine lv_iload_n hx hb dX4_bestBay_51 rfl (lv_at hl 2 rfl) ?_
        obtain ⟨q18, hq18, hf⟩ := bind_el hf
        refine k_cVz (As := [.int (i3 (z.2)), .int (i3 (x2))]) (rest := []) ⟨hx, hb, hml, hown, hts⟩ (mW_cracksUnder l G M0 (0) (by decide) z.2 hz4 x2 hx2 q18 hq18) (cwV 2 hts (gbV (inB_26 _ (List.mem_of_getElem? (i := 14) rfl)) (inB_26 _ (List.mem_of_getElem? (i := 15) rfl)) (inB_26 _ (List.mem_of_getElem? (i := 16) rfl)) (inB_1 _ (List.mem_of_getElem? (i := 12) rfl)) (inB_26 _ (List.mem_of_getElem? (i := 17) rfl))) rfl rfl rfl (by decide +kernel) ⟨Nat.le_of_ble_eq_true rfl, Nat.le_of_ble_eq_true rfl⟩) (rv_wall (by decide) hW) hW hS rfl hl.1 rfl (lv_room (Nat.le_of_ble_eq_true rfl)) dX4_bestBay_52 ⟨Nat.zero_le _, Nat.zero_le _⟩ (fun hv19 H locs hW hS => ?_)
        refine k_if_ne (tgt := 62) hx hb (inR_z hv19) dX4_bestBay_55 (by decide) (fun hc20 => ?_) (fun hc20 => ?_)
        · rw [if_neg hc20] at hf
          refine k_const hx hb dX4_bestBay_62 ?_
          exact J9 (z.1) (z.2) (0) hf hz3 hz4 (show inR (0) by decide) _ _ _ hW hS (lv_sub hl [0, 1, 2, 3, 4] rfl)
        · rw [if_pos hc20] at hf
          refine k_const hx hb dX4_bestBay_58 ?_
          refine lv_goto (tgt := 63) hx hb dX4_bestBay_59 (by decide) ?_
          exact J9 (z.1) (z.2) (1) hf hz3 hz4 (show inR (1) by decide) _ _ _ hW hS (lv_sub hl [0, 1, 2, 3, 4] rfl)
  refine lv_iload_n hx hb dX4_bestBay_0 rfl (lv_at hl 1 rfl) ?_
  refine k_cSz (As := [.int (i3 (x1))]) (rest := []) ⟨hx, hb, hml, hown, hts⟩ (mG_isKind l G M0 x1 hx1 _ rfl) (va_cwS 1 hts (gbS (inB_4 _ (List.mem_of_getElem? (i := 14) rfl)) (inB_4 _ (List.mem_of_getElem? (i := 15) rfl)) (inB_1 _ (List.mem_of_getElem? (i := 2) rfl)) (inB_4 _ (List.mem_of_getElem? (i := 16) rfl))) rfl rfl rfl (by decide +kernel) ⟨Nat.le_of_ble_eq_true rfl, Nat.le_of_ble_eq_true rfl⟩) hW hS rfl hl.1 rfl (lv_room (Nat.le_of_ble_eq_true rfl)) dX4_bestBay_1 ⟨Nat.zero_le _, Nat.zero_le _⟩ (fun hv1 H locs hW hS => ?_)
  refine k_if_eq (tgt := 18) hx hb (inR_z hv1) dX4_bestBay_4 (by decide) (fun hc2 => ?_) (fun hc2 => ?_)
  · rw [if_pos hc2] at hf
    refine k_bipush hx hb dX4_bestBay_18 (by decide +kernel) ?_
    obtain rfl := some_el hf
    exact k_ret hx hb hr hlocks hW hS rfl (show inR (-12) by decide) dX4_bestBay_20
  · rw [if_neg hc2] at hf
    refine lv_iload_n hx hb dX4_bestBay_7 rfl (lv_at hl 2 rfl) ?_
    refine k_const hx hb dX4_bestBay_8 ?_
    refine k_sipush hx hb dX4_bestBay_9 (by decide +kernel) ?_
    refine k_cSz (As := [.int (i3 (x2)), .int (i3 (1)), .int (i3 (200))]) (rest := []) ⟨hx, hb, hml, hown, hts⟩ (mG_isWithin l G M0 x2 hx2 1 (show inR (1) by decide) 200 (show inR (200) by decide) _ rfl) (va_cwS 3 hts (gbS (inB_4 _ (List.mem_of_getElem? (i := 11) rfl)) (inB_4 _ (List.mem_of_getElem? (i := 12) rfl)) (inB_1 _ (List.mem_of_getElem? (i := 2) rfl)) (inB_4 _ (List.mem_of_getElem? (i := 13) rfl))) rfl rfl rfl (by decide +kernel) ⟨Nat.le_of_ble_eq_true rfl, Nat.le_of_ble_eq_true rfl⟩) hW hS rfl hl.1 rfl (lv_room (Nat.le_of_ble_eq_true rfl)) dX4_bestBay_12 ⟨Nat.zero_le _, Nat.zero_le _⟩ (fun hv3 H locs hW hS => ?_)
    refine k_if_ne (tgt := 21) hx hb (inR_z hv3) dX4_bestBay_15 (by decide) (fun hc4 => ?_) (fun hc4 => ?_)
    · rw [if_neg hc4] at hf
      refine k_bipush hx hb dX4_bestBay_21 (by decide +kernel) ?_
      refine lv_istore_n (lv' := [(3, .int (i3 ((-15)))), (0, .ref (gA G (0))), (1, .int (i3 (x1))), (2, .int (i3 (x2)))]) hx hb dX4_bestBay_23 rfl hl (by decide) rfl (fun ls hl => ?_)
      refine k_const hx hb dX4_bestBay_24 ?_
      refine lv_istore (lv' := [(4, .int (i3 (0))), (3, .int (i3 ((-15)))), (0, .ref (gA G (0))), (1, .int (i3 (x1))), (2, .int (i3 (x2)))]) hx hb dX4_bestBay_25 hl (by decide) rfl (fun ls hl => ?_)
      exact L21 (x1) hx1 (x2) hx2 ((-15), 0) r hf rfl (show inR (-15) by decide) (show inR (0) by decide) _ _ _ hW hS (lv_sub hl [2, 3, 4, 1, 0] rfl)
    · rw [if_pos hc4] at hf
      refine k_bipush hx hb dX4_bestBay_18 (by decide +kernel) ?_
      obtain rfl := some_el hf
      exact k_ret hx hb hr hlocks hW hS rfl (show inR (-12) by decide) dX4_bestBay_20
set_option maxHeartbeats 4000000 in
set_option maxRecDepth 100000 in
theorem mG_price (l : Launch) (G : gG) (M0 : MemG) (x1 : Int) (hx1 : inR x1) (x2 : Int) (hx2 : inR x2) (r : Int) (hf : fG_price x1 x2 = some r) : Met l yX4_price (wb yX4_price cX4_price 3 (some .int)) ({ frames := 2, cells := 0, slots := 0, locals := 42 } : Room) (PcG G M0 [.ref (gA G (0)), .int (i3 (x1)), .int (i3 (x2))]) (QcI G M0 r) 0 0 (PA G) := by
  refine Met.ofW (cc := cX4_price) (maxL := 3) (ret := (some .int)) (by decide) rfl ?_
  intro p e s m args below meth c s₁ B hml hv0
  obtain ⟨hav, hW⟩ := hv0
  have hx := B.exec
  have hb := B.bytes
  have hr := B.returns
  have hts := atoms_spec (ws := (wb yX4_price cX4_price 3 (some .int))) B.pre
  have hown : s.vm.findClass RX4 = some m.cls := findClass_of_methodNamed B.named
  have hlocks := B.notSynchronized
  have hW : Wd G M0 s s.heap := hW
  have hS : va_S (PA G) s.heap s.heap [] := va_S.rf
  have hl := lv_entry [.ref (gA G (0)), .int (i3 (x1)), .int (i3 (x2))] (n := 3) (Nat.le_of_ble_eq_true rfl)
  have hent := lg_entry_eq m [.ref (gA G (0)), .int (i3 (x1)), .int (i3 (x2))] 3
  rw [← hav] at hent
  rw [hent]
  clear hent
  generalize (lg_sl [.ref (gA G (0)), .int (i3 (x1)), .int (i3 (x2))] ++ List.replicate (3 - (lg_sl [.ref (gA G (0)), .int (i3 (x1)), .int (i3 (x2))]).length) Slot.unset).toArray = ls at hl ⊢
  have hl : lv_has ls 3 [(0, .ref (gA G (0))), (1, .int (i3 (x1))), (2, .int (i3 (x2)))] := hl
  unfold fG_price at hf
  show W p l e ({ frames := 2, cells := 0, slots := 0, locals := 42 } : Room) s m args below meth c s.heap [] 0 0 (MQ below (QcI G M0 r) args s 0 0 (PA G)) (F0 m 0 ls [])
  refine lv_iload_n hx hb dX4_price_0 rfl (lv_at hl 1 rfl) ?_
  refine k_cSz (As := [.int (i3 (x1))]) (rest := []) ⟨hx, hb, hml, hown, hts⟩ (mG_isKind l G M0 x1 hx1 _ rfl) (va_cwS 1 hts (gbS (inB_4 _ (List.mem_of_getElem? (i := 14) rfl)) (inB_4 _ (List.mem_of_getElem? (i := 15) rfl)) (inB_1 _ (List.mem_of_getElem? (i := 2) rfl)) (inB_4 _ (List.mem_of_getElem? (i := 16) rfl))) rfl rfl rfl (by decide +kernel) ⟨Nat.le_of_ble_eq_true rfl, Nat.le_of_ble_eq_true rfl⟩) hW hS rfl hl.1 rfl (lv_room (Nat.le_of_ble_eq_true rfl)) dX4_price_1 ⟨Nat.zero_le _, Nat.zero_le _⟩ (fun hv1 H locs hW hS => ?_)
  refine k_if_eq (tgt := 18) hx hb (inR_z hv1) dX4_price_4 (by decide) (fun hc2 => ?_) (fun hc2 => ?_)
  · rw [if_pos hc2] at hf
    refine k_bipush hx hb dX4_price_18 (by decide +kernel) ?_
    obtain rfl := some_el hf
    exact k_ret hx hb hr hlocks hW hS rfl (show inR (-12) by decide) dX4_price_20
  · rw [if_neg hc2] at hf
    refine lv_iload_n hx hb dX4_price_7 rfl (lv_at hl 2 rfl) ?_
    refine k_const hx hb dX4_price_8 ?_
    refine k_sipush hx hb dX4_price_9 (by decide +kernel) ?_
    refine k_cSz (As := [.int (i3 (x2)), .int (i3 (1)), .int (i3 (999))]) (rest := []) ⟨hx, hb, hml, hown, hts⟩ (mG_isWithin l G M0 x2 hx2 1 (show inR (1) by decide) 999 (show inR (999) by decide) _ rfl) (va_cwS 3 hts (gbS (inB_4 _ (List.mem_of_getElem? (i := 11) rfl)) (inB_4 _ (List.mem_of_getElem? (i := 12) rfl)) (inB_1 _ (List.mem_of_getElem? (i := 2) rfl)) (inB_4 _ (List.mem_of_getElem? (i := 13) rfl))) rfl rfl rfl (by decide +kernel) ⟨Nat.le_of_ble_eq_true rfl, Nat.le_of_ble_eq_true rfl⟩) hW hS rfl hl.1 rfl (lv_room (Nat.le_of_ble_eq_true rfl)) dX4_price_12 ⟨Nat.zero_le _, Nat.zero_le _⟩ (fun hv3 H locs hW hS => ?_)
    refine k_if_ne (tgt := 21) hx hb (inR_z hv3) dX4_price_15 (by decide) (fun hc4 => ?_) (fun hc4 => ?_)
    · rw [if_neg hc4] at hf
      refine lv_iload_n hx hb dX4_price_21 rfl (lv_at hl 1 rfl) ?_
      refine lv_iload_n hx hb dX4_price_22 rfl (lv_at hl 2 rfl) ?_
      obtain ⟨q5, hq5, hf⟩ := bind_el hf
      refine k_cSi (As := [.int (i3 (x1)), .int (i3 (x2))]) (rest := []) ⟨hx, hb, hml, hown, hts⟩ (mG_coinsFor l G M0 x1 hx1 x2 hx2 q5 hq5) (va_cwS 2 hts (gbS (inB_13 _ (List.mem_of_getElem? (i := 6) rfl)) (inB_13 _ (List.mem_of_getElem? (i := 7) rfl)) (inB_1 _ (List.mem_of_getElem? (i := 2) rfl)) (inB_13 _ (List.mem_of_getElem? (i := 8) rfl))) rfl rfl rfl (by decide +kernel) ⟨Nat.le_of_ble_eq_true rfl, Nat.le_of_ble_eq_true rfl⟩) hW hS rfl hl.1 rfl (lv_room (Nat.le_of_ble_eq_true rfl)) dX4_price_23 ⟨Nat.zero_le _, Nat.zero_le _⟩ (fun hv6 H locs hW hS => ?_)
      obtain rfl := some_el hf
      exact k_ret hx hb hr hlocks hW hS rfl hv6 dX4_price_26
    · rw [if_pos hc4] at hf
      refine k_bipush hx hb dX4_price_18 (by decide +kernel) ?_
      obtain rfl := some_el hf
      exact k_ret hx hb hr hlocks hW hS rfl (show inR (-12) by decide) dX4_price_20
set_option maxHeartbeats 4000000 in
set_option maxRecDepth 100000 in
theorem mG_reason (l : Launch) (G : gG) (M0 : MemG) (x1 : Int) (hx1 : inR x1) (r : Int) (hf : fG_reason M0 x1 = r) : Met l yX4_reason (wb yX4_reason cX4_reason 2 (some .int)) ({ frames := 0, cells := 0, slots := 0, locals := 0 } : Room) (PcG G M0 [.ref (gA G (0)), .int (i3 (x1))]) (QcI G M0 r) 0 0 (PA G) := by
  refine Met.ofW (cc := cX4_reason) (maxL := 2) (ret := (some .int)) (by decide) rfl ?_
  intro p e s m args below meth c s₁ B hml hv0
  obtain ⟨hav, hW⟩ := hv0
  have hx := B.exec
  have hb := B.bytes
  have hr := B.returns
  have hts := atoms_spec (ws := (wb yX4_reason cX4_reason 2 (some .int))) B.pre
  have hown : s.vm.findClass RX4 = some m.cls := findClass_of_methodNamed B.named
  have hlocks := B.notSynchronized
  have hinX4 : ∀ w ∈ u_ws RX4 TX4 10, w ∈ (wb yX4_reason cX4_reason 2 (some .int)) := fun _ h => List.mem_cons_of_mem _ (inlX4 _ h)
  have hW : Wd G M0 s s.heap := hW
  have hS : va_S (PA G) s.heap s.heap [] := va_S.rf
  have hl := lv_entry [.ref (gA G (0)), .int (i3 (x1))] (n := 2) (Nat.le_of_ble_eq_true rfl)
  have hent := lg_entry_eq m [.ref (gA G (0)), .int (i3 (x1))] 2
  rw [← hav] at hent
  rw [hent]
  clear hent
  generalize (lg_sl [.ref (gA G (0)), .int (i3 (x1))] ++ List.replicate (2 - (lg_sl [.ref (gA G (0)), .int (i3 (x1))]).length) Slot.unset).toArray = ls at hl ⊢
  have hl : lv_has ls 2 [(0, .ref (gA G (0))), (1, .int (i3 (x1)))] := hl
  unfold fG_reason at hf
  show W p l e ({ frames := 0, cells := 0, slots := 0, locals := 0 } : Room) s m args below meth c s.heap [] 0 0 (MQ below (QcI G M0 r) args s 0 0 (PA G)) (F0 m 0 ls [])
  refine lv_aload_n hx hb dX4_reason_0 rfl (lv_at hl 0 rfl) ?_
  refine va_get (D := G.1) (ci := 4) (v := .int (i3 (M0 0 7))) (C := RX4) (T := TX4) (N := 10) hx hb hts hinX4 hown hW.K hW.P 0 (he_G G M0) rfl 7 (by decide) (hts _ (List.mem_cons_of_mem _ (inB_2 _ (List.mem_of_getElem? (i := 5) rfl)))) (fun _ h9 => h9) rfl dX4_reason_1 ?_
  refine k_if_ne (tgt := 10) hx hb (hW.R 0 7) dX4_reason_4 (by decide) (fun hc1 => ?_) (fun hc1 => ?_)
  · rw [if_neg hc1] at hf
    refine lv_iload_n hx hb dX4_reason_10 rfl (lv_at hl 1 rfl) ?_
    refine k_if_eq (tgt := 21) hx hb hx1 dX4_reason_11 (by decide) (fun hc2 => ?_) (fun hc2 => ?_)
    · rw [if_pos hc2] at hf
      refine lv_aload_n hx hb dX4_reason_21 rfl (lv_at hl 0 rfl) ?_
      refine va_get (D := G.1) (ci := 4) (v := .int (i3 (M0 0 7))) (C := RX4) (T := TX4) (N := 10) hx hb hts hinX4 hown hW.K hW.P 0 (he_G G M0) rfl 7 (by decide) (hts _ (List.mem_cons_of_mem _ (inB_2 _ (List.mem_of_getElem? (i := 5) rfl)))) (fun _ h9 => h9) rfl dX4_reason_22 ?_
      subst hf
      exact k_ret hx hb hr hlocks hW hS rfl (hW.R 0 7) dX4_reason_25
    · rw [if_neg hc2] at hf
      refine lv_aload_n hx hb dX4_reason_14 rfl (lv_at hl 0 rfl) ?_
      refine va_get (D := G.1) (ci := 4) (v := .int (i3 (M0 0 8))) (C := RX4) (T := TX4) (N := 10) hx hb hts hinX4 hown hW.K hW.P 0 (he_G G M0) rfl 8 (by decide) (hts _ (List.mem_cons_of_mem _ (inB_2 _ (List.mem_of_getElem? (i := 6) rfl)))) (fun _ h9 => h9) rfl dX4_reason_15 ?_
      refine lv_goto (tgt := 25) hx hb dX4_reason_18 (by decide) ?_
      subst hf
      exact k_ret hx hb hr hlocks hW hS rfl (hW.R 0 8) dX4_reason_25
  · rw [if_pos hc1] at hf
    refine k_bipush hx hb dX4_reason_7 (by decide +kernel) ?_
    subst hf
    exact k_ret hx hb hr hlocks hW hS rfl (show inR (-15) by decide) dX4_reason_9
