set_option maxHeartbeats 4000000 in
set_option maxRecDepth 100000 in
theorem mT_addCode (l : Launch) (G : gG) (M0 : MemG) (x1 : Int) (hx1 : inR x1) (r : MemG × Int) (hf : fT_addCode M0 x1 = some r) : Met l yX0_addCode (wb yX0_addCode cX0_addCode 2 (some .int)) ({ frames := 1, cells := 0, slots := 0, locals := 22 } : Room) (PcG G M0 [.ref (gA G (2)), .int (i3 (x1))]) (QcI G r.1 r.2) 0 0 (PA G) := by
  refine Met.ofW (cc := cX0_addCode) (maxL := 2) (ret := (some .int)) (by decide) rfl ?_
  intro p e s m args below meth c s₁ B hml hv0
  obtain ⟨hav, hW⟩ := hv0
  have hx := B.exec
  have hb := B.bytes
  have hr := B.returns
  have hts := atoms_spec (ws := (wb yX0_addCode cX0_addCode 2 (some .int))) B.pre
  have hown : s.vm.findClass RX0 = some m.cls := findClass_of_methodNamed B.named
  have hlocks := B.notSynchronized
  have hinX0 : ∀ w ∈ u_ws RX0 TX0 6, w ∈ (wb yX0_addCode cX0_addCode 2 (some .int)) := fun _ h => List.mem_cons_of_mem _ (inlX0 _ h)
  have hW : Wd G M0 s s.heap := hW
  have hS : va_S (PA G) s.heap s.heap [] := va_S.rf
  have hl := lv_entry [.ref (gA G (2)), .int (i3 (x1))] (n := 2) (Nat.le_of_ble_eq_true rfl)
  have hent := lg_entry_eq m [.ref (gA G (2)), .int (i3 (x1))] 2
  rw [← hav] at hent
  rw [hent]
  clear hent
  generalize (lg_sl [.ref (gA G (2)), .int (i3 (x1))] ++ List.replicate (2 - (lg_sl [.ref (gA G (2)), .int (i3 (x1))]).length) Slot.unset).toArray = ls at hl ⊢
  have hl : lv_has ls 2 [(0, .ref (gA G (2))), (1, .int (i3 (x1)))] := hl
  unfold fT_addCode at hf
  show W p l e ({ frames := 1, cells := 0, slots := 0, locals := 22 } : Room) s m args below meth c s.heap [] 0 0 (MQ below (QcI G r.1 r.2) args s 0 0 (PA G)) (F0 m 0 ls [])
  refine lv_aload_n hx hb dX0_addCode_0 rfl (lv_at hl 0 rfl) ?_
  refine va_get (D := G.1) (ci := 0) (v := .int (i3 (M0 2 1))) (C := RX0) (T := TX0) (N := 6) hx hb hts hinX0 hown hW.K hW.P 2 (he_T G M0) rfl 1 (by decide) (hts _ (List.mem_cons_of_mem _ (inB_3 _ (List.mem_of_getElem? (i := 8) rfl)))) (fun _ h9 => h9) rfl dX0_addCode_1 ?_
  refine k_bipush hx hb dX0_addCode_4 (by decide +kernel) ?_
  refine k_icmp_lt (tgt := 12) hx hb (hW.R 2 1) (show inR (60) by decide) dX0_addCode_6 (by decide) (fun hc1 => ?_) (fun hc1 => ?_)
  · rw [if_pos hc1] at hf
    refine lv_aload_n hx hb dX0_addCode_12 rfl (lv_at hl 0 rfl) ?_
    refine va_get (D := G.1) (ci := 0) (v := .ref (gA G (82))) (C := RX0) (T := TX0) (N := 6) hx hb hts hinX0 hown hW.K hW.P 2 (he_T G M0) rfl 0 (by decide) (hts _ (List.mem_cons_of_mem _ (inB_3 _ (List.mem_of_getElem? (i := 7) rfl)))) (fun _ h9 => h9) rfl dX0_addCode_13 ?_
    refine lv_aload_n hx hb dX0_addCode_16 rfl (lv_at hl 0 rfl) ?_
    refine va_get (D := G.1) (ci := 0) (v := .int (i3 (M0 2 1))) (C := RX0) (T := TX0) (N := 6) hx hb hts hinX0 hown hW.K hW.P 2 (he_T G M0) rfl 1 (by decide) (hts _ (List.mem_cons_of_mem _ (inB_3 _ (List.mem_of_getElem? (i := 8) rfl)))) (fun _ h9 => h9) rfl dX0_addCode_17 ?_
    refine lv_iload_n hx hb dX0_addCode_20 rfl (lv_at hl 1 rfl) ?_
    obtain ⟨m2, hm2, hf⟩ := bind_el hf
    refine k_cNv (As := [.ref (gA G (82)), .int (i3 (M0 2 1)), .int (i3 (x1))]) (rest := []) ⟨hx, hb, hml, hown, hts⟩ (mG_put l G M0 (82) (by omega) (M0 2 1) (hW.R 2 1) x1 hx1 m2 hm2) ⟨va_cnB 3 hts (gbC (inB_6 _ (List.mem_of_getElem? (i := 0) rfl))) rfl rfl rfl (hW.N _ (List.mem_of_getElem? (i := 7) rfl)) (hts _ (List.mem_cons_of_mem _ (inB_1 _ (List.mem_of_getElem? (i := 2) rfl)))) (by decide +kernel) ⟨Nat.le_of_ble_eq_true rfl, Nat.le_of_ble_eq_true rfl⟩, (hts _ (List.mem_cons_of_mem _ (inB_5 _ (List.mem_of_getElem? (i := 23) rfl)))), trivial⟩ hW hS rfl hl.1 rfl (lv_room (Nat.le_of_ble_eq_true rfl)) dX0_addCode_21 ⟨Nat.zero_le _, Nat.zero_le _⟩ (fun H locs hW hS => ?_)
    refine lv_aload_n hx hb dX0_addCode_24 rfl (lv_at hl 0 rfl) ?_
    refine lv_dup hx hb dX0_addCode_25 rfl ?_
    refine va_get (D := G.1) (ci := 0) (v := .int (i3 (m2 2 1))) (C := RX0) (T := TX0) (N := 6) hx hb hts hinX0 hown hW.K hW.P 2 (he_T G m2) rfl 1 (by decide) (hts _ (List.mem_cons_of_mem _ (inB_3 _ (List.mem_of_getElem? (i := 8) rfl)))) (fun _ h9 => h9) rfl dX0_addCode_26 ?_
    refine k_const hx hb dX0_addCode_29 ?_
    refine k_add hx hb dX0_addCode_30 ?_
    obtain ⟨hg4, hf⟩ := gd_el hf
    obtain ⟨m5, hm5, hf⟩ := bind_el hf
    replace hm5 := some_el hm5
    refine k_put (C := RX0) (T := TX0) (N := 6) (ty := .int) (o := 2) hx hb hW hS hts hinX0 tyX0 tyX0_ok nmX0 hown (by decide) (pe_2 G _) rfl 1 (by decide) (pu_2_1 G _ _) (hts _ (List.mem_cons_of_mem _ (inB_3 _ (List.mem_of_getElem? (i := 8) rfl)))) rfl rfl (by decide +kernel) rfl rfl (Nat.le_of_ble_eq_true rfl) hg4 dX0_addCode_31 (fun H locs hW hS => ?_)
    rw [hm5] at hW
    refine lv_aload_n hx hb dX0_addCode_34 rfl (lv_at hl 0 rfl) ?_
    refine va_get (D := G.1) (ci := 0) (v := .int (i3 (m5 2 1))) (C := RX0) (T := TX0) (N := 6) hx hb hts hinX0 hown hW.K hW.P 2 (he_T G m5) rfl 1 (by decide) (hts _ (List.mem_cons_of_mem _ (inB_3 _ (List.mem_of_getElem? (i := 8) rfl)))) (fun _ h9 => h9) rfl dX0_addCode_35 ?_
    obtain rfl := some_el hf
    exact k_ret hx hb hr hlocks hW hS rfl (hW.R 2 1) dX0_addCode_38
  · rw [if_neg hc1] at hf
    refine k_bipush hx hb dX0_addCode_9 (by decide +kernel) ?_
    obtain rfl := some_el hf
    exact k_ret hx hb hr hlocks hW hS rfl (show inR (-13) by decide) dX0_addCode_11
set_option maxHeartbeats 4000000 in
set_option maxRecDepth 100000 in
theorem mP_keep (l : Launch) (G : gG) (M0 : MemG) (k : Nat) (hk : k < 11) (r : MemG) (hf : fP_keep M0 k = some r) : Met l yX2_keep (wb yX2_keep cX2_keep 2 none) ({ frames := 2, cells := 0, slots := 0, locals := 43 } : Room) (PcG G M0 [.ref (gA G (1)), .ref (gA G (5 + k))]) (QcV G r) 0 0 (PA G) := by
  refine Met.ofW (cc := cX2_keep) (maxL := 2) (ret := none) (by decide) rfl ?_
  intro p e s m args below meth c s₁ B hml hv0
  obtain ⟨hav, hW⟩ := hv0
  have hx := B.exec
  have hb := B.bytes
  have hr := B.returns
  have hts := atoms_spec (ws := (wb yX2_keep cX2_keep 2 none)) B.pre
  have hown : s.vm.findClass RX2 = some m.cls := findClass_of_methodNamed B.named
  have hlocks := B.notSynchronized
  have hinX2 : ∀ w ∈ u_ws RX2 TX2 3, w ∈ (wb yX2_keep cX2_keep 2 none) := fun _ h => List.mem_cons_of_mem _ (inlX2 _ h)
  have hW : Wd G M0 s s.heap := hW
  have hS : va_S (PA G) s.heap s.heap [] := va_S.rf
  have hl := lv_entry [.ref (gA G (1)), .ref (gA G (5 + k))] (n := 2) (Nat.le_of_ble_eq_true rfl)
  have hent := lg_entry_eq m [.ref (gA G (1)), .ref (gA G (5 + k))] 2
  rw [← hav] at hent
  rw [hent]
  clear hent
  generalize (lg_sl [.ref (gA G (1)), .ref (gA G (5 + k))] ++ List.replicate (2 - (lg_sl [.ref (gA G (1)), .ref (gA G (5 + k))]).length) Slot.unset).toArray = ls at hl ⊢
  have hl : lv_has ls 2 [(0, .ref (gA G (1))), (1, .ref (gA G (5 + k)))] := hl
  unfold fP_keep at hf
  show W p l e ({ frames := 2, cells := 0, slots := 0, locals := 43 } : Room) s m args below meth c s.heap [] 0 0 (MQ below (QcV G r) args s 0 0 (PA G)) (F0 m 0 ls [])
  have J2 : ∀ (M : MemG), fP_keep_j44 M k = some r →  ∀ (H : Heap) (locs : List Loc) (ls : Array Slot), Wd G M s H → va_S (PA G) s.heap H locs → lv_has ls 2 [(0, .ref (gA G (1)))] → W p l e ({ frames := 2, cells := 0, slots := 0, locals := 43 } : Room) s m args below meth c H locs 0 0 (MQ below (QcV G r) args s 0 0 (PA G)) (F0 m 44 ls []) := by
    intro M hf  H locs ls hW hS hl
    unfold fP_keep_j44 at hf
    refine lv_aload_n hx hb dX2_keep_44 rfl (lv_at hl 0 rfl) ?_
    refine lv_aload_n hx hb dX2_keep_45 rfl (lv_at hl 0 rfl) ?_
    refine va_get (D := G.1) (ci := 2) (v := .int (i3 (M 1 1))) (C := RX2) (T := TX2) (N := 3) hx hb hts hinX2 hown hW.K hW.P 1 (he_P G M) rfl 1 (by decide) (hts _ (List.mem_cons_of_mem _ (inB_3 _ (List.mem_of_getElem? (i := 1) rfl)))) (fun _ h9 => h9) rfl dX2_keep_46 ?_
    refine k_const hx hb dX2_keep_49 ?_
    refine k_add hx hb dX2_keep_50 ?_
    refine k_bipush hx hb dX2_keep_51 (by decide +kernel) ?_
    obtain ⟨hg3, hf⟩ := gd_el hf
    obtain ⟨hg4, hf⟩ := gq_el hf
    refine k_rem hx hb dX2_keep_53 hg3 (show inR (8) by decide) hg4 ?_
    obtain ⟨m5, hm5, hf⟩ := bind_el hf
    replace hm5 := some_el hm5
    refine k_put (C := RX2) (T := TX2) (N := 3) (ty := .int) (o := 1) hx hb hW hS hts hinX2 tyX2 tyX2_ok nmX2 hown (by decide) (pe_1 G _) rfl 1 (by decide) (pu_1_1 G _ _) (hts _ (List.mem_cons_of_mem _ (inB_3 _ (List.mem_of_getElem? (i := 1) rfl)))) rfl rfl (by decide +kernel) rfl rfl (Nat.le_of_ble_eq_true rfl) (inR_mod (show inR (8) by decide) hg4.2) dX2_keep_54 (fun H locs hW hS => ?_)
    rw [hm5] at hW
    refine lv_aload_n hx hb dX2_keep_57 rfl (lv_at hl 0 rfl) ?_
    refine lv_aload_n hx hb dX2_keep_58 rfl (lv_at hl 0 rfl) ?_
    refine va_get (D := G.1) (ci := 2) (v := .int (i3 (m5 1 2))) (C := RX2) (T := TX2) (N := 3) hx hb hts hinX2 hown hW.K hW.P 1 (he_P G m5) rfl 2 (by decide) (hts _ (List.mem_cons_of_mem _ (inB_3 _ (List.mem_of_getElem? (i := 2) rfl)))) (fun _ h9 => h9) rfl dX2_keep_59 ?_
    refine k_const hx hb dX2_keep_62 ?_
    refine k_add hx hb dX2_keep_63 ?_
    refine k_bipush hx hb dX2_keep_64 (by decide +kernel) ?_
    obtain ⟨hg6, hf⟩ := gd_el hf
    refine k_min hx hb (hml.trans hl.1.symm) hown (hts _ (List.mem_cons_of_mem _ (inB_7 _ (List.mem_of_getElem? (i := 15) rfl)))) (hts _ (List.mem_cons_of_mem _ (inB_7 _ (List.mem_of_getElem? (i := 16) rfl)))) (hts _ (List.mem_cons_of_mem _ (inB_7 _ (List.mem_of_getElem? (i := 17) rfl)))) (hts _ (List.mem_cons_of_mem _ (inB_7 _ (List.mem_of_getElem? (i := 18) rfl)))) (Nat.le_of_ble_eq_true rfl) (Nat.le_of_ble_eq_true rfl) (Nat.le_of_ble_eq_true rfl) (Nat.le_of_ble_eq_true rfl) hg6 (show inR (8) by decide) dX2_keep_66 ?_
    obtain ⟨m7, hm7, hf⟩ := bind_el hf
    replace hm7 := some_el hm7
    refine k_put (C := RX2) (T := TX2) (N := 3) (ty := .int) (o := 1) hx hb hW hS hts hinX2 tyX2 tyX2_ok nmX2 hown (by decide) (pe_1 G _) rfl 2 (by decide) (pu_1_2 G _ _) (hts _ (List.mem_cons_of_mem _ (inB_3 _ (List.mem_of_getElem? (i := 2) rfl)))) rfl rfl (by decide +kernel) rfl rfl (Nat.le_of_ble_eq_true rfl) (inR_min hg6 (show inR (8) by decide)) dX2_keep_69 (fun H locs hW hS => ?_)
    rw [hm7] at hW
    obtain rfl := some_el hf
    exact k_retv hx hb hr hlocks hW hS rfl dX2_keep_72
  refine lv_aload_n hx hb dX2_keep_0 rfl (lv_at hl 0 rfl) ?_
  refine va_get (D := G.1) (ci := 2) (v := .int (i3 (M0 1 1))) (C := RX2) (T := TX2) (N := 3) hx hb hts hinX2 hown hW.K hW.P 1 (he_P G M0) rfl 1 (by decide) (hts _ (List.mem_cons_of_mem _ (inB_3 _ (List.mem_of_getElem? (i := 1) rfl)))) (fun _ h9 => h9) rfl dX2_keep_1 ?_
  refine k_if_lt (tgt := 44) hx hb (hW.R 1 1) dX2_keep_4 (by decide) (fun hc1 => ?_) (fun hc1 => ?_)
  · rw [if_pos hc1] at hf
    exact J2 (M0) hf  _ _ _ hW hS (lv_sub hl [0] rfl)
  · rw [if_neg hc1] at hf
    refine lv_aload_n hx hb dX2_keep_7 rfl (lv_at hl 0 rfl) ?_
    refine va_get (D := G.1) (ci := 2) (v := .int (i3 (M0 1 1))) (C := RX2) (T := TX2) (N := 3) hx hb hts hinX2 hown hW.K hW.P 1 (he_P G M0) rfl 1 (by decide) (hts _ (List.mem_cons_of_mem _ (inB_3 _ (List.mem_of_getElem? (i := 1) rfl)))) (fun _ h9 => h9) rfl dX2_keep_8 ?_
    refine lv_aload_n hx hb dX2_keep_11 rfl (lv_at hl 0 rfl) ?_
    refine va_get (D := G.1) (ci := 2) (v := .ref (gA G (4))) (C := RX2) (T := TX2) (N := 3) hx hb hts hinX2 hown hW.K hW.P 1 (he_P G M0) rfl 0 (by decide) (hts _ (List.mem_cons_of_mem _ (inB_3 _ (List.mem_of_getElem? (i := 0) rfl)))) (fun _ h9 => h9) rfl dX2_keep_12 ?_
    refine k_walen hx hb hW dX2_keep_15 ?_
    refine k_icmp_ge (tgt := 44) hx hb (hW.R 1 1) (by decide) dX2_keep_16 (by decide) (fun hc8 => ?_) (fun hc8 => ?_)
    · rw [if_neg hc8] at hf
      exact J2 (M0) hf  _ _ _ hW hS (lv_sub hl [0] rfl)
    · rw [if_pos hc8] at hf
      refine lv_aload_n hx hb dX2_keep_19 rfl (lv_at hl 0 rfl) ?_
      refine va_get (D := G.1) (ci := 2) (v := .ref (gA G (4))) (C := RX2) (T := TX2) (N := 3) hx hb hts hinX2 hown hW.K hW.P 1 (he_P G M0) rfl 0 (by decide) (hts _ (List.mem_cons_of_mem _ (inB_3 _ (List.mem_of_getElem? (i := 0) rfl)))) (fun _ h9 => h9) rfl dX2_keep_20 ?_
      refine lv_aload_n hx hb dX2_keep_23 rfl (lv_at hl 0 rfl) ?_
      refine va_get (D := G.1) (ci := 2) (v := .int (i3 (M0 1 1))) (C := RX2) (T := TX2) (N := 3) hx hb hts hinX2 hown hW.K hW.P 1 (he_P G M0) rfl 1 (by decide) (hts _ (List.mem_cons_of_mem _ (inB_3 _ (List.mem_of_getElem? (i := 1) rfl)))) (fun _ h9 => h9) rfl dX2_keep_24 ?_
      refine k_aald hx hb hW (hW.R 1 1) (by omega) (by omega) dX2_keep_27 ?_
      refine lv_ifnull hx hb dX2_keep_28 ?_
      refine lv_aload_n hx hb dX2_keep_31 rfl (lv_at hl 0 rfl) ?_
      refine va_get (D := G.1) (ci := 2) (v := .ref (gA G (4))) (C := RX2) (T := TX2) (N := 3) hx hb hts hinX2 hown hW.K hW.P 1 (he_P G M0) rfl 0 (by decide) (hts _ (List.mem_cons_of_mem _ (inB_3 _ (List.mem_of_getElem? (i := 0) rfl)))) (fun _ h9 => h9) rfl dX2_keep_32 ?_
      refine lv_aload_n hx hb dX2_keep_35 rfl (lv_at hl 0 rfl) ?_
      refine va_get (D := G.1) (ci := 2) (v := .int (i3 (M0 1 1))) (C := RX2) (T := TX2) (N := 3) hx hb hts hinX2 hown hW.K hW.P 1 (he_P G M0) rfl 1 (by decide) (hts _ (List.mem_cons_of_mem _ (inB_3 _ (List.mem_of_getElem? (i := 1) rfl)))) (fun _ h9 => h9) rfl dX2_keep_36 ?_
      refine k_aald hx hb hW (hW.R 1 1) (by omega) (by omega) dX2_keep_39 ?_
      refine lv_aload_n hx hb dX2_keep_40 rfl (lv_at hl 1 rfl) ?_
      obtain ⟨m9, hm9, hf⟩ := bind_el hf
      refine k_cVv (As := [.ref (gA G (5 + k))]) (rest := []) ⟨hx, hb, hml, hown, hts⟩ (mW_copyFrom l G M0 ((3 + (M0 1 1).toNat)) (by omega) (k) hk m9 hm9) (cwV 1 hts (gbV (inB_7 _ (List.mem_of_getElem? (i := 19) rfl)) (inB_3 _ (List.mem_of_getElem? (i := 23) rfl)) (inB_4 _ (List.mem_of_getElem? (i := 0) rfl)) (inB_1 _ (List.mem_of_getElem? (i := 12) rfl)) (inB_4 _ (List.mem_of_getElem? (i := 1) rfl))) rfl rfl rfl (by decide +kernel) ⟨Nat.le_of_ble_eq_true rfl, Nat.le_of_ble_eq_true rfl⟩) (rv_wall (by omega) hW) hW hS rfl hl.1 rfl (lv_room (Nat.le_of_ble_eq_true rfl)) dX2_keep_41 ⟨Nat.zero_le _, Nat.zero_le _⟩ (fun H locs hW hS => ?_)
      exact J2 (m9) hf  _ _ _ hW hS (lv_sub hl [0] rfl)
set_option maxHeartbeats 4000000 in
set_option maxRecDepth 100000 in
theorem mP_forget (l : Launch) (G : gG) (M0 : MemG)  (r : MemG) (hf : fP_forget M0 = some r) : Met l yX2_forget (wb yX2_forget cX2_forget 1 none) ({ frames := 0, cells := 0, slots := 0, locals := 0 } : Room) (PcG G M0 [.ref (gA G (1))]) (QcV G r) 0 0 (PA G) := by
  refine Met.ofW (cc := cX2_forget) (maxL := 1) (ret := none) (by decide) rfl ?_
  intro p e s m args below meth c s₁ B hml hv0
  obtain ⟨hav, hW⟩ := hv0
  have hx := B.exec
  have hb := B.bytes
  have hr := B.returns
  have hts := atoms_spec (ws := (wb yX2_forget cX2_forget 1 none)) B.pre
  have hown : s.vm.findClass RX2 = some m.cls := findClass_of_methodNamed B.named
  have hlocks := B.notSynchronized
  have hinX2 : ∀ w ∈ u_ws RX2 TX2 3, w ∈ (wb yX2_forget cX2_forget 1 none) := fun _ h => List.mem_cons_of_mem _ (inlX2 _ h)
  have hW : Wd G M0 s s.heap := hW
  have hS : va_S (PA G) s.heap s.heap [] := va_S.rf
  have hl := lv_entry [.ref (gA G (1))] (n := 1) (Nat.le_of_ble_eq_true rfl)
  have hent := lg_entry_eq m [.ref (gA G (1))] 1
  rw [← hav] at hent
  rw [hent]
  clear hent
  generalize (lg_sl [.ref (gA G (1))] ++ List.replicate (1 - (lg_sl [.ref (gA G (1))]).length) Slot.unset).toArray = ls at hl ⊢
  have hl : lv_has ls 1 [(0, .ref (gA G (1)))] := hl
  unfold fP_forget at hf
  show W p l e ({ frames := 0, cells := 0, slots := 0, locals := 0 } : Room) s m args below meth c s.heap [] 0 0 (MQ below (QcV G r) args s 0 0 (PA G)) (F0 m 0 ls [])
  refine lv_aload_n hx hb dX2_forget_0 rfl (lv_at hl 0 rfl) ?_
  refine k_const hx hb dX2_forget_1 ?_
  obtain ⟨m1, hm1, hf⟩ := bind_el hf
  replace hm1 := some_el hm1
  refine k_put (C := RX2) (T := TX2) (N := 3) (ty := .int) (o := 1) hx hb hW hS hts hinX2 tyX2 tyX2_ok nmX2 hown (by decide) (pe_1 G _) rfl 2 (by decide) (pu_1_2 G _ _) (hts _ (List.mem_cons_of_mem _ (inB_3 _ (List.mem_of_getElem? (i := 2) rfl)))) rfl rfl (by decide +kernel) rfl rfl (Nat.le_of_ble_eq_true rfl) (show inR (0) by decide) dX2_forget_2 (fun H locs hW hS => ?_)
  rw [hm1] at hW
  obtain rfl := some_el hf
  exact k_retv hx hb hr hlocks hW hS rfl dX2_forget_5
set_option maxHeartbeats 4000000 in
set_option maxRecDepth 100000 in
theorem mT_becomeEmpty (l : Launch) (G : gG) (M0 : MemG)  (r : MemG) (hf : fT_becomeEmpty M0 = some r) : Met l yX0_becomeEmpty (wb yX0_becomeEmpty cX0_becomeEmpty 1 none) ({ frames := 0, cells := 0, slots := 0, locals := 0 } : Room) (PcG G M0 [.ref (gA G (2))]) (QcV G r) 0 0 (PA G) := by
  refine Met.ofW (cc := cX0_becomeEmpty) (maxL := 1) (ret := none) (by decide) rfl ?_
  intro p e s m args below meth c s₁ B hml hv0
  obtain ⟨hav, hW⟩ := hv0
  have hx := B.exec
  have hb := B.bytes
  have hr := B.returns
  have hts := atoms_spec (ws := (wb yX0_becomeEmpty cX0_becomeEmpty 1 none)) B.pre
  have hown : s.vm.findClass RX0 = some m.cls := findClass_of_methodNamed B.named
  have hlocks := B.notSynchronized
  have hinX0 : ∀ w ∈ u_ws RX0 TX0 6, w ∈ (wb yX0_becomeEmpty cX0_becomeEmpty 1 none) := fun _ h => List.mem_cons_of_mem _ (inlX0 _ h)
  have hW : Wd G M0 s s.heap := hW
  have hS : va_S (PA G) s.heap s.heap [] := va_S.rf
  have hl := lv_entry [.ref (gA G (2))] (n := 1) (Nat.le_of_ble_eq_true rfl)
  have hent := lg_entry_eq m [.ref (gA G (2))] 1
  rw [← hav] at hent
  rw [hent]
  clear hent
  generalize (lg_sl [.ref (gA G (2))] ++ List.replicate (1 - (lg_sl [.ref (gA G (2))]).length) Slot.unset).toArray = ls at hl ⊢
  have hl : lv_has ls 1 [(0, .ref (gA G (2)))] := hl
  unfold fT_becomeEmpty at hf
  show W p l e ({ frames := 0, cells := 0, slots := 0, locals := 0 } : Room) s m args below meth c s.heap [] 0 0 (MQ below (QcV G r) args s 0 0 (PA G)) (F0 m 0 ls [])
  refine lv_aload_n hx hb dX0_becomeEmpty_0 rfl (lv_at hl 0 rfl) ?_
  refine k_const hx hb dX0_becomeEmpty_1 ?_
  obtain ⟨m1, hm1, hf⟩ := bind_el hf
  replace hm1 := some_el hm1
  refine k_put (C := RX0) (T := TX0) (N := 6) (ty := .int) (o := 2) hx hb hW hS hts hinX0 tyX0 tyX0_ok nmX0 hown (by decide) (pe_2 G _) rfl 1 (by decide) (pu_2_1 G _ _) (hts _ (List.mem_cons_of_mem _ (inB_3 _ (List.mem_of_getElem? (i := 8) rfl)))) rfl rfl (by decide +kernel) rfl rfl (Nat.le_of_ble_eq_true rfl) (show inR (0) by decide) dX0_becomeEmpty_2 (fun H locs hW hS => ?_)
  rw [hm1] at hW
  obtain rfl := some_el hf
  exact k_retv hx hb hr hlocks hW hS rfl dX0_becomeEmpty_5
set_option maxHeartbeats 4000000 in
set_option maxRecDepth 100000 in
theorem mT_commandCount (l : Launch) (G : gG) (M0 : MemG)  (r : Int) (hf : fT_commandCount M0 = r) : Met l yX0_commandCount (wb yX0_commandCount cX0_commandCount 1 (some .int)) ({ frames := 0, cells := 0, slots := 0, locals := 0 } : Room) (PcG G M0 [.ref (gA G (2))]) (QcI G M0 r) 0 0 (PA G) := by
  refine Met.ofW (cc := cX0_commandCount) (maxL := 1) (ret := (some .int)) (by decide) rfl ?_
  intro p e s m args below meth c s₁ B hml hv0
  obtain ⟨hav, hW⟩ := hv0
  have hx := B.exec
  have hb := B.bytes
  have hr := B.returns
  have hts := atoms_spec (ws := (wb yX0_commandCount cX0_commandCount 1 (some .int))) B.pre
  have hown : s.vm.findClass RX0 = some m.cls := findClass_of_methodNamed B.named
  have hlocks := B.notSynchronized
  have hinX0 : ∀ w ∈ u_ws RX0 TX0 6, w ∈ (wb yX0_commandCount cX0_commandCount 1 (some .int)) := fun _ h => List.mem_cons_of_mem _ (inlX0 _ h)
  have hW : Wd G M0 s s.heap := hW
  have hS : va_S (PA G) s.heap s.heap [] := va_S.rf
  have hl := lv_entry [.ref (gA G (2))] (n := 1) (Nat.le_of_ble_eq_true rfl)
  have hent := lg_entry_eq m [.ref (gA G (2))] 1
  rw [← hav] at hent
  rw [hent]
  clear hent
  generalize (lg_sl [.ref (gA G (2))] ++ List.replicate (1 - (lg_sl [.ref (gA G (2))]).length) Slot.unset).toArray = ls at hl ⊢
  have hl : lv_has ls 1 [(0, .ref (gA G (2)))] := hl
  unfold fT_commandCount at hf
  show W p l e ({ frames := 0, cells := 0, slots := 0, locals := 0 } : Room) s m args below meth c s.heap [] 0 0 (MQ below (QcI G M0 r) args s 0 0 (PA G)) (F0 m 0 ls [])
  refine lv_aload_n hx hb dX0_commandCount_0 rfl (lv_at hl 0 rfl) ?_
  refine va_get (D := G.1) (ci := 0) (v := .int (i3 (M0 2 3))) (C := RX0) (T := TX0) (N := 6) hx hb hts hinX0 hown hW.K hW.P 2 (he_T G M0) rfl 3 (by decide) (hts _ (List.mem_cons_of_mem _ (inB_3 _ (List.mem_of_getElem? (i := 10) rfl)))) (fun _ h9 => h9) rfl dX0_commandCount_1 ?_
  subst hf
  exact k_ret hx hb hr hlocks hW hS rfl (hW.R 2 3) dX0_commandCount_4
set_option maxHeartbeats 4000000 in
set_option maxRecDepth 100000 in
theorem mT_faultPosition (l : Launch) (G : gG) (M0 : MemG)  (r : Int) (hf : fT_faultPosition M0 = r) : Met l yX0_faultPosition (wb yX0_faultPosition cX0_faultPosition 1 (some .int)) ({ frames := 0, cells := 0, slots := 0, locals := 0 } : Room) (PcG G M0 [.ref (gA G (2))]) (QcI G M0 r) 0 0 (PA G) := by
  refine Met.ofW (cc := cX0_faultPosition) (maxL := 1) (ret := (some .int)) (by decide) rfl ?_
  intro p e s m args below meth c s₁ B hml hv0
  obtain ⟨hav, hW⟩ := hv0
  have hx := B.exec
  have hb := B.bytes
  have hr := B.returns
  have hts := atoms_spec (ws := (wb yX0_faultPosition cX0_faultPosition 1 (some .int))) B.pre
  have hown : s.vm.findClass RX0 = some m.cls := findClass_of_methodNamed B.named
  have hlocks := B.notSynchronized
  have hinX0 : ∀ w ∈ u_ws RX0 TX0 6, w ∈ (wb yX0_faultPosition cX0_faultPosition 1 (some .int)) := fun _ h => List.mem_cons_of_mem _ (inlX0 _ h)
  have hW : Wd G M0 s s.heap := hW
  have hS : va_S (PA G) s.heap s.heap [] := va_S.rf
  have hl := lv_entry [.ref (gA G (2))] (n := 1) (Nat.le_of_ble_eq_true rfl)
  have hent := lg_entry_eq m [.ref (gA G (2))] 1
  rw [← hav] at hent
  rw [hent]
  clear hent
  generalize (lg_sl [.ref (gA G (2))] ++ List.replicate (1 - (lg_sl [.ref (gA G (2))]).length) Slot.unset).toArray = ls at hl ⊢
  have hl : lv_has ls 1 [(0, .ref (gA G (2)))] := hl
  unfold fT_faultPosition at hf
  show W p l e ({ frames := 0, cells := 0, slots := 0, locals := 0 } : Room) s m args below meth c s.heap [] 0 0 (MQ below (QcI G M0 r) args s 0 0 (PA G)) (F0 m 0 ls [])
  refine lv_aload_n hx hb dX0_faultPosition_0 rfl (lv_at hl 0 rfl) ?_
  refine va_get (D := G.1) (ci := 0) (v := .int (i3 (M0 2 5))) (C := RX0) (T := TX0) (N := 6) hx hb hts hinX0 hown hW.K hW.P 2 (he_T G M0) rfl 5 (by decide) (hts _ (List.mem_cons_of_mem _ (inB_3 _ (List.mem_of_getElem? (i := 12) rfl)))) (fun _ h9 => h9) rfl dX0_faultPosition_1 ?_
  subst hf
  exact k_ret hx hb hr hlocks hW hS rfl (hW.R 2 5) dX0_faultPosition_4
set_option maxHeartbeats 4000000 in
set_option maxRecDepth 100000 in
theorem mT_nextCode (l : Launch) (G : gG) (M0 : MemG)  (r : Int) (hf : fT_nextCode M0 = r) : Met l yX0_nextCode (wb yX0_nextCode cX0_nextCode 1 (some .int)) ({ frames := 1, cells := 0, slots := 0, locals := 21 } : Room) (PcG G M0 [.ref (gA G (2))]) (QcI G M0 r) 0 0 (PA G) := by
  refine Met.ofW (cc := cX0_nextCode) (maxL := 1) (ret := (some .int)) (by decide) rfl ?_
  intro p e s m args below meth c s₁ B hml hv0
  obtain ⟨hav, hW⟩ := hv0
  have hx := B.exec
  have hb := B.bytes
  have hr := B.returns
  have hts := atoms_spec (ws := (wb yX0_nextCode cX0_nextCode 1 (some .int))) B.pre
  have hown : s.vm.findClass RX0 = some m.cls := findClass_of_methodNamed B.named
  have hlocks := B.notSynchronized
  have hinX0 : ∀ w ∈ u_ws RX0 TX0 6, w ∈ (wb yX0_nextCode cX0_nextCode 1 (some .int)) := fun _ h => List.mem_cons_of_mem _ (inlX0 _ h)
  have hW : Wd G M0 s s.heap := hW
  have hS : va_S (PA G) s.heap s.heap [] := va_S.rf
  have hl := lv_entry [.ref (gA G (2))] (n := 1) (Nat.le_of_ble_eq_true rfl)
  have hent := lg_entry_eq m [.ref (gA G (2))] 1
  rw [← hav] at hent
  rw [hent]
  clear hent
  generalize (lg_sl [.ref (gA G (2))] ++ List.replicate (1 - (lg_sl [.ref (gA G (2))]).length) Slot.unset).toArray = ls at hl ⊢
  have hl : lv_has ls 1 [(0, .ref (gA G (2)))] := hl
  unfold fT_nextCode at hf
  show W p l e ({ frames := 1, cells := 0, slots := 0, locals := 21 } : Room) s m args below meth c s.heap [] 0 0 (MQ below (QcI G M0 r) args s 0 0 (PA G)) (F0 m 0 ls [])
  refine lv_aload_n hx hb dX0_nextCode_0 rfl (lv_at hl 0 rfl) ?_
  refine va_get (D := G.1) (ci := 0) (v := .int (i3 (M0 2 5))) (C := RX0) (T := TX0) (N := 6) hx hb hts hinX0 hown hW.K hW.P 2 (he_T G M0) rfl 5 (by decide) (hts _ (List.mem_cons_of_mem _ (inB_3 _ (List.mem_of_getElem? (i := 12) rfl)))) (fun _ h9 => h9) rfl dX0_nextCode_1 ?_
  refine lv_aload_n hx hb dX0_nextCode_4 rfl (lv_at hl 0 rfl) ?_
  refine va_get (D := G.1) (ci := 0) (v := .int (i3 (M0 2 1))) (C := RX0) (T := TX0) (N := 6) hx hb hts hinX0 hown hW.K hW.P 2 (he_T G M0) rfl 1 (by decide) (hts _ (List.mem_cons_of_mem _ (inB_3 _ (List.mem_of_getElem? (i := 8) rfl)))) (fun _ h9 => h9) rfl dX0_nextCode_5 ?_
  refine k_icmp_ge (tgt := 25) hx hb (hW.R 2 5) (hW.R 2 1) dX0_nextCode_8 (by decide) (fun hc1 => ?_) (fun hc1 => ?_)
  · rw [if_neg hc1] at hf
    refine k_bipush hx hb dX0_nextCode_25 (by decide +kernel) ?_
    subst hf
    exact k_ret hx hb hr hlocks hW hS rfl (show inR (-11) by decide) dX0_nextCode_27
  · rw [if_pos hc1] at hf
    refine lv_aload_n hx hb dX0_nextCode_11 rfl (lv_at hl 0 rfl) ?_
    refine va_get (D := G.1) (ci := 0) (v := .ref (gA G (82))) (C := RX0) (T := TX0) (N := 6) hx hb hts hinX0 hown hW.K hW.P 2 (he_T G M0) rfl 0 (by decide) (hts _ (List.mem_cons_of_mem _ (inB_3 _ (List.mem_of_getElem? (i := 7) rfl)))) (fun _ h9 => h9) rfl dX0_nextCode_12 ?_
    refine lv_aload_n hx hb dX0_nextCode_15 rfl (lv_at hl 0 rfl) ?_
    refine va_get (D := G.1) (ci := 0) (v := .int (i3 (M0 2 5))) (C := RX0) (T := TX0) (N := 6) hx hb hts hinX0 hown hW.K hW.P 2 (he_T G M0) rfl 5 (by decide) (hts _ (List.mem_cons_of_mem _ (inB_3 _ (List.mem_of_getElem? (i := 12) rfl)))) (fun _ h9 => h9) rfl dX0_nextCode_16 ?_
    refine k_cNi (As := [.ref (gA G (82)), .int (i3 (M0 2 5))]) (rest := []) ⟨hx, hb, hml, hown, hts⟩ (mG_at l G M0 (82) (by omega) (M0 2 5) (hW.R 2 5) _ rfl) ⟨va_cnB 2 hts (gbC (inB_5 _ (List.mem_of_getElem? (i := 2) rfl))) rfl rfl rfl (hW.N _ (List.mem_of_getElem? (i := 6) rfl)) (hts _ (List.mem_cons_of_mem _ (inB_1 _ (List.mem_of_getElem? (i := 2) rfl)))) (by decide +kernel) ⟨Nat.le_of_ble_eq_true rfl, Nat.le_of_ble_eq_true rfl⟩, (hts _ (List.mem_cons_of_mem _ (inB_5 _ (List.mem_of_getElem? (i := 1) rfl)))), trivial⟩ hW hS rfl hl.1 rfl (lv_room (Nat.le_of_ble_eq_true rfl)) dX0_nextCode_19 ⟨Nat.zero_le _, Nat.zero_le _⟩ (fun hv2 H locs hW hS => ?_)
    refine lv_goto (tgt := 27) hx hb dX0_nextCode_22 (by decide) ?_
    subst hf
    exact k_ret hx hb hr hlocks hW hS rfl hv2 dX0_nextCode_27
set_option maxHeartbeats 4000000 in
set_option maxRecDepth 100000 in
theorem mT_readCode (l : Launch) (G : gG) (M0 : MemG) (x1 : Int) (hx1 : inR x1) (r : MemG × Int) (hf : fT_readCode M0 x1 = some r) : Met l yX0_readCode (wb yX0_readCode cX0_readCode 2 (some .boolean)) ({ frames := 2, cells := 0, slots := 0, locals := 41 } : Room) (PcG G M0 [.ref (gA G (2)), .int (i3 (x1))]) (QcZ G r.1 r.2) 0 0 (PA G) := by
  refine Met.ofW (cc := cX0_readCode) (maxL := 2) (ret := (some .boolean)) (by decide) rfl ?_
  intro p e s m args below meth c s₁ B hml hv0
  obtain ⟨hav, hW⟩ := hv0
  have hx := B.exec
  have hb := B.bytes
  have hr := B.returns
  have hts := atoms_spec (ws := (wb yX0_readCode cX0_readCode 2 (some .boolean))) B.pre
  have hown : s.vm.findClass RX0 = some m.cls := findClass_of_methodNamed B.named
  have hlocks := B.notSynchronized
  have hinX0 : ∀ w ∈ u_ws RX0 TX0 6, w ∈ (wb yX0_readCode cX0_readCode 2 (some .boolean)) := fun _ h => List.mem_cons_of_mem _ (inlX0 _ h)
  have hW : Wd G M0 s s.heap := hW
  have hS : va_S (PA G) s.heap s.heap [] := va_S.rf
  have hl := lv_entry [.ref (gA G (2)), .int (i3 (x1))] (n := 2) (Nat.le_of_ble_eq_true rfl)
  have hent := lg_entry_eq m [.ref (gA G (2)), .int (i3 (x1))] 2
  rw [← hav] at hent
  rw [hent]
  clear hent
  generalize (lg_sl [.ref (gA G (2)), .int (i3 (x1))] ++ List.replicate (2 - (lg_sl [.ref (gA G (2)), .int (i3 (x1))]).length) Slot.unset).toArray = ls at hl ⊢
  have hl : lv_has ls 2 [(0, .ref (gA G (2))), (1, .int (i3 (x1)))] := hl
  unfold fT_readCode at hf
  show W p l e ({ frames := 2, cells := 0, slots := 0, locals := 41 } : Room) s m args below meth c s.heap [] 0 0 (MQ below (QcZ G r.1 r.2) args s 0 0 (PA G)) (F0 m 0 ls [])
  refine lv_aload_n hx hb dX0_readCode_0 rfl (lv_at hl 0 rfl) ?_
  refine k_cVi (As := []) (rest := []) ⟨hx, hb, hml, hown, hts⟩ (mT_nextCode l G M0 _ rfl) (cwV 0 hts (gbV (inB_17 _ (List.mem_of_getElem? (i := 18) rfl)) (inB_17 _ (List.mem_of_getElem? (i := 19) rfl)) (inB_17 _ (List.mem_of_getElem? (i := 20) rfl)) (inB_1 _ (List.mem_of_getElem? (i := 23) rfl)) (inB_17 _ (List.mem_of_getElem? (i := 21) rfl))) rfl rfl rfl (by decide +kernel) ⟨Nat.le_of_ble_eq_true rfl, Nat.le_of_ble_eq_true rfl⟩) (rv_T hW) hW hS rfl hl.1 rfl (lv_room (Nat.le_of_ble_eq_true rfl)) dX0_readCode_1 ⟨Nat.zero_le _, Nat.zero_le _⟩ (fun hv1 H locs hW hS => ?_)
  refine lv_iload_n hx hb dX0_readCode_4 rfl (lv_at hl 1 rfl) ?_
  refine k_icmp_eq (tgt := 10) hx hb hv1 hx1 dX0_readCode_5 (by decide) (fun hc2 => ?_) (fun hc2 => ?_)
  · rw [if_pos hc2] at hf
    refine lv_aload_n hx hb dX0_readCode_10 rfl (lv_at hl 0 rfl) ?_
    refine lv_dup hx hb dX0_readCode_11 rfl ?_
    refine va_get (D := G.1) (ci := 0) (v := .int (i3 (M0 2 5))) (C := RX0) (T := TX0) (N := 6) hx hb hts hinX0 hown hW.K hW.P 2 (he_T G M0) rfl 5 (by decide) (hts _ (List.mem_cons_of_mem _ (inB_3 _ (List.mem_of_getElem? (i := 12) rfl)))) (fun _ h9 => h9) rfl dX0_readCode_12 ?_
    refine k_const hx hb dX0_readCode_15 ?_
    refine k_add hx hb dX0_readCode_16 ?_
    obtain ⟨hg3, hf⟩ := gd_el hf
    obtain ⟨m4, hm4, hf⟩ := bind_el hf
    replace hm4 := some_el hm4
    refine k_put (C := RX0) (T := TX0) (N := 6) (ty := .int) (o := 2) hx hb hW hS hts hinX0 tyX0 tyX0_ok nmX0 hown (by decide) (pe_2 G _) rfl 5 (by decide) (pu_2_5 G _ _) (hts _ (List.mem_cons_of_mem _ (inB_3 _ (List.mem_of_getElem? (i := 12) rfl)))) rfl rfl (by decide +kernel) rfl rfl (Nat.le_of_ble_eq_true rfl) hg3 dX0_readCode_17 (fun H locs hW hS => ?_)
    rw [hm4] at hW
    refine k_const hx hb dX0_readCode_20 ?_
    obtain rfl := some_el hf
    exact k_retz hx hb hr hlocks hW hS rfl (show (1 : Int) = 0 ∨ (1 : Int) = 1 by decide) dX0_readCode_21
  · rw [if_neg hc2] at hf
    refine k_const hx hb dX0_readCode_8 ?_
    obtain rfl := some_el hf
    exact k_retz hx hb hr hlocks hW hS rfl (show (0 : Int) = 0 ∨ (0 : Int) = 1 by decide) dX0_readCode_9
set_option maxHeartbeats 4000000 in
set_option maxRecDepth 100000 in
theorem mT_addCell (l : Launch) (G : gG) (M0 : MemG) (x1 : Int) (hx1 : inR x1) (r : MemG) (hf : fT_addCell M0 x1 = some r) : Met l yX0_addCell (wb yX0_addCell cX0_addCell 2 none) ({ frames := 1, cells := 0, slots := 0, locals := 22 } : Room) (PcG G M0 [.ref (gA G (2)), .int (i3 (x1))]) (QcV G r) 0 0 (PA G) := by
  refine Met.ofW (cc := cX0_addCell) (maxL := 2) (ret := none) (by decide) rfl ?_
  intro p e s m args below meth c s₁ B hml hv0
  obtain ⟨hav, hW⟩ := hv0
  have hx := B.exec
  have hb := B.bytes
  have hr := B.returns
  have hts := atoms_spec (ws := (wb yX0_addCell cX0_addCell 2 none)) B.pre
  have hown : s.vm.findClass RX0 = some m.cls := findClass_of_methodNamed B.named
  have hlocks := B.notSynchronized
  have hinX0 : ∀ w ∈ u_ws RX0 TX0 6, w ∈ (wb yX0_addCell cX0_addCell 2 none) := fun _ h => List.mem_cons_of_mem _ (inlX0 _ h)
  have hW : Wd G M0 s s.heap := hW
  have hS : va_S (PA G) s.heap s.heap [] := va_S.rf
  have hl := lv_entry [.ref (gA G (2)), .int (i3 (x1))] (n := 2) (Nat.le_of_ble_eq_true rfl)
  have hent := lg_entry_eq m [.ref (gA G (2)), .int (i3 (x1))] 2
  rw [← hav] at hent
  rw [hent]
  clear hent
  generalize (lg_sl [.ref (gA G (2)), .int (i3 (x1))] ++ List.replicate (2 - (lg_sl [.ref (gA G (2)), .int (i3 (x1))]).length) Slot.unset).toArray = ls at hl ⊢
  have hl : lv_has ls 2 [(0, .ref (gA G (2))), (1, .int (i3 (x1)))] := hl
  unfold fT_addCell at hf
  show W p l e ({ frames := 1, cells := 0, slots := 0, locals := 22 } : Room) s m args below meth c s.heap [] 0 0 (MQ below (QcV G r) args s 0 0 (PA G)) (F0 m 0 ls [])
  refine lv_aload_n hx hb dX0_addCell_0 rfl (lv_at hl 0 rfl) ?_
  refine va_get (D := G.1) (ci := 0) (v := .ref (gA G (83))) (C := RX0) (T := TX0) (N := 6) hx hb hts hinX0 hown hW.K hW.P 2 (he_T G M0) rfl 2 (by decide) (hts _ (List.mem_cons_of_mem _ (inB_3 _ (List.mem_of_getElem? (i := 9) rfl)))) (fun _ h9 => h9) rfl dX0_addCell_1 ?_
  refine lv_aload_n hx hb dX0_addCell_4 rfl (lv_at hl 0 rfl) ?_
  refine va_get (D := G.1) (ci := 0) (v := .int (i3 (M0 2 4))) (C := RX0) (T := TX0) (N := 6) hx hb hts hinX0 hown hW.K hW.P 2 (he_T G M0) rfl 4 (by decide) (hts _ (List.mem_cons_of_mem _ (inB_3 _ (List.mem_of_getElem? (i := 11) rfl)))) (fun _ h9 => h9) rfl dX0_addCell_5 ?_
  refine lv_iload_n hx hb dX0_addCell_8 rfl (lv_at hl 1 rfl) ?_
  obtain ⟨m1, hm1, hf⟩ := bind_el hf
  refine k_cNv (As := [.ref (gA G (83)), .int (i3 (M0 2 4)), .int (i3 (x1))]) (rest := []) ⟨hx, hb, hml, hown, hts⟩ (mG_put l G M0 (83) (by omega) (M0 2 4) (hW.R 2 4) x1 hx1 m1 hm1) ⟨va_cnB 3 hts (gbC (inB_6 _ (List.mem_of_getElem? (i := 0) rfl))) rfl rfl rfl (hW.N _ (List.mem_of_getElem? (i := 7) rfl)) (hts _ (List.mem_cons_of_mem _ (inB_1 _ (List.mem_of_getElem? (i := 2) rfl)))) (by decide +kernel) ⟨Nat.le_of_ble_eq_true rfl, Nat.le_of_ble_eq_true rfl⟩, (hts _ (List.mem_cons_of_mem _ (inB_5 _ (List.mem_of_getElem? (i := 23) rfl)))), trivial⟩ hW hS rfl hl.1 rfl (lv_room (Nat.le_of_ble_eq_true rfl)) dX0_addCell_9 ⟨Nat.zero_le _, Nat.zero_le _⟩ (fun H locs hW hS => ?_)
  refine lv_aload_n hx hb dX0_addCell_12 rfl (lv_at hl 0 rfl) ?_
  refine lv_dup hx hb dX0_addCell_13 rfl ?_
  refine va_get (D := G.1) (ci := 0) (v := .int (i3 (m1 2 4))) (C := RX0) (T := TX0) (N := 6) hx hb hts hinX0 hown hW.K hW.P 2 (he_T G m1) rfl 4 (by decide) (hts _ (List.mem_cons_of_mem _ (inB_3 _ (List.mem_of_getElem? (i := 11) rfl)))) (fun _ h9 => h9) rfl dX0_addCell_14 ?_
  refine k_const hx hb dX0_addCell_17 ?_
  refine k_add hx hb dX0_addCell_18 ?_
  obtain ⟨hg3, hf⟩ := gd_el hf
  obtain ⟨m4, hm4, hf⟩ := bind_el hf
  replace hm4 := some_el hm4
  refine k_put (C := RX0) (T := TX0) (N := 6) (ty := .int) (o := 2) hx hb hW hS hts hinX0 tyX0 tyX0_ok nmX0 hown (by decide) (pe_2 G _) rfl 4 (by decide) (pu_2_4 G _ _) (hts _ (List.mem_cons_of_mem _ (inB_3 _ (List.mem_of_getElem? (i := 11) rfl)))) rfl rfl (by decide +kernel) rfl rfl (Nat.le_of_ble_eq_true rfl) hg3 dX0_addCell_19 (fun H locs hW hS => ?_)
  rw [hm4] at hW
  obtain rfl := some_el hf
  exact k_retv hx hb hr hlocks hW hS rfl dX0_addCell_22
set_option maxHeartbeats 4000000 in
set_option maxRecDepth 100000 in
theorem mT_patternOf (l : Launch) (G : gG) (M0 : MemG) (x0 : Int) (hx0 : inR x0) (r : Nat) (hf : fT_patternOf x0 = r) : Met l yX0_patternOf (wb yX0_patternOf cX0_patternOf 1 (some (.object "java/lang/String"))) ({ frames := 0, cells := 0, slots := 0, locals := 0 } : Room) (PcG G M0 [.int (i3 (x0))]) (QcA G M0 (100 + r)) 0 0 (PA G) := by
  refine Met.ofW (cc := cX0_patternOf) (maxL := 1) (ret := (some (.object "java/lang/String"))) (by decide) rfl ?_
  intro p e s m args below meth c s₁ B hml hv0
  obtain ⟨hav, hW⟩ := hv0
  have hx := B.exec
  have hb := B.bytes
  have hr := B.returns
  have hts := atoms_spec (ws := (wb yX0_patternOf cX0_patternOf 1 (some (.object "java/lang/String")))) B.pre
  have hown : s.vm.findClass RX0 = some m.cls := findClass_of_methodNamed B.named
  have hlocks := B.notSynchronized
  have hW : Wd G M0 s s.heap := hW
  have hS : va_S (PA G) s.heap s.heap [] := va_S.rf
  have hl := lv_entry [.int (i3 (x0))] (n := 1) (Nat.le_of_ble_eq_true rfl)
  have hent := lg_entry_eq m [.int (i3 (x0))] 1
  rw [← hav] at hent
  rw [hent]
  clear hent
  generalize (lg_sl [.int (i3 (x0))] ++ List.replicate (1 - (lg_sl [.int (i3 (x0))]).length) Slot.unset).toArray = ls at hl ⊢
  have hl : lv_has ls 1 [(0, .int (i3 (x0)))] := hl
  unfold fT_patternOf at hf
  show W p l e ({ frames := 0, cells := 0, slots := 0, locals := 0 } : Room) s m args below meth c s.heap [] 0 0 (MQ below (QcA G M0 (100 + r)) args s 0 0 (PA G)) (F0 m 0 ls [])
  refine lv_iload_n hx hb dX0_patternOf_0 rfl (lv_at hl 0 rfl) ?_
  by_cases hc1 : x0 = 0
  · rw [if_pos hc1] at hf
    refine k_tin (tgt := 40) hx hb hx0 dX0_patternOf_1 (by omega) (by omega) (by rw [hc1]; rfl) (by decide) ?_
    refine va_ldcS (q := gA G (100 + 0)) hx hb hown hW.V.1 dX0_patternOf_40 ?_
    subst hf
    exact k_reta (i := 100 + 0) hx hb hr (Or.inl ⟨_, rfl⟩) hlocks hW hS rfl dX0_patternOf_42
  · rw [if_neg hc1] at hf
    by_cases hc2 : x0 = 1
    · rw [if_pos hc2] at hf
      refine k_tin (tgt := 43) hx hb hx0 dX0_patternOf_1 (by omega) (by omega) (by rw [hc2]; rfl) (by decide) ?_
      refine va_ldcS (q := gA G (100 + 1)) hx hb hown hW.V.2.1 dX0_patternOf_43 ?_
      subst hf
      exact k_reta (i := 100 + 1) hx hb hr (Or.inl ⟨_, rfl⟩) hlocks hW hS rfl dX0_patternOf_45
    · rw [if_neg hc2] at hf
      by_cases hc3 : x0 = 2
      · rw [if_pos hc3] at hf
        refine k_tin (tgt := 46) hx hb hx0 dX0_patternOf_1 (by omega) (by omega) (by rw [hc3]; rfl) (by decide) ?_
        refine va_ldcS (q := gA G (100 + 2)) hx hb hown hW.V.2.2.1 dX0_patternOf_46 ?_
        subst hf
        exact k_reta (i := 100 + 2) hx hb hr (Or.inl ⟨_, rfl⟩) hlocks hW hS rfl dX0_patternOf_48
      · rw [if_neg hc3] at hf
        by_cases hc4 : x0 = 3
        · rw [if_pos hc4] at hf
          refine k_tin (tgt := 49) hx hb hx0 dX0_patternOf_1 (by omega) (by omega) (by rw [hc4]; rfl) (by decide) ?_
          refine va_ldcS (q := gA G (100 + 3)) hx hb hown hW.V.2.2.2.1 dX0_patternOf_49 ?_
          subst hf
          exact k_reta (i := 100 + 3) hx hb hr (Or.inl ⟨_, rfl⟩) hlocks hW hS rfl dX0_patternOf_51
        · rw [if_neg hc4] at hf
          by_cases hc5 : x0 = 4
          · rw [if_pos hc5] at hf
            refine k_tin (tgt := 52) hx hb hx0 dX0_patternOf_1 (by omega) (by omega) (by rw [hc5]; rfl) (by decide) ?_
            refine va_ldcS (q := gA G (100 + 4)) hx hb hown hW.V.2.2.2.2.1 dX0_patternOf_52 ?_
            subst hf
            exact k_reta (i := 100 + 4) hx hb hr (Or.inl ⟨_, rfl⟩) hlocks hW hS rfl dX0_patternOf_54
          · rw [if_neg hc5] at hf
            by_cases hc6 : x0 = 5
            · rw [if_pos hc6] at hf
              refine k_tin (tgt := 55) hx hb hx0 dX0_patternOf_1 (by omega) (by omega) (by rw [hc6]; rfl) (by decide) ?_
              refine va_ldcS (q := gA G (100 + 5)) hx hb hown hW.V.2.2.2.2.2.1 dX0_patternOf_55 ?_
              subst hf
              exact k_reta (i := 100 + 5) hx hb hr (Or.inl ⟨_, rfl⟩) hlocks hW hS rfl dX0_patternOf_57
            · rw [if_neg hc6] at hf
              refine k_tdef (tgt := 58) hx hb hx0 dX0_patternOf_1 (by rcases (show x0 < 0 ∨ 5 < x0 by omega) with h9 | h9; exact Or.inl (by omega); exact Or.inl (by omega)) (by decide) ?_
              refine va_ldcS (q := gA G (100 + 6)) hx hb hown hW.V.2.2.2.2.2.2 dX0_patternOf_58 ?_
              subst hf
              exact k_reta (i := 100 + 6) hx hb hr (Or.inl ⟨_, rfl⟩) hlocks hW hS rfl dX0_patternOf_60
set_option maxHeartbeats 4000000 in
set_option maxRecDepth 100000 in
theorem mT_readKind (l : Launch) (G : gG) (M0 : MemG)  (r : MemG × Int) (hf : fT_readKind M0 = some r) : Met l yX0_readKind (wb yX0_readKind cX0_readKind 2 (some .boolean)) ({ frames := 2, cells := 0, slots := 0, locals := 43 } : Room) (PcG G M0 [.ref (gA G (2))]) (QcZ G r.1 r.2) 0 0 (PA G) := by
  refine Met.ofW (cc := cX0_readKind) (maxL := 2) (ret := (some .boolean)) (by decide) rfl ?_
  intro p e s m args below meth c s₁ B hml hv0
  obtain ⟨hav, hW⟩ := hv0
  have hx := B.exec
  have hb := B.bytes
  have hr := B.returns
  have hts := atoms_spec (ws := (wb yX0_readKind cX0_readKind 2 (some .boolean))) B.pre
  have hown : s.vm.findClass RX0 = some m.cls := findClass_of_methodNamed B.named
  have hlocks := B.notSynchronized
  have hinX0 : ∀ w ∈ u_ws RX0 TX0 6, w ∈ (wb yX0_readKind cX0_readKind 2 (some .boolean)) := fun _ h => List.mem_cons_of_mem _ (inlX0 _ h)
  have hW : Wd G M0 s s.heap := hW
  have hS : va_S (PA G) s.heap s.heap [] := va_S.rf
  have hl := lv_entry [.ref (gA G (2))] (n := 2) (Nat.le_of_ble_eq_true rfl)
  have hent := lg_entry_eq m [.ref (gA G (2))] 2
  rw [← hav] at hent
  rw [hent]
  clear hent
  generalize (lg_sl [.ref (gA G (2))] ++ List.replicate (2 - (lg_sl [.ref (gA G (2))]).length) Slot.unset).toArray = ls at hl ⊢
  have hl : lv_has ls 2 [(0, .ref (gA G (2)))] := hl
  unfold fT_readKind at hf
  show W p l e ({ frames := 2, cells := 0, slots := 0, locals := 43 } : Room) s m args below meth c s.heap [] 0 0 (MQ below (QcZ G r.1 r.2) args s 0 0 (PA G)) (F0 m 0 ls [])
  have L6 : ∀ (M : MemG), ∀ (z : (Int)) (q : ((Int) ⊕ (MemG × Int))), loopN (fT_readKind_l2 M) 200 z = some q → (match q with | .inl w => (inR (w) → ∀ (H : Heap) (locs : List Loc) (ls : Array Slot), Wd G (M) s H → va_S (PA G) s.heap H locs → lv_has ls 2 [(0, .ref (gA G (2))), (1, .int (i3 (w)))] → W p l e ({ frames := 2, cells := 0, slots := 0, locals := 43 } : Room) s m args below meth c H locs 0 0 (MQ below (QcZ G r.1 r.2) args s 0 0 (PA G)) (F0 m 21 ls [])) | .inr w => w = r) → (inR (z) → ∀ (H : Heap) (locs : List Loc) (ls : Array Slot), Wd G (M) s H → va_S (PA G) s.heap H locs → lv_has ls 2 [(0, .ref (gA G (2))), (1, .int (i3 (z)))] → W p l e ({ frames := 2, cells := 0, slots := 0, locals := 43 } : Room) s m args below meth c H locs 0 0 (MQ below (QcZ G r.1 r.2) args s 0 0 (PA G)) (F0 m 2 ls [])) := by
    intro M z q hq hex
    refine loop_rule (fT_readKind_l2 M) (fun z => inR (z) → ∀ (H : Heap) (locs : List Loc) (ls : Array Slot), Wd G (M) s H → va_S (PA G) s.heap H locs → lv_has ls 2 [(0, .ref (gA G (2))), (1, .int (i3 (z)))] → W p l e ({ frames := 2, cells := 0, slots := 0, locals := 43 } : Room) s m args below meth c H locs 0 0 (MQ below (QcZ G r.1 r.2) args s 0 0 (PA G)) (F0 m 2 ls [])) (fun q => (match q with | .inl w => (inR (w) → ∀ (H : Heap) (locs : List Loc) (ls : Array Slot), Wd G (M) s H → va_S (PA G) s.heap H locs → lv_has ls 2 [(0, .ref (gA G (2))), (1, .int (i3 (w)))] → W p l e ({ frames := 2, cells := 0, slots := 0, locals := 43 } : Room) s m args below meth c H locs 0 0 (MQ below (QcZ G r.1 r.2) args s 0 0 (PA G)) (F0 m 21 ls [])) | .inr w => w = r)) ?_ 200 z q hq hex
    clear hq hex q z
    intro z x hf hK hz1 H locs ls hW hS hl
    unfold fT_readKind_l2 at hf
    refine lv_iload_n hx hb dX0_readKind_2 rfl (lv_at hl 1 rfl) ?_
    refine k_const hx hb dX0_readKind_3 ?_
    refine k_icmp_ge (tgt := 44) hx hb hz1 (show inR (4) by decide) dX0_readKind_4 (by decide) (fun hc1 => ?_) (fun hc1 => ?_)
    · rw [if_neg hc1] at hf
      refine k_const hx hb dX0_readKind_44 ?_
      obtain rfl := some_el hf
      obtain rfl : (M, 0) = r := hK
      exact k_retz hx hb hr hlocks hW hS rfl (show (0 : Int) = 0 ∨ (0 : Int) = 1 by decide) dX0_readKind_45
    · rw [if_pos hc1] at hf
      refine lv_aload_n hx hb dX0_readKind_7 rfl (lv_at hl 0 rfl) ?_
      refine k_cVi (As := []) (rest := []) ⟨hx, hb, hml, hown, hts⟩ (mT_nextCode l G M _ rfl) (cwV 0 hts (gbV (inB_17 _ (List.mem_of_getElem? (i := 18) rfl)) (inB_17 _ (List.mem_of_getElem? (i := 19) rfl)) (inB_17 _ (List.mem_of_getElem? (i := 20) rfl)) (inB_1 _ (List.mem_of_getElem? (i := 23) rfl)) (inB_17 _ (List.mem_of_getElem? (i := 21) rfl))) rfl rfl rfl (by decide +kernel) ⟨Nat.le_of_ble_eq_true rfl, Nat.le_of_ble_eq_true rfl⟩) (rv_T hW) hW hS rfl hl.1 rfl (lv_room (Nat.le_of_ble_eq_true rfl)) dX0_readKind_8 ⟨Nat.zero_le _, Nat.zero_le _⟩ (fun hv2 H locs hW hS => ?_)
      refine k_getsN hx hb hW.S.2.1.1 hown (va_Nw.use rfl (hW.N _ (List.mem_of_getElem? (i := 9) rfl))) dX0_readKind_11 ?_
      refine lv_iload_n hx hb dX0_readKind_14 rfl (lv_at hl 1 rfl) ?_
      refine k_cNi (As := [.ref (gA G (87)), .int (i3 (z))]) (rest := [.int (i3 ((fT_nextCode M)))]) ⟨hx, hb, hml, hown, hts⟩ (mG_atS l G M 87 (fun U H h => h.2.1.2) z hz1 _ rfl) ⟨va_cnB 2 hts (gbC (inB_5 _ (List.mem_of_getElem? (i := 2) rfl))) rfl rfl rfl (hW.N _ (List.mem_of_getElem? (i := 6) rfl)) (hts _ (List.mem_cons_of_mem _ (inB_1 _ (List.mem_of_getElem? (i := 2) rfl)))) (by decide +kernel) ⟨Nat.le_of_ble_eq_true rfl, Nat.le_of_ble_eq_true rfl⟩, (hts _ (List.mem_cons_of_mem _ (inB_5 _ (List.mem_of_getElem? (i := 1) rfl)))), trivial⟩ hW hS rfl hl.1 rfl (lv_room (Nat.le_of_ble_eq_true rfl)) dX0_readKind_15 ⟨Nat.zero_le _, Nat.zero_le _⟩ (fun hv3 H locs hW hS => ?_)
      refine k_icmp_ne (tgt := 38) hx hb hv2 hv3 dX0_readKind_18 (by decide) (fun hc4 => ?_) (fun hc4 => ?_)
      · rw [if_neg hc4] at hf
        obtain ⟨hg5, hf⟩ := gd_el hf
        refine k_iinc (lv' := [(1, .int (i3 (z + 1))), (0, .ref (gA G (2)))]) hx hb dX0_readKind_38 hl (k := 1) rfl (by decide) rfl (fun ls hl => ?_)
        refine lv_goto (tgt := 2) hx hb dX0_readKind_41 (by decide) ?_
        obtain rfl := some_el hf
        exact hK hg5 _ _ _ hW hS (lv_sub hl [1, 0] rfl)
      · rw [if_pos hc4] at hf
        obtain rfl := some_el hf
        exact hK hz1 _ _ _ hW hS (lv_sub hl [0, 1] rfl)
  refine k_const hx hb dX0_readKind_0 ?_
  refine lv_istore_n (lv' := [(1, .int (i3 (0))), (0, .ref (gA G (2)))]) hx hb dX0_readKind_1 rfl hl (by decide) rfl (fun ls hl => ?_)
  obtain ⟨q7, hq7, hf⟩ := bind_el hf
  refine L6 (M0) (0) q7 hq7 ?_ (show inR (0) by decide) _ _ _ hW hS (lv_sub hl [1, 0] rfl)
  clear hq7
  rcases q7 with w8 | w9
  · dsimp only at hf
    intro hv10 H locs ls hW hS hl
    refine lv_aload_n hx hb dX0_readKind_21 rfl (lv_at hl 0 rfl) ?_
    refine lv_iload_n hx hb dX0_readKind_22 rfl (lv_at hl 1 rfl) ?_
    obtain ⟨m11, hm11, hf⟩ := bind_el hf
    refine k_cVv (As := [.int (i3 (w8))]) (rest := []) ⟨hx, hb, hml, hown, hts⟩ (mT_addCell l G M0 w8 hv10 m11 hm11) (cwV 1 hts (gbV (inB_17 _ (List.mem_of_getElem? (i := 23) rfl)) (inB_18 _ (List.mem_of_getElem? (i := 0) rfl)) (inB_18 _ (List.mem_of_getElem? (i := 1) rfl)) (inB_1 _ (List.mem_of_getElem? (i := 23) rfl)) (inB_18 _ (List.mem_of_getElem? (i := 2) rfl))) rfl rfl rfl (by decide +kernel) ⟨Nat.le_of_ble_eq_true rfl, Nat.le_of_ble_eq_true rfl⟩) (rv_T hW) hW hS rfl hl.1 rfl (lv_room (Nat.le_of_ble_eq_true rfl)) dX0_readKind_23 ⟨Nat.zero_le _, Nat.zero_le _⟩ (fun H locs hW hS => ?_)
    refine lv_aload_n hx hb dX0_readKind_26 rfl (lv_at hl 0 rfl) ?_
    refine lv_dup hx hb dX0_readKind_27 rfl ?_
    refine va_get (D := G.1) (ci := 0) (v := .int (i3 (m11 2 5))) (C := RX0) (T := TX0) (N := 6) hx hb hts hinX0 hown hW.K hW.P 2 (he_T G m11) rfl 5 (by decide) (hts _ (List.mem_cons_of_mem _ (inB_3 _ (List.mem_of_getElem? (i := 12) rfl)))) (fun _ h9 => h9) rfl dX0_readKind_28 ?_
    refine k_const hx hb dX0_readKind_31 ?_
    refine k_add hx hb dX0_readKind_32 ?_
    obtain ⟨hg13, hf⟩ := gd_el hf
    obtain ⟨m14, hm14, hf⟩ := bind_el hf
    replace hm14 := some_el hm14
    refine k_put (C := RX0) (T := TX0) (N := 6) (ty := .int) (o := 2) hx hb hW hS hts hinX0 tyX0 tyX0_ok nmX0 hown (by decide) (pe_2 G _) rfl 5 (by decide) (pu_2_5 G _ _) (hts _ (List.mem_cons_of_mem _ (inB_3 _ (List.mem_of_getElem? (i := 12) rfl)))) rfl rfl (by decide +kernel) rfl rfl (Nat.le_of_ble_eq_true rfl) hg13 dX0_readKind_33 (fun H locs hW hS => ?_)
    rw [hm14] at hW
    refine k_const hx hb dX0_readKind_36 ?_
    obtain rfl := some_el hf
    exact k_retz hx hb hr hlocks hW hS rfl (show (1 : Int) = 0 ∨ (1 : Int) = 1 by decide) dX0_readKind_37
  · dsimp only at hf
    exact some_el hf
set_option maxHeartbeats 4000000 in
set_option maxRecDepth 100000 in
theorem mT_readNumber (l : Launch) (G : gG) (M0 : MemG) (x1 : Int) (hx1 : inR x1) (r : MemG × Int) (hf : fT_readNumber M0 x1 = some r) : Met l yX0_readNumber (wb yX0_readNumber cX0_readNumber 4 (some .boolean)) ({ frames := 2, cells := 0, slots := 0, locals := 43 } : Room) (PcG G M0 [.ref (gA G (2)), .int (i3 (x1))]) (QcZ G r.1 r.2) 0 0 (PA G) := by
  refine Met.ofW (cc := cX0_readNumber) (maxL := 4) (ret := (some .boolean)) (by decide) rfl ?_
  intro p e s m args below meth c s₁ B hml hv0
  obtain ⟨hav, hW⟩ := hv0
  have hx := B.exec
  have hb := B.bytes
  have hr := B.returns
  have hts := atoms_spec (ws := (wb yX0_readNumber cX0_readNumber 4 (some .boolean))) B.pre
  have hown : s.vm.findClass RX0 = some m.cls := findClass_of_methodNamed B.named
  have hlocks := B.notSynchronized
  have hinX0 : ∀ w ∈ u_ws RX0 TX0 6, w ∈ (wb yX0_readNumber cX0_readNumber 4 (some .boolean)) := fun _ h => List.mem_cons_of_mem _ (inlX0 _ h)
  have hW : Wd G M0 s s.heap := hW
  have hS : va_S (PA G) s.heap s.heap [] := va_S.rf
  have hl := lv_entry [.ref (gA G (2)), .int (i3 (x1))] (n := 4) (Nat.le_of_ble_eq_true rfl)
  have hent := lg_entry_eq m [.ref (gA G (2)), .int (i3 (x1))] 4
  rw [← hav] at hent
  rw [hent]
  clear hent
  generalize (lg_sl [.ref (gA G (2)), .int (i3 (x1))] ++ List.replicate (4 - (lg_sl [.ref (gA G (2)), .int (i3 (x1))]).length) Slot.unset).toArray = ls at hl ⊢
  have hl : lv_has ls 4 [(0, .ref (gA G (2))), (1, .int (i3 (x1)))] := hl
  unfold fT_readNumber at hf
  show W p l e ({ frames := 2, cells := 0, slots := 0, locals := 43 } : Room) s m args below meth c s.heap [] 0 0 (MQ below (QcZ G r.1 r.2) args s 0 0 (PA G)) (F0 m 0 ls [])
  have L10 : ∀ (x1 : Int) (hx1 : inR x1), ∀ (z : (Int × Int × MemG)) (q : (Int × Int × MemG)), loopN (fT_readNumber_l4 x1) 200 z = some q → (inR (q.1) → inR (q.2.1) → ∀ (H : Heap) (locs : List Loc) (ls : Array Slot), Wd G (q.2.2) s H → va_S (PA G) s.heap H locs → lv_has ls 4 [(0, .ref (gA G (2))), (2, .int (i3 (q.1))), (3, .int (i3 (q.2.1)))] → W p l e ({ frames := 2, cells := 0, slots := 0, locals := 43 } : Room) s m args below meth c H locs 0 0 (MQ below (QcZ G r.1 r.2) args s 0 0 (PA G)) (F0 m 52 ls [])) → (inR (z.1) → inR (z.2.1) → ∀ (H : Heap) (locs : List Loc) (ls : Array Slot), Wd G (z.2.2) s H → va_S (PA G) s.heap H locs → lv_has ls 4 [(0, .ref (gA G (2))), (1, .int (i3 (x1))), (2, .int (i3 (z.1))), (3, .int (i3 (z.2.1)))] → W p l e ({ frames := 2, cells := 0, slots := 0, locals := 43 } : Room) s m args below meth c H locs 0 0 (MQ below (QcZ G r.1 r.2) args s 0 0 (PA G)) (F0 m 4 ls [])) := by
    intro x1 hx1 z q hq hex
    refine loop_rule (fT_readNumber_l4 x1) (fun z => inR (z.1) → inR (z.2.1) → ∀ (H : Heap) (locs : List Loc) (ls : Array Slot), Wd G (z.2.2) s H → va_S (PA G) s.heap H locs → lv_has ls 4 [(0, .ref (gA G (2))), (1, .int (i3 (x1))), (2, .int (i3 (z.1))), (3, .int (i3 (z.2.1)))] → W p l e ({ frames := 2, cells := 0, slots := 0, locals := 43 } : Room) s m args below meth c H locs 0 0 (MQ below (QcZ G r.1 r.2) args s 0 0 (PA G)) (F0 m 4 ls [])) (fun q => (inR (q.1) → inR (q.2.1) → ∀ (H : Heap) (locs : List Loc) (ls : Array Slot), Wd G (q.2.2) s H → va_S (PA G) s.heap H locs → lv_has ls 4 [(0, .ref (gA G (2))), (2, .int (i3 (q.1))), (3, .int (i3 (q.2.1)))] → W p l e ({ frames := 2, cells := 0, slots := 0, locals := 43 } : Room) s m args below meth c H locs 0 0 (MQ below (QcZ G r.1 r.2) args s 0 0 (PA G)) (F0 m 52 ls []))) ?_ 200 z q hq hex
    clear hq hex q z
    intro z x hf hK hz2 hz3 H locs ls hW hS hl
    unfold fT_readNumber_l4 at hf
    refine lv_iload_n hx hb dX0_readNumber_4 rfl (lv_at hl 3 rfl) ?_
    refine lv_iload_n hx hb dX0_readNumber_5 rfl (lv_at hl 1 rfl) ?_
    refine k_icmp_ge (tgt := 52) hx hb hz3 hx1 dX0_readNumber_6 (by decide) (fun hc1 => ?_) (fun hc1 => ?_)
    · rw [if_neg hc1] at hf
      obtain rfl := some_el hf
      exact hK hz2 hz3 _ _ _ hW hS (lv_sub hl [0, 2, 3] rfl)
    · rw [if_pos hc1] at hf
      refine lv_aload_n hx hb dX0_readNumber_9 rfl (lv_at hl 0 rfl) ?_
      refine k_cVi (As := []) (rest := []) ⟨hx, hb, hml, hown, hts⟩ (mT_nextCode l G z.2.2 _ rfl) (cwV 0 hts (gbV (inB_17 _ (List.mem_of_getElem? (i := 18) rfl)) (inB_17 _ (List.mem_of_getElem? (i := 19) rfl)) (inB_17 _ (List.mem_of_getElem? (i := 20) rfl)) (inB_1 _ (List.mem_of_getElem? (i := 23) rfl)) (inB_17 _ (List.mem_of_getElem? (i := 21) rfl))) rfl rfl rfl (by decide +kernel) ⟨Nat.le_of_ble_eq_true rfl, Nat.le_of_ble_eq_true rfl⟩) (rv_T hW) hW hS rfl hl.1 rfl (lv_room (Nat.le_of_ble_eq_true rfl)) dX0_readNumber_10 ⟨Nat.zero_le _, Nat.zero_le _⟩ (fun hv2 H locs hW hS => ?_)
      refine k_bipush hx hb dX0_readNumber_13 (by decide +kernel) ?_
      refine k_bipush hx hb dX0_readNumber_15 (by decide +kernel) ?_
      refine k_cNz (As := [.int (i3 ((fT_nextCode z.2.2))), .int (i3 (48)), .int (i3 (57))]) (rest := []) ⟨hx, hb, hml, hown, hts⟩ (mG_isWithin l G z.2.2 ((fT_nextCode z.2.2)) hv2 48 (show inR (48) by decide) 57 (show inR (57) by decide) _ rfl) ⟨va_cnB 3 hts (gbC (inB_4 _ (List.mem_of_getElem? (i := 13) rfl))) rfl rfl rfl (hW.N _ (List.mem_of_getElem? (i := 8) rfl)) (hts _ (List.mem_cons_of_mem _ (inB_1 _ (List.mem_of_getElem? (i := 2) rfl)))) (by decide +kernel) ⟨Nat.le_of_ble_eq_true rfl, Nat.le_of_ble_eq_true rfl⟩, (hts _ (List.mem_cons_of_mem _ (inB_4 _ (List.mem_of_getElem? (i := 12) rfl)))), trivial⟩ hW hS rfl hl.1 rfl (lv_room (Nat.le_of_ble_eq_true rfl)) dX0_readNumber_17 ⟨Nat.zero_le _, Nat.zero_le _⟩ (fun hv3 H locs hW hS => ?_)
      refine k_if_eq (tgt := 52) hx hb (inR_z hv3) dX0_readNumber_20 (by decide) (fun hc4 => ?_) (fun hc4 => ?_)
      · rw [if_pos hc4] at hf
        obtain rfl := some_el hf
        exact hK hz2 hz3 _ _ _ hW hS (lv_sub hl [0, 2, 3] rfl)
      · rw [if_neg hc4] at hf
        refine k_bipush hx hb dX0_readNumber_23 (by decide +kernel) ?_
        refine lv_iload_n hx hb dX0_readNumber_25 rfl (lv_at hl 2 rfl) ?_
        refine k_mul hx hb dX0_readNumber_26 ?_
        refine lv_aload_n hx hb dX0_readNumber_27 rfl (lv_at hl 0 rfl) ?_
        refine k_cVi (As := []) (rest := [.int (i3 (10 * z.1))]) ⟨hx, hb, hml, hown, hts⟩ (mT_nextCode l G z.2.2 _ rfl) (cwV 0 hts (gbV (inB_17 _ (List.mem_of_getElem? (i := 18) rfl)) (inB_17 _ (List.mem_of_getElem? (i := 19) rfl)) (inB_17 _ (List.mem_of_getElem? (i := 20) rfl)) (inB_1 _ (List.mem_of_getElem? (i := 23) rfl)) (inB_17 _ (List.mem_of_getElem? (i := 21) rfl))) rfl rfl rfl (by decide +kernel) ⟨Nat.le_of_ble_eq_true rfl, Nat.le_of_ble_eq_true rfl⟩) (rv_T hW) hW hS rfl hl.1 rfl (lv_room (Nat.le_of_ble_eq_true rfl)) dX0_readNumber_28 ⟨Nat.zero_le _, Nat.zero_le _⟩ (fun hv5 H locs hW hS => ?_)
        refine k_add hx hb dX0_readNumber_31 ?_
        refine k_bipush hx hb dX0_readNumber_32 (by decide +kernel) ?_
        refine k_sub hx hb dX0_readNumber_34 ?_
        obtain ⟨hg6, hf⟩ := gd_el hf
        refine lv_istore_n (lv' := [(2, .int (i3 (((10 * z.1) + ((fT_nextCode z.2.2))) - 48))), (0, .ref (gA G (2))), (1, .int (i3 (x1))), (3, .int (i3 (z.2.1)))]) hx hb dX0_readNumber_35 rfl hl (by decide) rfl (fun ls hl => ?_)
        obtain ⟨hg7, hf⟩ := gd_el hf
        refine k_iinc (lv' := [(3, .int (i3 (z.2.1 + 1))), (2, .int (i3 (((10 * z.1) + ((fT_nextCode z.2.2))) - 48))), (0, .ref (gA G (2))), (1, .int (i3 (x1)))]) hx hb dX0_readNumber_36 hl (k := 3) rfl (by decide) rfl (fun ls hl => ?_)
        refine lv_aload_n hx hb dX0_readNumber_39 rfl (lv_at hl 2 rfl) ?_
        refine lv_dup hx hb dX0_readNumber_40 rfl ?_
        refine va_get (D := G.1) (ci := 0) (v := .int (i3 (z.2.2 2 5))) (C := RX0) (T := TX0) (N := 6) hx hb hts hinX0 hown hW.K hW.P 2 (he_T G z.2.2) rfl 5 (by decide) (hts _ (List.mem_cons_of_mem _ (inB_3 _ (List.mem_of_getElem? (i := 12) rfl)))) (fun _ h9 => h9) rfl dX0_readNumber_41 ?_
        refine k_const hx hb dX0_readNumber_44 ?_
        refine k_add hx hb dX0_readNumber_45 ?_
        obtain ⟨hg8, hf⟩ := gd_el hf
        obtain ⟨m9, hm9, hf⟩ := bind_el hf
        replace hm9 := some_el hm9
        refine k_put (C := RX0) (T := TX0) (N := 6) (ty := .int) (o := 2) hx hb hW hS hts hinX0 tyX0 tyX0_ok nmX0 hown (by decide) (pe_2 G _) rfl 5 (by decide) (pu_2_5 G _ _) (hts _ (List.mem_cons_of_mem _ (inB_3 _ (List.mem_of_getElem? (i := 12) rfl)))) rfl rfl (by decide +kernel) rfl rfl (Nat.le_of_ble_eq_true rfl) hg8 dX0_readNumber_46 (fun H locs hW hS => ?_)
        rw [hm9] at hW
        refine lv_goto (tgt := 4) hx hb dX0_readNumber_49 (by decide) ?_
        obtain rfl := some_el hf
        exact hK hg6 hg7 _ _ _ hW hS (lv_sub hl [2, 3, 1, 0] rfl)
  refine k_const hx hb dX0_readNumber_0 ?_
  refine lv_istore_n (lv' := [(2, .int (i3 (0))), (0, .ref (gA G (2))), (1, .int (i3 (x1)))]) hx hb dX0_readNumber_1 rfl hl (by decide) rfl (fun ls hl => ?_)
  refine k_const hx hb dX0_readNumber_2 ?_
  refine lv_istore_n (lv' := [(3, .int (i3 (0))), (2, .int (i3 (0))), (0, .ref (gA G (2))), (1, .int (i3 (x1)))]) hx hb dX0_readNumber_3 rfl hl (by decide) rfl (fun ls hl => ?_)
  obtain ⟨q11, hq11, hf⟩ := bind_el hf
  refine L10 (x1) hx1 (0, 0, M0) q11 hq11 ?_ (show inR (0) by decide) (show inR (0) by decide) _ _ _ hW hS (lv_sub hl [2, 3, 1, 0] rfl)
  intro hv12 hv13 H locs ls hW hS hl
  refine lv_aload_n hx hb dX0_readNumber_52 rfl (lv_at hl 0 rfl) ?_
  refine lv_iload_n hx hb dX0_readNumber_53 rfl (lv_at hl 1 rfl) ?_
  obtain ⟨m14, hm14, hf⟩ := bind_el hf
  refine k_cVv (As := [.int (i3 (q11.1))]) (rest := []) ⟨hx, hb, hml, hown, hts⟩ (mT_addCell l G q11.2.2 q11.1 hv12 m14 hm14) (cwV 1 hts (gbV (inB_17 _ (List.mem_of_getElem? (i := 23) rfl)) (inB_18 _ (List.mem_of_getElem? (i := 0) rfl)) (inB_18 _ (List.mem_of_getElem? (i := 1) rfl)) (inB_1 _ (List.mem_of_getElem? (i := 23) rfl)) (inB_18 _ (List.mem_of_getElem? (i := 2) rfl))) rfl rfl rfl (by decide +kernel) ⟨Nat.le_of_ble_eq_true rfl, Nat.le_of_ble_eq_true rfl⟩) (rv_T hW) hW hS rfl hl.1 rfl (lv_room (Nat.le_of_ble_eq_true rfl)) dX0_readNumber_54 ⟨Nat.zero_le _, Nat.zero_le _⟩ (fun H locs hW hS => ?_)
  refine lv_iload_n hx hb dX0_readNumber_57 rfl (lv_at hl 2 rfl) ?_
  refine k_if_le (tgt := 65) hx hb hv13 dX0_readNumber_58 (by decide) (fun hc16 => ?_) (fun hc16 => ?_)
  · rw [if_neg hc16] at hf
    refine k_const hx hb dX0_readNumber_65 ?_
    obtain rfl := some_el hf
    exact k_retz hx hb hr hlocks hW hS rfl (show (0 : Int) = 0 ∨ (0 : Int) = 1 by decide) dX0_readNumber_66
  · rw [if_pos hc16] at hf
    refine k_const hx hb dX0_readNumber_61 ?_
    refine lv_goto (tgt := 66) hx hb dX0_readNumber_62 (by decide) ?_
    obtain rfl := some_el hf
    exact k_retz hx hb hr hlocks hW hS rfl (show (1 : Int) = 0 ∨ (1 : Int) = 1 by decide) dX0_readNumber_66
set_option maxHeartbeats 4000000 in
set_option maxRecDepth 100000 in
theorem mT_readAlong (l : Launch) (G : gG) (M0 : MemG) (i : Nat) (hi : i < 26) (r : MemG × Int) (hf : fT_readAlong M0 i = some r) : Met l yX0_readAlong (wb yX0_readAlong cX0_readAlong 5 (some .boolean)) ({ frames := 4, cells := 0, slots := 0, locals := 85 } : Room) (PcG G M0 [.ref (gA G (2)), .ref (gA G (100 + i))]) (QcZ G r.1 r.2) 0 0 (PA G) := by
  refine Met.ofW (cc := cX0_readAlong) (maxL := 5) (ret := (some .boolean)) (by decide) rfl ?_
  intro p e s m args below meth c s₁ B hml hv0
  obtain ⟨hav, hW⟩ := hv0
  have hx := B.exec
  have hb := B.bytes
  have hr := B.returns
  have hts := atoms_spec (ws := (wb yX0_readAlong cX0_readAlong 5 (some .boolean))) B.pre
  have hown : s.vm.findClass RX0 = some m.cls := findClass_of_methodNamed B.named
  have hlocks := B.notSynchronized
  have hW : Wd G M0 s s.heap := hW
  have hS : va_S (PA G) s.heap s.heap [] := va_S.rf
  have hl := lv_entry [.ref (gA G (2)), .ref (gA G (100 + i))] (n := 5) (Nat.le_of_ble_eq_true rfl)
  have hent := lg_entry_eq m [.ref (gA G (2)), .ref (gA G (100 + i))] 5
  rw [← hav] at hent
  rw [hent]
  clear hent
  generalize (lg_sl [.ref (gA G (2)), .ref (gA G (100 + i))] ++ List.replicate (5 - (lg_sl [.ref (gA G (2)), .ref (gA G (100 + i))]).length) Slot.unset).toArray = ls at hl ⊢
  have hl : lv_has ls 5 [(0, .ref (gA G (2))), (1, .ref (gA G (100 + i)))] := hl
  unfold fT_readAlong at hf
  show W p l e ({ frames := 4, cells := 0, slots := 0, locals := 85 } : Room) s m args below meth c s.heap [] 0 0 (MQ below (QcZ G r.1 r.2) args s 0 0 (PA G)) (F0 m 0 ls [])
  have L21 : ∀ (z : (Int × Int × MemG)) (q : (MemG × Int)), loopN (fT_readAlong_l4 i) 200 z = some q → (q = r) → (inR (z.1) → inR (z.2.1) → ∀ (H : Heap) (locs : List Loc) (ls : Array Slot), Wd G (z.2.2) s H → va_S (PA G) s.heap H locs → lv_has ls 5 [(0, .ref (gA G (2))), (1, .ref (gA G (100 + i))), (2, .int (i3 (z.1))), (3, .int (i3 (z.2.1)))] → W p l e ({ frames := 4, cells := 0, slots := 0, locals := 85 } : Room) s m args below meth c H locs 0 0 (MQ below (QcZ G r.1 r.2) args s 0 0 (PA G)) (F0 m 4 ls [])) := by
    intro z q hq hex
    refine loop_rule (fT_readAlong_l4 i) (fun z => inR (z.1) → inR (z.2.1) → ∀ (H : Heap) (locs : List Loc) (ls : Array Slot), Wd G (z.2.2) s H → va_S (PA G) s.heap H locs → lv_has ls 5 [(0, .ref (gA G (2))), (1, .ref (gA G (100 + i))), (2, .int (i3 (z.1))), (3, .int (i3 (z.2.1)))] → W p l e ({ frames := 4, cells := 0, slots := 0, locals := 85 } : Room) s m args below meth c H locs 0 0 (MQ below (QcZ G r.1 r.2) args s 0 0 (PA G)) (F0 m 4 ls [])) (fun q => (q = r)) ?_ 200 z q hq hex
    clear hq hex q z
    intro z x hf hK hz2 hz3 H locs ls hW hS hl
    have J13 : ∀ (M : MemG) (x2 : Int) (x3 : Int), fT_readAlong_j77 M i x2 x3 = some x → inR x2 → inR x3 →  ∀ (H : Heap) (locs : List Loc) (ls : Array Slot), Wd G M s H → va_S (PA G) s.heap H locs → lv_has ls 5 [(0, .ref (gA G (2))), (1, .ref (gA G (100 + i))), (2, .int (i3 (x2))), (3, .int (i3 (x3)))] → W p l e ({ frames := 4, cells := 0, slots := 0, locals := 85 } : Room) s m args below meth c H locs 0 0 (MQ below (QcZ G r.1 r.2) args s 0 0 (PA G)) (F0 m 77 ls []) := by
      intro M x2 x3 hf hx2 hx3 H locs ls hW hS hl
      unfold fT_readAlong_j77 at hf
      obtain ⟨hg14, hf⟩ := gd_el hf
      refine k_iinc (lv' := [(3, .int (i3 (x3 + 1))), (0, .ref (gA G (2))), (1, .ref (gA G (100 + i))), (2, .int (i3 (x2)))]) hx hb dX0_readAlong_77 hl (k := 3) rfl (by decide) rfl (fun ls hl => ?_)
      refine lv_goto (tgt := 4) hx hb dX0_readAlong_80 (by decide) ?_
      obtain rfl := some_el hf
      exact hK hx2 hg14 _ _ _ hW hS (lv_sub hl [1, 2, 3, 0] rfl)
    unfold fT_readAlong_l4 at hf
    refine lv_iload_n hx hb dX0_readAlong_4 rfl (lv_at hl 3 rfl) ?_
    refine lv_aload_n hx hb dX0_readAlong_5 rfl (lv_at hl 1 rfl) ?_
    refine k_cVi (As := []) (rest := [.int (i3 (z.2.1))]) ⟨hx, hb, hml, hown, hts⟩ (mS_length l G z.2.2 (i) hi _ rfl) (cwV 0 hts (gbV (inB_18 _ (List.mem_of_getElem? (i := 7) rfl)) (inB_14 _ (List.mem_of_getElem? (i := 15) rfl)) (inB_14 _ (List.mem_of_getElem? (i := 16) rfl)) (inB_14 _ (List.mem_of_getElem? (i := 17) rfl)) (inB_14 _ (List.mem_of_getElem? (i := 18) rfl))) rfl rfl rfl (by decide +kernel) ⟨Nat.le_of_ble_eq_true rfl, Nat.le_of_ble_eq_true rfl⟩) (rv_S hi hW) hW hS rfl hl.1 rfl (lv_room (Nat.le_of_ble_eq_true rfl)) dX0_readAlong_6 ⟨Nat.zero_le _, Nat.zero_le _⟩ (fun hv1 H locs hW hS => ?_)
    refine k_icmp_ge (tgt := 83) hx hb hz3 hv1 dX0_readAlong_9 (by decide) (fun hc2 => ?_) (fun hc2 => ?_)
    · rw [if_neg hc2] at hf
      refine lv_iload_n hx hb dX0_readAlong_83 rfl (lv_at hl 2 rfl) ?_
      obtain ⟨hg3, hf⟩ := gz_el hf
      obtain rfl := some_el hf
      obtain rfl : (z.2.2, z.1) = r := hK
      exact k_retz hx hb hr hlocks hW hS rfl hg3 dX0_readAlong_84
    · rw [if_pos hc2] at hf
      refine lv_iload_n hx hb dX0_readAlong_12 rfl (lv_at hl 2 rfl) ?_
      refine k_if_eq (tgt := 83) hx hb hz2 dX0_readAlong_13 (by decide) (fun hc4 => ?_) (fun hc4 => ?_)
      · rw [if_pos hc4] at hf
        refine lv_iload_n hx hb dX0_readAlong_83 rfl (lv_at hl 2 rfl) ?_
        obtain ⟨hg5, hf⟩ := gz_el hf
        obtain rfl := some_el hf
        obtain rfl : (z.2.2, z.1) = r := hK
        exact k_retz hx hb hr hlocks hW hS rfl hg5 dX0_readAlong_84
      · rw [if_neg hc4] at hf
        refine lv_aload_n hx hb dX0_readAlong_16 rfl (lv_at hl 1 rfl) ?_
        refine lv_iload_n hx hb dX0_readAlong_17 rfl (lv_at hl 3 rfl) ?_
        obtain ⟨q6, hq6, hf⟩ := bind_el hf
        refine k_cVi (As := [.int (i3 (z.2.1))]) (rest := []) ⟨hx, hb, hml, hown, hts⟩ (mS_charAt l G z.2.2 (i) hi z.2.1 hz3 q6 hq6) (cwV 1 hts (gbV (inB_17 _ (List.mem_of_getElem? (i := 22) rfl)) (inB_15 _ (List.mem_of_getElem? (i := 3) rfl)) (inB_15 _ (List.mem_of_getElem? (i := 4) rfl)) (inB_14 _ (List.mem_of_getElem? (i := 17) rfl)) (inB_15 _ (List.mem_of_getElem? (i := 5) rfl))) rfl rfl rfl (by decide +kernel) ⟨Nat.le_of_ble_eq_true rfl, Nat.le_of_ble_eq_true rfl⟩) (rv_S hi hW) hW hS rfl hl.1 rfl (lv_room (Nat.le_of_ble_eq_true rfl)) dX0_readAlong_18 ⟨Nat.zero_le _, Nat.zero_le _⟩ (fun hv7 H locs hW hS => ?_)
        refine lv_istore (lv' := [(4, .int (i3 (q6))), (0, .ref (gA G (2))), (1, .ref (gA G (100 + i))), (2, .int (i3 (z.1))), (3, .int (i3 (z.2.1)))]) hx hb dX0_readAlong_21 hl (by decide) rfl (fun ls hl => ?_)
        refine lv_iload hx hb dX0_readAlong_23 (lv_at hl 0 rfl) ?_
        refine k_bipush hx hb dX0_readAlong_25 (by decide +kernel) ?_
        refine k_icmp_ne (tgt := 39) hx hb hv7 (show inR (50) by decide) dX0_readAlong_27 (by decide) (fun hc8 => ?_) (fun hc8 => ?_)
        · rw [if_neg hc8] at hf
          refine lv_iload hx hb dX0_readAlong_39 (lv_at hl 0 rfl) ?_
          refine k_bipush hx hb dX0_readAlong_41 (by decide +kernel) ?_
          refine k_icmp_ne (tgt := 55) hx hb hv7 (show inR (51) by decide) dX0_readAlong_43 (by decide) (fun hc9 => ?_) (fun hc9 => ?_)
          · rw [if_neg hc9] at hf
            refine lv_iload hx hb dX0_readAlong_55 (lv_at hl 0 rfl) ?_
            refine k_bipush hx hb dX0_readAlong_57 (by decide +kernel) ?_
            refine k_icmp_ne (tgt := 70) hx hb hv7 (show inR (63) by decide) dX0_readAlong_59 (by decide) (fun hc10 => ?_) (fun hc10 => ?_)
            · rw [if_neg hc10] at hf
              refine lv_aload_n hx hb dX0_readAlong_70 rfl (lv_at hl 1 rfl) ?_
              refine lv_iload hx hb dX0_readAlong_71 (lv_at hl 0 rfl) ?_
              obtain ⟨q11, hq11, hf⟩ := bind_el hf
              refine k_cVz (As := [.int (i3 (q6))]) (rest := []) ⟨hx, hb, hml, hown, hts⟩ (mT_readCode l G z.2.2 q6 hv7 q11 hq11) (cwV 1 hts (gbV (inB_18 _ (List.mem_of_getElem? (i := 16) rfl)) (inB_18 _ (List.mem_of_getElem? (i := 17) rfl)) (inB_18 _ (List.mem_of_getElem? (i := 18) rfl)) (inB_1 _ (List.mem_of_getElem? (i := 23) rfl)) (inB_18 _ (List.mem_of_getElem? (i := 19) rfl))) rfl rfl rfl (by decide +kernel) ⟨Nat.le_of_ble_eq_true rfl, Nat.le_of_ble_eq_true rfl⟩) (rv_T hW) hW hS rfl hl.1 rfl (lv_room (Nat.le_of_ble_eq_true rfl)) dX0_readAlong_73 ⟨Nat.zero_le _, Nat.zero_le _⟩ (fun hv12 H locs hW hS => ?_)
              refine lv_istore_n (lv' := [(2, .int (i3 (q11.2))), (4, .int (i3 (q6))), (0, .ref (gA G (2))), (1, .ref (gA G (100 + i))), (3, .int (i3 (z.2.1)))]) hx hb dX0_readAlong_76 rfl hl (by decide) rfl (fun ls hl => ?_)
              exact J13 (q11.1) (q11.2) (z.2.1) hf (inR_z hv12) hz3 _ _ _ hW hS (lv_sub hl [2, 3, 0, 4] rfl)
            · rw [if_pos hc10] at hf
              refine lv_aload_n hx hb dX0_readAlong_62 rfl (lv_at hl 1 rfl) ?_
              obtain ⟨q15, hq15, hf⟩ := bind_el hf
              refine k_cVz (As := []) (rest := []) ⟨hx, hb, hml, hown, hts⟩ (mT_readKind l G z.2.2 q15 hq15) (cwV 0 hts (gbV (inB_18 _ (List.mem_of_getElem? (i := 12) rfl)) (inB_18 _ (List.mem_of_getElem? (i := 13) rfl)) (inB_18 _ (List.mem_of_getElem? (i := 14) rfl)) (inB_1 _ (List.mem_of_getElem? (i := 23) rfl)) (inB_18 _ (List.mem_of_getElem? (i := 15) rfl))) rfl rfl rfl (by decide +kernel) ⟨Nat.le_of_ble_eq_true rfl, Nat.le_of_ble_eq_true rfl⟩) (rv_T hW) hW hS rfl hl.1 rfl (lv_room (Nat.le_of_ble_eq_true rfl)) dX0_readAlong_63 ⟨Nat.zero_le _, Nat.zero_le _⟩ (fun hv16 H locs hW hS => ?_)
              refine lv_istore_n (lv' := [(2, .int (i3 (q15.2))), (4, .int (i3 (q6))), (0, .ref (gA G (2))), (1, .ref (gA G (100 + i))), (3, .int (i3 (z.2.1)))]) hx hb dX0_readAlong_66 rfl hl (by decide) rfl (fun ls hl => ?_)
              refine lv_goto (tgt := 77) hx hb dX0_readAlong_67 (by decide) ?_
              exact J13 (q15.1) (q15.2) (z.2.1) hf (inR_z hv16) hz3 _ _ _ hW hS (lv_sub hl [2, 3, 0, 4] rfl)
          · rw [if_pos hc9] at hf
            refine lv_aload_n hx hb dX0_readAlong_46 rfl (lv_at hl 1 rfl) ?_
            refine k_const hx hb dX0_readAlong_47 ?_
            obtain ⟨q17, hq17, hf⟩ := bind_el hf
            refine k_cVz (As := [.int (i3 (3))]) (rest := []) ⟨hx, hb, hml, hown, hts⟩ (mT_readNumber l G z.2.2 3 (show inR (3) by decide) q17 hq17) (cwV 1 hts (gbV (inB_18 _ (List.mem_of_getElem? (i := 8) rfl)) (inB_18 _ (List.mem_of_getElem? (i := 9) rfl)) (inB_18 _ (List.mem_of_getElem? (i := 10) rfl)) (inB_1 _ (List.mem_of_getElem? (i := 23) rfl)) (inB_18 _ (List.mem_of_getElem? (i := 11) rfl))) rfl rfl rfl (by decide +kernel) ⟨Nat.le_of_ble_eq_true rfl, Nat.le_of_ble_eq_true rfl⟩) (rv_T hW) hW hS rfl hl.1 rfl (lv_room (Nat.le_of_ble_eq_true rfl)) dX0_readAlong_48 ⟨Nat.zero_le _, Nat.zero_le _⟩ (fun hv18 H locs hW hS => ?_)
            refine lv_istore_n (lv' := [(2, .int (i3 (q17.2))), (4, .int (i3 (q6))), (0, .ref (gA G (2))), (1, .ref (gA G (100 + i))), (3, .int (i3 (z.2.1)))]) hx hb dX0_readAlong_51 rfl hl (by decide) rfl (fun ls hl => ?_)
            refine lv_goto (tgt := 77) hx hb dX0_readAlong_52 (by decide) ?_
            exact J13 (q17.1) (q17.2) (z.2.1) hf (inR_z hv18) hz3 _ _ _ hW hS (lv_sub hl [2, 3, 0, 4] rfl)
        · rw [if_pos hc8] at hf
          refine lv_aload_n hx hb dX0_readAlong_30 rfl (lv_at hl 1 rfl) ?_
          refine k_const hx hb dX0_readAlong_31 ?_
          obtain ⟨q19, hq19, hf⟩ := bind_el hf
          refine k_cVz (As := [.int (i3 (2))]) (rest := []) ⟨hx, hb, hml, hown, hts⟩ (mT_readNumber l G z.2.2 2 (show inR (2) by decide) q19 hq19) (cwV 1 hts (gbV (inB_18 _ (List.mem_of_getElem? (i := 8) rfl)) (inB_18 _ (List.mem_of_getElem? (i := 9) rfl)) (inB_18 _ (List.mem_of_getElem? (i := 10) rfl)) (inB_1 _ (List.mem_of_getElem? (i := 23) rfl)) (inB_18 _ (List.mem_of_getElem? (i := 11) rfl))) rfl rfl rfl (by decide +kernel) ⟨Nat.le_of_ble_eq_true rfl, Nat.le_of_ble_eq_true rfl⟩) (rv_T hW) hW hS rfl hl.1 rfl (lv_room (Nat.le_of_ble_eq_true rfl)) dX0_readAlong_32 ⟨Nat.zero_le _, Nat.zero_le _⟩ (fun hv20 H locs hW hS => ?_)
          refine lv_istore_n (lv' := [(2, .int (i3 (q19.2))), (4, .int (i3 (q6))), (0, .ref (gA G (2))), (1, .ref (gA G (100 + i))), (3, .int (i3 (z.2.1)))]) hx hb dX0_readAlong_35 rfl hl (by decide) rfl (fun ls hl => ?_)
          refine lv_goto (tgt := 77) hx hb dX0_readAlong_36 (by decide) ?_
          exact J13 (q19.1) (q19.2) (z.2.1) hf (inR_z hv20) hz3 _ _ _ hW hS (lv_sub hl [2, 3, 0, 4] rfl)
  refine k_const hx hb dX0_readAlong_0 ?_
  refine lv_istore_n (lv' := [(2, .int (i3 (1))), (0, .ref (gA G (2))), (1, .ref (gA G (100 + i)))]) hx hb dX0_readAlong_1 rfl hl (by decide) rfl (fun ls hl => ?_)
  refine k_const hx hb dX0_readAlong_2 ?_
  refine lv_istore_n (lv' := [(3, .int (i3 (0))), (2, .int (i3 (1))), (0, .ref (gA G (2))), (1, .ref (gA G (100 + i)))]) hx hb dX0_readAlong_3 rfl hl (by decide) rfl (fun ls hl => ?_)
  exact L21  (1, 0, M0) r hf rfl (show inR (1) by decide) (show inR (0) by decide) _ _ _ hW hS (lv_sub hl [2, 3, 1, 0] rfl)
set_option maxHeartbeats 4000000 in
set_option maxRecDepth 100000 in
theorem mT_readCommand (l : Launch) (G : gG) (M0 : MemG)  (r : MemG × Int) (hf : fT_readCommand M0 = some r) : Met l yX0_readCommand (wb yX0_readCommand cX0_readCommand 3 (some .boolean)) ({ frames := 5, cells := 0, slots := 0, locals := 109 } : Room) (PcG G M0 [.ref (gA G (2))]) (QcZ G r.1 r.2) 0 0 (PA G) := by
  refine Met.ofW (cc := cX0_readCommand) (maxL := 3) (ret := (some .boolean)) (by decide) rfl ?_
  intro p e s m args below meth c s₁ B hml hv0
  obtain ⟨hav, hW⟩ := hv0
  have hx := B.exec
  have hb := B.bytes
  have hr := B.returns
  have hts := atoms_spec (ws := (wb yX0_readCommand cX0_readCommand 3 (some .boolean))) B.pre
  have hown : s.vm.findClass RX0 = some m.cls := findClass_of_methodNamed B.named
  have hlocks := B.notSynchronized
  have hinX0 : ∀ w ∈ u_ws RX0 TX0 6, w ∈ (wb yX0_readCommand cX0_readCommand 3 (some .boolean)) := fun _ h => List.mem_cons_of_mem _ (inlX0 _ h)
  have hW : Wd G M0 s s.heap := hW
  have hS : va_S (PA G) s.heap s.heap [] := va_S.rf
  have hl := lv_entry [.ref (gA G (2))] (n := 3) (Nat.le_of_ble_eq_true rfl)
  have hent := lg_entry_eq m [.ref (gA G (2))] 3
  rw [← hav] at hent
  rw [hent]
  clear hent
  generalize (lg_sl [.ref (gA G (2))] ++ List.replicate (3 - (lg_sl [.ref (gA G (2))]).length) Slot.unset).toArray = ls at hl ⊢
  have hl : lv_has ls 3 [(0, .ref (gA G (2)))] := hl
  unfold fT_readCommand at hf
  show W p l e ({ frames := 5, cells := 0, slots := 0, locals := 109 } : Room) s m args below meth c s.heap [] 0 0 (MQ below (QcZ G r.1 r.2) args s 0 0 (PA G)) (F0 m 0 ls [])
  have L11 : ∀ (M : MemG), ∀ (z : (Int)) (q : ((Int × Nat) ⊕ (MemG × Int))), loopN (fT_readCommand_l2 M) 200 z = some q → (match q with | .inl w => (inR (w.1) → w.2 < 26 → ∀ (H : Heap) (locs : List Loc) (ls : Array Slot), Wd G (M) s H → va_S (PA G) s.heap H locs → lv_has ls 3 [(0, .ref (gA G (2))), (1, .int (i3 (w.1))), (2, .ref (gA G (100 + w.2)))] → W p l e ({ frames := 5, cells := 0, slots := 0, locals := 109 } : Room) s m args below meth c H locs 0 0 (MQ below (QcZ G r.1 r.2) args s 0 0 (PA G)) (F0 m 32 ls [])) | .inr w => w = r) → (inR (z) → ∀ (H : Heap) (locs : List Loc) (ls : Array Slot), Wd G (M) s H → va_S (PA G) s.heap H locs → lv_has ls 3 [(0, .ref (gA G (2))), (1, .int (i3 (z)))] → W p l e ({ frames := 5, cells := 0, slots := 0, locals := 109 } : Room) s m args below meth c H locs 0 0 (MQ below (QcZ G r.1 r.2) args s 0 0 (PA G)) (F0 m 2 ls [])) := by
    intro M z q hq hex
    refine loop_rule (fT_readCommand_l2 M) (fun z => inR (z) → ∀ (H : Heap) (locs : List Loc) (ls : Array Slot), Wd G (M) s H → va_S (PA G) s.heap H locs → lv_has ls 3 [(0, .ref (gA G (2))), (1, .int (i3 (z)))] → W p l e ({ frames := 5, cells := 0, slots := 0, locals := 109 } : Room) s m args below meth c H locs 0 0 (MQ below (QcZ G r.1 r.2) args s 0 0 (PA G)) (F0 m 2 ls [])) (fun q => (match q with | .inl w => (inR (w.1) → w.2 < 26 → ∀ (H : Heap) (locs : List Loc) (ls : Array Slot), Wd G (M) s H → va_S (PA G) s.heap H locs → lv_has ls 3 [(0, .ref (gA G (2))), (1, .int (i3 (w.1))), (2, .ref (gA G (100 + w.2)))] → W p l e ({ frames := 5, cells := 0, slots := 0, locals := 109 } : Room) s m args below meth c H locs 0 0 (MQ below (QcZ G r.1 r.2) args s 0 0 (PA G)) (F0 m 32 ls [])) | .inr w => w = r)) ?_ 200 z q hq hex
    clear hq hex q z
    intro z x hf hK hz1 H locs ls hW hS hl
    have J5 : ∀ (x1 : Int), fT_readCommand_j63 M x1 = some x → inR x1 →  ∀ (H : Heap) (locs : List Loc) (ls : Array Slot), Wd G M s H → va_S (PA G) s.heap H locs → lv_has ls 3 [(0, .ref (gA G (2))), (1, .int (i3 (x1)))] → W p l e ({ frames := 5, cells := 0, slots := 0, locals := 109 } : Room) s m args below meth c H locs 0 0 (MQ below (QcZ G r.1 r.2) args s 0 0 (PA G)) (F0 m 63 ls []) := by
      intro x1 hf hx1 H locs ls hW hS hl
      unfold fT_readCommand_j63 at hf
      obtain ⟨hg6, hf⟩ := gd_el hf
      refine k_iinc (lv' := [(1, .int (i3 (x1 + 1))), (0, .ref (gA G (2)))]) hx hb dX0_readCommand_63 hl (k := 1) rfl (by decide) rfl (fun ls hl => ?_)
      refine lv_goto (tgt := 2) hx hb dX0_readCommand_66 (by decide) ?_
      obtain rfl := some_el hf
      exact hK hg6 _ _ _ hW hS (lv_sub hl [1, 0] rfl)
    unfold fT_readCommand_l2 at hf
    refine lv_iload_n hx hb dX0_readCommand_2 rfl (lv_at hl 1 rfl) ?_
    refine k_bipush hx hb dX0_readCommand_3 (by decide +kernel) ?_
    refine k_icmp_ge (tgt := 69) hx hb hz1 (show inR (6) by decide) dX0_readCommand_5 (by decide) (fun hc1 => ?_) (fun hc1 => ?_)
    · rw [if_neg hc1] at hf
      refine k_const hx hb dX0_readCommand_69 ?_
      obtain rfl := some_el hf
      obtain rfl : (M, 0) = r := hK
      exact k_retz hx hb hr hlocks hW hS rfl (show (0 : Int) = 0 ∨ (0 : Int) = 1 by decide) dX0_readCommand_70
    · rw [if_pos hc1] at hf
      refine lv_iload_n hx hb dX0_readCommand_8 rfl (lv_at hl 1 rfl) ?_
      refine k_cSa (As := [.int (i3 (z))]) (rest := []) ⟨hx, hb, hml, hown, hts⟩ (mT_patternOf l G M z hz1 _ rfl) (va_cwS 1 hts (gbS (inB_17 _ (List.mem_of_getElem? (i := 11) rfl)) (inB_17 _ (List.mem_of_getElem? (i := 12) rfl)) (inB_1 _ (List.mem_of_getElem? (i := 23) rfl)) (inB_17 _ (List.mem_of_getElem? (i := 13) rfl))) rfl rfl rfl (by decide +kernel) ⟨Nat.le_of_ble_eq_true rfl, Nat.le_of_ble_eq_true rfl⟩) hW hS rfl hl.1 rfl (lv_room (Nat.le_of_ble_eq_true rfl)) dX0_readCommand_9 ⟨Nat.zero_le _, Nat.zero_le _⟩ (fun H locs hW hS => ?_)
      refine lv_astore_n (lv' := [(2, .ref (gA G (100 + (fT_patternOf z)))), (0, .ref (gA G (2))), (1, .int (i3 (z)))]) hx hb dX0_readCommand_12 rfl hl (by decide) rfl (fun ls hl => ?_)
      refine lv_aload_n hx hb dX0_readCommand_13 rfl (lv_at hl 0 rfl) ?_
      refine k_cVz (As := []) (rest := []) ⟨hx, hb, hml, hown, hts⟩ (mS_isEmpty l G M ((fT_patternOf z)) (fT_pat_lt _) _ rfl) (cwV 0 hts (gbV (inB_17 _ (List.mem_of_getElem? (i := 14) rfl)) (inB_17 _ (List.mem_of_getElem? (i := 15) rfl)) (inB_17 _ (List.mem_of_getElem? (i := 16) rfl)) (inB_14 _ (List.mem_of_getElem? (i := 17) rfl)) (inB_17 _ (List.mem_of_getElem? (i := 17) rfl))) rfl rfl rfl (by decide +kernel) ⟨Nat.le_of_ble_eq_true rfl, Nat.le_of_ble_eq_true rfl⟩) (rv_S (fT_pat_lt _) hW) hW hS rfl hl.1 rfl (lv_room (Nat.le_of_ble_eq_true rfl)) dX0_readCommand_14 ⟨Nat.zero_le _, Nat.zero_le _⟩ (fun hv3 H locs hW hS => ?_)
      refine k_if_ne (tgt := 63) hx hb (inR_z hv3) dX0_readCommand_17 (by decide) (fun hc4 => ?_) (fun hc4 => ?_)
      · rw [if_neg hc4] at hf
        exact J5 (z) hf hz1 _ _ _ hW hS (lv_sub hl [1, 2] rfl)
      · rw [if_pos hc4] at hf
        refine lv_aload_n hx hb dX0_readCommand_20 rfl (lv_at hl 1 rfl) ?_
        refine k_cVi (As := []) (rest := []) ⟨hx, hb, hml, hown, hts⟩ (mT_nextCode l G M _ rfl) (cwV 0 hts (gbV (inB_17 _ (List.mem_of_getElem? (i := 18) rfl)) (inB_17 _ (List.mem_of_getElem? (i := 19) rfl)) (inB_17 _ (List.mem_of_getElem? (i := 20) rfl)) (inB_1 _ (List.mem_of_getElem? (i := 23) rfl)) (inB_17 _ (List.mem_of_getElem? (i := 21) rfl))) rfl rfl rfl (by decide +kernel) ⟨Nat.le_of_ble_eq_true rfl, Nat.le_of_ble_eq_true rfl⟩) (rv_T hW) hW hS rfl hl.1 rfl (lv_room (Nat.le_of_ble_eq_true rfl)) dX0_readCommand_21 ⟨Nat.zero_le _, Nat.zero_le _⟩ (fun hv7 H locs hW hS => ?_)
        refine lv_aload_n hx hb dX0_readCommand_24 rfl (lv_at hl 0 rfl) ?_
        refine k_const hx hb dX0_readCommand_25 ?_
        obtain ⟨q8, hq8, hf⟩ := bind_el hf
        refine k_cVi (As := [.int (i3 (0))]) (rest := [.int (i3 ((fT_nextCode M)))]) ⟨hx, hb, hml, hown, hts⟩ (mS_charAt l G M ((fT_patternOf z)) (fT_pat_lt _) 0 (show inR (0) by decide) q8 hq8) (cwV 1 hts (gbV (inB_17 _ (List.mem_of_getElem? (i := 22) rfl)) (inB_15 _ (List.mem_of_getElem? (i := 3) rfl)) (inB_15 _ (List.mem_of_getElem? (i := 4) rfl)) (inB_14 _ (List.mem_of_getElem? (i := 17) rfl)) (inB_15 _ (List.mem_of_getElem? (i := 5) rfl))) rfl rfl rfl (by decide +kernel) ⟨Nat.le_of_ble_eq_true rfl, Nat.le_of_ble_eq_true rfl⟩) (rv_S (fT_pat_lt _) hW) hW hS rfl hl.1 rfl (lv_room (Nat.le_of_ble_eq_true rfl)) dX0_readCommand_26 ⟨Nat.zero_le _, Nat.zero_le _⟩ (fun hv9 H locs hW hS => ?_)
        refine k_icmp_ne (tgt := 63) hx hb hv7 hv9 dX0_readCommand_29 (by decide) (fun hc10 => ?_) (fun hc10 => ?_)
        · rw [if_neg hc10] at hf
          exact J5 (z) hf hz1 _ _ _ hW hS (lv_sub hl [1, 2] rfl)
        · rw [if_pos hc10] at hf
          obtain rfl := some_el hf
          exact hK hz1 (fT_pat_lt _) _ _ _ hW hS (lv_sub hl [1, 2, 0] rfl)
  refine k_const hx hb dX0_readCommand_0 ?_
  refine lv_istore_n (lv' := [(1, .int (i3 (0))), (0, .ref (gA G (2)))]) hx hb dX0_readCommand_1 rfl hl (by decide) rfl (fun ls hl => ?_)
  obtain ⟨q12, hq12, hf⟩ := bind_el hf
  refine L11 (M0) (0) q12 hq12 ?_ (show inR (0) by decide) _ _ _ hW hS (lv_sub hl [1, 0] rfl)
  clear hq12
  rcases q12 with w13 | w14
  · dsimp only at hf
    intro hv15 hv16 H locs ls hW hS hl
    refine lv_aload_n hx hb dX0_readCommand_32 rfl (lv_at hl 0 rfl) ?_
    refine lv_aload_n hx hb dX0_readCommand_33 rfl (lv_at hl 0 rfl) ?_
    refine va_get (D := G.1) (ci := 0) (v := .int (i3 (M0 2 3))) (C := RX0) (T := TX0) (N := 6) hx hb hts hinX0 hown hW.K hW.P 2 (he_T G M0) rfl 3 (by decide) (hts _ (List.mem_cons_of_mem _ (inB_3 _ (List.mem_of_getElem? (i := 10) rfl)))) (fun _ h9 => h9) rfl dX0_readCommand_34 ?_
    refine k_const hx hb dX0_readCommand_37 ?_
    refine k_mul hx hb dX0_readCommand_38 ?_
    obtain ⟨hg17, hf⟩ := gd_el hf
    obtain ⟨m18, hm18, hf⟩ := bind_el hf
    replace hm18 := some_el hm18
    refine k_put (C := RX0) (T := TX0) (N := 6) (ty := .int) (o := 2) hx hb hW hS hts hinX0 tyX0 tyX0_ok nmX0 hown (by decide) (pe_2 G _) rfl 4 (by decide) (pu_2_4 G _ _) (hts _ (List.mem_cons_of_mem _ (inB_3 _ (List.mem_of_getElem? (i := 11) rfl)))) rfl rfl (by decide +kernel) rfl rfl (Nat.le_of_ble_eq_true rfl) hg17 dX0_readCommand_39 (fun H locs hW hS => ?_)
    rw [hm18] at hW
    refine lv_aload_n hx hb dX0_readCommand_42 rfl (lv_at hl 0 rfl) ?_
    refine lv_iload_n hx hb dX0_readCommand_43 rfl (lv_at hl 1 rfl) ?_
    obtain ⟨m19, hm19, hf⟩ := bind_el hf
    refine k_cVv (As := [.int (i3 (w13.1))]) (rest := []) ⟨hx, hb, hml, hown, hts⟩ (mT_addCell l G m18 w13.1 hv15 m19 hm19) (cwV 1 hts (gbV (inB_17 _ (List.mem_of_getElem? (i := 23) rfl)) (inB_18 _ (List.mem_of_getElem? (i := 0) rfl)) (inB_18 _ (List.mem_of_getElem? (i := 1) rfl)) (inB_1 _ (List.mem_of_getElem? (i := 23) rfl)) (inB_18 _ (List.mem_of_getElem? (i := 2) rfl))) rfl rfl rfl (by decide +kernel) ⟨Nat.le_of_ble_eq_true rfl, Nat.le_of_ble_eq_true rfl⟩) (rv_T hW) hW hS rfl hl.1 rfl (lv_room (Nat.le_of_ble_eq_true rfl)) dX0_readCommand_44 ⟨Nat.zero_le _, Nat.zero_le _⟩ (fun H locs hW hS => ?_)
    refine lv_aload_n hx hb dX0_readCommand_47 rfl (lv_at hl 0 rfl) ?_
    refine lv_dup hx hb dX0_readCommand_48 rfl ?_
    refine va_get (D := G.1) (ci := 0) (v := .int (i3 (m19 2 3))) (C := RX0) (T := TX0) (N := 6) hx hb hts hinX0 hown hW.K hW.P 2 (he_T G m19) rfl 3 (by decide) (hts _ (List.mem_cons_of_mem _ (inB_3 _ (List.mem_of_getElem? (i := 10) rfl)))) (fun _ h9 => h9) rfl dX0_readCommand_49 ?_
    refine k_const hx hb dX0_readCommand_52 ?_
    refine k_add hx hb dX0_readCommand_53 ?_
    obtain ⟨hg21, hf⟩ := gd_el hf
    obtain ⟨m22, hm22, hf⟩ := bind_el hf
    replace hm22 := some_el hm22
    refine k_put (C := RX0) (T := TX0) (N := 6) (ty := .int) (o := 2) hx hb hW hS hts hinX0 tyX0 tyX0_ok nmX0 hown (by decide) (pe_2 G _) rfl 3 (by decide) (pu_2_3 G _ _) (hts _ (List.mem_cons_of_mem _ (inB_3 _ (List.mem_of_getElem? (i := 10) rfl)))) rfl rfl (by decide +kernel) rfl rfl (Nat.le_of_ble_eq_true rfl) hg21 dX0_readCommand_54 (fun H locs hW hS => ?_)
    rw [hm22] at hW
    refine lv_aload_n hx hb dX0_readCommand_57 rfl (lv_at hl 0 rfl) ?_
    refine lv_aload_n hx hb dX0_readCommand_58 rfl (lv_at hl 2 rfl) ?_
    obtain ⟨q23, hq23, hf⟩ := bind_el hf
    refine k_cVz (As := [.ref (gA G (100 + w13.2))]) (rest := []) ⟨hx, hb, hml, hown, hts⟩ (mT_readAlong l G m22 (w13.2) hv16 q23 hq23) (cwV 1 hts (gbV (inB_18 _ (List.mem_of_getElem? (i := 3) rfl)) (inB_18 _ (List.mem_of_getElem? (i := 4) rfl)) (inB_18 _ (List.mem_of_getElem? (i := 5) rfl)) (inB_1 _ (List.mem_of_getElem? (i := 23) rfl)) (inB_18 _ (List.mem_of_getElem? (i := 6) rfl))) rfl rfl rfl (by decide +kernel) ⟨Nat.le_of_ble_eq_true rfl, Nat.le_of_ble_eq_true rfl⟩) (rv_T hW) hW hS rfl hl.1 rfl (lv_room (Nat.le_of_ble_eq_true rfl)) dX0_readCommand_59 ⟨Nat.zero_le _, Nat.zero_le _⟩ (fun hv24 H locs hW hS => ?_)
    obtain rfl := some_el hf
    exact k_retz hx hb hr hlocks hW hS rfl hv24 dX0_readCommand_62
  · dsimp only at hf
    exact some_el hf
set_option maxHeartbeats 4000000 in
set_option maxRecDepth 100000 in
theorem mT_readCommands (l : Launch) (G : gG) (M0 : MemG)  (r : MemG × Int) (hf : fT_readCommands M0 = some r) : Met l yX0_readCommands (wb yX0_readCommands cX0_readCommands 2 (some .boolean)) ({ frames := 6, cells := 0, slots := 0, locals := 131 } : Room) (PcG G M0 [.ref (gA G (2))]) (QcZ G r.1 r.2) 0 0 (PA G) := by
  refine Met.ofW (cc := cX0_readCommands) (maxL := 2) (ret := (some .boolean)) (by decide) rfl ?_
  intro p e s m args below meth c s₁ B hml hv0
  obtain ⟨hav, hW⟩ := hv0
  have hx := B.exec
  have hb := B.bytes
  have hr := B.returns
  have hts := atoms_spec (ws := (wb yX0_readCommands cX0_readCommands 2 (some .boolean))) B.pre
  have hown : s.vm.findClass RX0 = some m.cls := findClass_of_methodNamed B.named
  have hlocks := B.notSynchronized
  have hinX0 : ∀ w ∈ u_ws RX0 TX0 6, w ∈ (wb yX0_readCommands cX0_readCommands 2 (some .boolean)) := fun _ h => List.mem_cons_of_mem _ (inlX0 _ h)
  have hW : Wd G M0 s s.heap := hW
  have hS : va_S (PA G) s.heap s.heap [] := va_S.rf
  have hl := lv_entry [.ref (gA G (2))] (n := 2) (Nat.le_of_ble_eq_true rfl)
  have hent := lg_entry_eq m [.ref (gA G (2))] 2
  rw [← hav] at hent
  rw [hent]
  clear hent
  generalize (lg_sl [.ref (gA G (2))] ++ List.replicate (2 - (lg_sl [.ref (gA G (2))]).length) Slot.unset).toArray = ls at hl ⊢
  have hl : lv_has ls 2 [(0, .ref (gA G (2)))] := hl
  unfold fT_readCommands at hf
  show W p l e ({ frames := 6, cells := 0, slots := 0, locals := 131 } : Room) s m args below meth c s.heap [] 0 0 (MQ below (QcZ G r.1 r.2) args s 0 0 (PA G)) (F0 m 0 ls [])
  have L12 : ∀ (z : (Int × MemG)) (q : (MemG × Int)), loopN (fT_readCommands_l12) 200 z = some q → (q = r) → (inR (z.1) → ∀ (H : Heap) (locs : List Loc) (ls : Array Slot), Wd G (z.2) s H → va_S (PA G) s.heap H locs → lv_has ls 2 [(0, .ref (gA G (2))), (1, .int (i3 (z.1)))] → W p l e ({ frames := 6, cells := 0, slots := 0, locals := 131 } : Room) s m args below meth c H locs 0 0 (MQ below (QcZ G r.1 r.2) args s 0 0 (PA G)) (F0 m 12 ls [])) := by
    intro z q hq hex
    refine loop_rule (fT_readCommands_l12) (fun z => inR (z.1) → ∀ (H : Heap) (locs : List Loc) (ls : Array Slot), Wd G (z.2) s H → va_S (PA G) s.heap H locs → lv_has ls 2 [(0, .ref (gA G (2))), (1, .int (i3 (z.1)))] → W p l e ({ frames := 6, cells := 0, slots := 0, locals := 131 } : Room) s m args below meth c H locs 0 0 (MQ below (QcZ G r.1 r.2) args s 0 0 (PA G)) (F0 m 12 ls [])) (fun q => (q = r)) ?_ 200 z q hq hex
    clear hq hex q z
    intro z x hf hK hz1 H locs ls hW hS hl
    unfold fT_readCommands_l12 at hf
    refine lv_iload_n hx hb dX0_readCommands_12 rfl (lv_at hl 1 rfl) ?_
    refine k_bipush hx hb dX0_readCommands_13 (by decide +kernel) ?_
    refine k_icmp_gt (tgt := 57) hx hb hz1 (show inR (10) by decide) dX0_readCommands_15 (by decide) (fun hc3 => ?_) (fun hc3 => ?_)
    · rw [if_pos hc3] at hf
      refine k_const hx hb dX0_readCommands_57 ?_
      obtain rfl := some_el hf
      obtain rfl : (z.2, 0) = r := hK
      exact k_retz hx hb hr hlocks hW hS rfl (show (0 : Int) = 0 ∨ (0 : Int) = 1 by decide) dX0_readCommands_58
    · rw [if_neg hc3] at hf
      refine lv_aload_n hx hb dX0_readCommands_18 rfl (lv_at hl 0 rfl) ?_
      obtain ⟨q4, hq4, hf⟩ := bind_el hf
      refine k_cVz (As := []) (rest := []) ⟨hx, hb, hml, hown, hts⟩ (mT_readCommand l G z.2 q4 hq4) (cwV 0 hts (gbV (inB_17 _ (List.mem_of_getElem? (i := 7) rfl)) (inB_17 _ (List.mem_of_getElem? (i := 8) rfl)) (inB_17 _ (List.mem_of_getElem? (i := 9) rfl)) (inB_1 _ (List.mem_of_getElem? (i := 23) rfl)) (inB_17 _ (List.mem_of_getElem? (i := 10) rfl))) rfl rfl rfl (by decide +kernel) ⟨Nat.le_of_ble_eq_true rfl, Nat.le_of_ble_eq_true rfl⟩) (rv_T hW) hW hS rfl hl.1 rfl (lv_room (Nat.le_of_ble_eq_true rfl)) dX0_readCommands_19 ⟨Nat.zero_le _, Nat.zero_le _⟩ (fun hv5 H locs hW hS => ?_)
      refine k_if_ne (tgt := 27) hx hb (inR_z hv5) dX0_readCommands_22 (by decide) (fun hc6 => ?_) (fun hc6 => ?_)
      · rw [if_neg hc6] at hf
        refine lv_aload_n hx hb dX0_readCommands_27 rfl (lv_at hl 0 rfl) ?_
        refine va_get (D := G.1) (ci := 0) (v := .int (i3 (q4.1 2 5))) (C := RX0) (T := TX0) (N := 6) hx hb hts hinX0 hown hW.K hW.P 2 (he_T G q4.1) rfl 5 (by decide) (hts _ (List.mem_cons_of_mem _ (inB_3 _ (List.mem_of_getElem? (i := 12) rfl)))) (fun _ h9 => h9) rfl dX0_readCommands_28 ?_
        refine lv_aload_n hx hb dX0_readCommands_31 rfl (lv_at hl 0 rfl) ?_
        refine va_get (D := G.1) (ci := 0) (v := .int (i3 (q4.1 2 1))) (C := RX0) (T := TX0) (N := 6) hx hb hts hinX0 hown hW.K hW.P 2 (he_T G q4.1) rfl 1 (by decide) (hts _ (List.mem_cons_of_mem _ (inB_3 _ (List.mem_of_getElem? (i := 8) rfl)))) (fun _ h9 => h9) rfl dX0_readCommands_32 ?_
        refine k_icmp_ne (tgt := 40) hx hb (hW.R 2 5) (hW.R 2 1) dX0_readCommands_35 (by decide) (fun hc7 => ?_) (fun hc7 => ?_)
        · rw [if_neg hc7] at hf
          refine lv_aload_n hx hb dX0_readCommands_40 rfl (lv_at hl 0 rfl) ?_
          refine k_bipush hx hb dX0_readCommands_41 (by decide +kernel) ?_
          obtain ⟨q8, hq8, hf⟩ := bind_el hf
          refine k_cVz (As := [.int (i3 (59))]) (rest := []) ⟨hx, hb, hml, hown, hts⟩ (mT_readCode l G q4.1 59 (show inR (59) by decide) q8 hq8) (cwV 1 hts (gbV (inB_18 _ (List.mem_of_getElem? (i := 16) rfl)) (inB_18 _ (List.mem_of_getElem? (i := 17) rfl)) (inB_18 _ (List.mem_of_getElem? (i := 18) rfl)) (inB_1 _ (List.mem_of_getElem? (i := 23) rfl)) (inB_18 _ (List.mem_of_getElem? (i := 19) rfl))) rfl rfl rfl (by decide +kernel) ⟨Nat.le_of_ble_eq_true rfl, Nat.le_of_ble_eq_true rfl⟩) (rv_T hW) hW hS rfl hl.1 rfl (lv_room (Nat.le_of_ble_eq_true rfl)) dX0_readCommands_43 ⟨Nat.zero_le _, Nat.zero_le _⟩ (fun hv9 H locs hW hS => ?_)
          refine k_if_ne (tgt := 51) hx hb (inR_z hv9) dX0_readCommands_46 (by decide) (fun hc10 => ?_) (fun hc10 => ?_)
          · rw [if_neg hc10] at hf
            obtain ⟨hg11, hf⟩ := gd_el hf
            refine k_iinc (lv' := [(1, .int (i3 (z.1 + 1))), (0, .ref (gA G (2)))]) hx hb dX0_readCommands_51 hl (k := 1) rfl (by decide) rfl (fun ls hl => ?_)
            refine lv_goto (tgt := 12) hx hb dX0_readCommands_54 (by decide) ?_
            obtain rfl := some_el hf
            exact hK hg11 _ _ _ hW hS (lv_sub hl [1, 0] rfl)
          · rw [if_pos hc10] at hf
            refine k_const hx hb dX0_readCommands_49 ?_
            obtain rfl := some_el hf
            obtain rfl : (q8.1, 0) = r := hK
            exact k_retz hx hb hr hlocks hW hS rfl (show (0 : Int) = 0 ∨ (0 : Int) = 1 by decide) dX0_readCommands_50
        · rw [if_pos hc7] at hf
          refine k_const hx hb dX0_readCommands_38 ?_
          obtain rfl := some_el hf
          obtain rfl : (q4.1, 1) = r := hK
          exact k_retz hx hb hr hlocks hW hS rfl (show (1 : Int) = 0 ∨ (1 : Int) = 1 by decide) dX0_readCommands_39
      · rw [if_pos hc6] at hf
        refine k_const hx hb dX0_readCommands_25 ?_
        obtain rfl := some_el hf
        obtain rfl : (q4.1, 0) = r := hK
        exact k_retz hx hb hr hlocks hW hS rfl (show (0 : Int) = 0 ∨ (0 : Int) = 1 by decide) dX0_readCommands_26
  refine lv_aload_n hx hb dX0_readCommands_0 rfl (lv_at hl 0 rfl) ?_
  refine k_const hx hb dX0_readCommands_1 ?_
  obtain ⟨m1, hm1, hf⟩ := bind_el hf
  replace hm1 := some_el hm1
  refine k_put (C := RX0) (T := TX0) (N := 6) (ty := .int) (o := 2) hx hb hW hS hts hinX0 tyX0 tyX0_ok nmX0 hown (by decide) (pe_2 G _) rfl 5 (by decide) (pu_2_5 G _ _) (hts _ (List.mem_cons_of_mem _ (inB_3 _ (List.mem_of_getElem? (i := 12) rfl)))) rfl rfl (by decide +kernel) rfl rfl (Nat.le_of_ble_eq_true rfl) (show inR (0) by decide) dX0_readCommands_2 (fun H locs hW hS => ?_)
  rw [hm1] at hW
  refine lv_aload_n hx hb dX0_readCommands_5 rfl (lv_at hl 0 rfl) ?_
  refine k_const hx hb dX0_readCommands_6 ?_
  obtain ⟨m2, hm2, hf⟩ := bind_el hf
  replace hm2 := some_el hm2
  refine k_put (C := RX0) (T := TX0) (N := 6) (ty := .int) (o := 2) hx hb hW hS hts hinX0 tyX0 tyX0_ok nmX0 hown (by decide) (pe_2 G _) rfl 3 (by decide) (pu_2_3 G _ _) (hts _ (List.mem_cons_of_mem _ (inB_3 _ (List.mem_of_getElem? (i := 10) rfl)))) rfl rfl (by decide +kernel) rfl rfl (Nat.le_of_ble_eq_true rfl) (show inR (0) by decide) dX0_readCommands_7 (fun H locs hW hS => ?_)
  rw [hm2] at hW
  refine k_const hx hb dX0_readCommands_10 ?_
  refine lv_istore_n (lv' := [(1, .int (i3 (0))), (0, .ref (gA G (2)))]) hx hb dX0_readCommands_11 rfl hl (by decide) rfl (fun ls hl => ?_)
  exact L12  (0, m2) r hf rfl (show inR (0) by decide) _ _ _ hW hS (lv_sub hl [1, 0] rfl)
set_option maxHeartbeats 4000000 in
set_option maxRecDepth 100000 in
theorem mT_argument (l : Launch) (G : gG) (M0 : MemG) (x1 : Int) (hx1 : inR x1) (x2 : Int) (hx2 : inR x2) (r : Int) (hf : fT_argument M0 x1 x2 = some r) : Met l yX0_argument (wb yX0_argument cX0_argument 3 (some .int)) ({ frames := 1, cells := 0, slots := 0, locals := 21 } : Room) (PcG G M0 [.ref (gA G (2)), .int (i3 (x1)), .int (i3 (x2))]) (QcI G M0 r) 0 0 (PA G) := by
  refine Met.ofW (cc := cX0_argument) (maxL := 3) (ret := (some .int)) (by decide) rfl ?_
  intro p e s m args below meth c s₁ B hml hv0
  obtain ⟨hav, hW⟩ := hv0
  have hx := B.exec
  have hb := B.bytes
  have hr := B.returns
  have hts := atoms_spec (ws := (wb yX0_argument cX0_argument 3 (some .int))) B.pre
  have hown : s.vm.findClass RX0 = some m.cls := findClass_of_methodNamed B.named
  have hlocks := B.notSynchronized
  have hinX0 : ∀ w ∈ u_ws RX0 TX0 6, w ∈ (wb yX0_argument cX0_argument 3 (some .int)) := fun _ h => List.mem_cons_of_mem _ (inlX0 _ h)
  have hW : Wd G M0 s s.heap := hW
  have hS : va_S (PA G) s.heap s.heap [] := va_S.rf
  have hl := lv_entry [.ref (gA G (2)), .int (i3 (x1)), .int (i3 (x2))] (n := 3) (Nat.le_of_ble_eq_true rfl)
  have hent := lg_entry_eq m [.ref (gA G (2)), .int (i3 (x1)), .int (i3 (x2))] 3
  rw [← hav] at hent
  rw [hent]
  clear hent
  generalize (lg_sl [.ref (gA G (2)), .int (i3 (x1)), .int (i3 (x2))] ++ List.replicate (3 - (lg_sl [.ref (gA G (2)), .int (i3 (x1)), .int (i3 (x2))]).length) Slot.unset).toArray = ls at hl ⊢
  have hl : lv_has ls 3 [(0, .ref (gA G (2))), (1, .int (i3 (x1))), (2, .int (i3 (x2)))] := hl
  unfold fT_argument at hf
  show W p l e ({ frames := 1, cells := 0, slots := 0, locals := 21 } : Room) s m args below meth c s.heap [] 0 0 (MQ below (QcI G M0 r) args s 0 0 (PA G)) (F0 m 0 ls [])
  refine lv_aload_n hx hb dX0_argument_0 rfl (lv_at hl 0 rfl) ?_
  refine va_get (D := G.1) (ci := 0) (v := .ref (gA G (83))) (C := RX0) (T := TX0) (N := 6) hx hb hts hinX0 hown hW.K hW.P 2 (he_T G M0) rfl 2 (by decide) (hts _ (List.mem_cons_of_mem _ (inB_3 _ (List.mem_of_getElem? (i := 9) rfl)))) (fun _ h9 => h9) rfl dX0_argument_1 ?_
  refine lv_iload_n hx hb dX0_argument_4 rfl (lv_at hl 1 rfl) ?_
  refine k_const hx hb dX0_argument_5 ?_
  refine k_mul hx hb dX0_argument_6 ?_
  refine lv_iload_n hx hb dX0_argument_7 rfl (lv_at hl 2 rfl) ?_
  refine k_add hx hb dX0_argument_8 ?_
  obtain ⟨hg1, hf⟩ := gd_el hf
  refine k_cNi (As := [.ref (gA G (83)), .int (i3 ((x1 * 4) + x2))]) (rest := []) ⟨hx, hb, hml, hown, hts⟩ (mG_at l G M0 (83) (by omega) ((x1 * 4) + x2) hg1 _ rfl) ⟨va_cnB 2 hts (gbC (inB_5 _ (List.mem_of_getElem? (i := 2) rfl))) rfl rfl rfl (hW.N _ (List.mem_of_getElem? (i := 6) rfl)) (hts _ (List.mem_cons_of_mem _ (inB_1 _ (List.mem_of_getElem? (i := 2) rfl)))) (by decide +kernel) ⟨Nat.le_of_ble_eq_true rfl, Nat.le_of_ble_eq_true rfl⟩, (hts _ (List.mem_cons_of_mem _ (inB_5 _ (List.mem_of_getElem? (i := 1) rfl)))), trivial⟩ hW hS rfl hl.1 rfl (lv_room (Nat.le_of_ble_eq_true rfl)) dX0_argument_9 ⟨Nat.zero_le _, Nat.zero_le _⟩ (fun hv2 H locs hW hS => ?_)
  obtain rfl := some_el hf
  exact k_ret hx hb hr hlocks hW hS rfl hv2 dX0_argument_12
set_option maxHeartbeats 4000000 in
set_option maxRecDepth 100000 in
theorem mT_verb (l : Launch) (G : gG) (M0 : MemG) (x1 : Int) (hx1 : inR x1) (r : Int) (hf : fT_verb M0 x1 = some r) : Met l yX0_verb (wb yX0_verb cX0_verb 2 (some .int)) ({ frames := 1, cells := 0, slots := 0, locals := 21 } : Room) (PcG G M0 [.ref (gA G (2)), .int (i3 (x1))]) (QcI G M0 r) 0 0 (PA G) := by
  refine Met.ofW (cc := cX0_verb) (maxL := 2) (ret := (some .int)) (by decide) rfl ?_
  intro p e s m args below meth c s₁ B hml hv0
  obtain ⟨hav, hW⟩ := hv0
  have hx := B.exec
  have hb := B.bytes
  have hr := B.returns
  have hts := atoms_spec (ws := (wb yX0_verb cX0_verb 2 (some .int))) B.pre
  have hown : s.vm.findClass RX0 = some m.cls := findClass_of_methodNamed B.named
  have hlocks := B.notSynchronized
  have hinX0 : ∀ w ∈ u_ws RX0 TX0 6, w ∈ (wb yX0_verb cX0_verb 2 (some .int)) := fun _ h => List.mem_cons_of_mem _ (inlX0 _ h)
  have hW : Wd G M0 s s.heap := hW
  have hS : va_S (PA G) s.heap s.heap [] := va_S.rf
  have hl := lv_entry [.ref (gA G (2)), .int (i3 (x1))] (n := 2) (Nat.le_of_ble_eq_true rfl)
  have hent := lg_entry_eq m [.ref (gA G (2)), .int (i3 (x1))] 2
  rw [← hav] at hent
  rw [hent]
  clear hent
  generalize (lg_sl [.ref (gA G (2)), .int (i3 (x1))] ++ List.replicate (2 - (lg_sl [.ref (gA G (2)), .int (i3 (x1))]).length) Slot.unset).toArray = ls at hl ⊢
  have hl : lv_has ls 2 [(0, .ref (gA G (2))), (1, .int (i3 (x1)))] := hl
  unfold fT_verb at hf
  show W p l e ({ frames := 1, cells := 0, slots := 0, locals := 21 } : Room) s m args below meth c s.heap [] 0 0 (MQ below (QcI G M0 r) args s 0 0 (PA G)) (F0 m 0 ls [])
  refine lv_aload_n hx hb dX0_verb_0 rfl (lv_at hl 0 rfl) ?_
  refine va_get (D := G.1) (ci := 0) (v := .ref (gA G (83))) (C := RX0) (T := TX0) (N := 6) hx hb hts hinX0 hown hW.K hW.P 2 (he_T G M0) rfl 2 (by decide) (hts _ (List.mem_cons_of_mem _ (inB_3 _ (List.mem_of_getElem? (i := 9) rfl)))) (fun _ h9 => h9) rfl dX0_verb_1 ?_
  refine lv_iload_n hx hb dX0_verb_4 rfl (lv_at hl 1 rfl) ?_
  refine k_const hx hb dX0_verb_5 ?_
  refine k_mul hx hb dX0_verb_6 ?_
  obtain ⟨hg1, hf⟩ := gd_el hf
  refine k_cNi (As := [.ref (gA G (83)), .int (i3 (x1 * 4))]) (rest := []) ⟨hx, hb, hml, hown, hts⟩ (mG_at l G M0 (83) (by omega) (x1 * 4) hg1 _ rfl) ⟨va_cnB 2 hts (gbC (inB_5 _ (List.mem_of_getElem? (i := 2) rfl))) rfl rfl rfl (hW.N _ (List.mem_of_getElem? (i := 6) rfl)) (hts _ (List.mem_cons_of_mem _ (inB_1 _ (List.mem_of_getElem? (i := 2) rfl)))) (by decide +kernel) ⟨Nat.le_of_ble_eq_true rfl, Nat.le_of_ble_eq_true rfl⟩, (hts _ (List.mem_cons_of_mem _ (inB_5 _ (List.mem_of_getElem? (i := 1) rfl)))), trivial⟩ hW hS rfl hl.1 rfl (lv_room (Nat.le_of_ble_eq_true rfl)) dX0_verb_7 ⟨Nat.zero_le _, Nat.zero_le _⟩ (fun hv2 H locs hW hS => ?_)
  obtain rfl := some_el hf
  exact k_ret hx hb hr hlocks hW hS rfl hv2 dX0_verb_10
set_option maxHeartbeats 4000000 in
set_option maxRecDepth 100000 in
theorem mP_giveBack (l : Launch) (G : gG) (M0 : MemG) (k : Nat) (hk : k < 11) (r : MemG) (hf : fP_giveBack M0 k = some r) : Met l yX2_giveBack (wb yX2_giveBack cX2_giveBack 2 none) ({ frames := 2, cells := 0, slots := 0, locals := 43 } : Room) (PcG G M0 [.ref (gA G (1)), .ref (gA G (5 + k))]) (QcV G r) 0 0 (PA G) := by
  refine Met.ofW (cc := cX2_giveBack) (maxL := 2) (ret := none) (by decide) rfl ?_
  intro p e s m args below meth c s₁ B hml hv0
  obtain ⟨hav, hW⟩ := hv0
  have hx := B.exec
  have hb := B.bytes
  have hr := B.returns
  have hts := atoms_spec (ws := (wb yX2_giveBack cX2_giveBack 2 none)) B.pre
  have hown : s.vm.findClass RX2 = some m.cls := findClass_of_methodNamed B.named
  have hlocks := B.notSynchronized
  have hinX2 : ∀ w ∈ u_ws RX2 TX2 3, w ∈ (wb yX2_giveBack cX2_giveBack 2 none) := fun _ h => List.mem_cons_of_mem _ (inlX2 _ h)
  have hW : Wd G M0 s s.heap := hW
  have hS : va_S (PA G) s.heap s.heap [] := va_S.rf
  have hl := lv_entry [.ref (gA G (1)), .ref (gA G (5 + k))] (n := 2) (Nat.le_of_ble_eq_true rfl)
  have hent := lg_entry_eq m [.ref (gA G (1)), .ref (gA G (5 + k))] 2
  rw [← hav] at hent
  rw [hent]
  clear hent
  generalize (lg_sl [.ref (gA G (1)), .ref (gA G (5 + k))] ++ List.replicate (2 - (lg_sl [.ref (gA G (1)), .ref (gA G (5 + k))]).length) Slot.unset).toArray = ls at hl ⊢
  have hl : lv_has ls 2 [(0, .ref (gA G (1))), (1, .ref (gA G (5 + k)))] := hl
  unfold fP_giveBack at hf
  show W p l e ({ frames := 2, cells := 0, slots := 0, locals := 43 } : Room) s m args below meth c s.heap [] 0 0 (MQ below (QcV G r) args s 0 0 (PA G)) (F0 m 0 ls [])
  refine lv_aload_n hx hb dX2_giveBack_0 rfl (lv_at hl 0 rfl) ?_
  refine lv_aload_n hx hb dX2_giveBack_1 rfl (lv_at hl 0 rfl) ?_
  refine va_get (D := G.1) (ci := 2) (v := .int (i3 (M0 1 1))) (C := RX2) (T := TX2) (N := 3) hx hb hts hinX2 hown hW.K hW.P 1 (he_P G M0) rfl 1 (by decide) (hts _ (List.mem_cons_of_mem _ (inB_3 _ (List.mem_of_getElem? (i := 1) rfl)))) (fun _ h9 => h9) rfl dX2_giveBack_2 ?_
  refine k_bipush hx hb dX2_giveBack_5 (by decide +kernel) ?_
  refine k_add hx hb dX2_giveBack_7 ?_
  refine k_const hx hb dX2_giveBack_8 ?_
  refine k_sub hx hb dX2_giveBack_9 ?_
  refine k_bipush hx hb dX2_giveBack_10 (by decide +kernel) ?_
  obtain ⟨hg1, hf⟩ := gd_el hf
  obtain ⟨hg2, hf⟩ := gq_el hf
  refine k_rem hx hb dX2_giveBack_12 hg1 (show inR (8) by decide) hg2 ?_
  obtain ⟨m3, hm3, hf⟩ := bind_el hf
  replace hm3 := some_el hm3
  refine k_put (C := RX2) (T := TX2) (N := 3) (ty := .int) (o := 1) hx hb hW hS hts hinX2 tyX2 tyX2_ok nmX2 hown (by decide) (pe_1 G _) rfl 1 (by decide) (pu_1_1 G _ _) (hts _ (List.mem_cons_of_mem _ (inB_3 _ (List.mem_of_getElem? (i := 1) rfl)))) rfl rfl (by decide +kernel) rfl rfl (Nat.le_of_ble_eq_true rfl) (inR_mod (show inR (8) by decide) hg2.2) dX2_giveBack_13 (fun H locs hW hS => ?_)
  rw [hm3] at hW
  refine lv_aload_n hx hb dX2_giveBack_16 rfl (lv_at hl 0 rfl) ?_
  refine lv_aload_n hx hb dX2_giveBack_17 rfl (lv_at hl 0 rfl) ?_
  refine va_get (D := G.1) (ci := 2) (v := .int (i3 (m3 1 2))) (C := RX2) (T := TX2) (N := 3) hx hb hts hinX2 hown hW.K hW.P 1 (he_P G m3) rfl 2 (by decide) (hts _ (List.mem_cons_of_mem _ (inB_3 _ (List.mem_of_getElem? (i := 2) rfl)))) (fun _ h9 => h9) rfl dX2_giveBack_18 ?_
  refine k_const hx hb dX2_giveBack_21 ?_
  refine k_sub hx hb dX2_giveBack_22 ?_
  refine k_const hx hb dX2_giveBack_23 ?_
  obtain ⟨hg4, hf⟩ := gd_el hf
  refine k_max hx hb (hml.trans hl.1.symm) hown (hts _ (List.mem_cons_of_mem _ (inB_20 _ (List.mem_of_getElem? (i := 16) rfl)))) (hts _ (List.mem_cons_of_mem _ (inB_11 _ (List.mem_of_getElem? (i := 9) rfl)))) (hts _ (List.mem_cons_of_mem _ (inB_7 _ (List.mem_of_getElem? (i := 17) rfl)))) (hts _ (List.mem_cons_of_mem _ (inB_11 _ (List.mem_of_getElem? (i := 10) rfl)))) (Nat.le_of_ble_eq_true rfl) (Nat.le_of_ble_eq_true rfl) (Nat.le_of_ble_eq_true rfl) (Nat.le_of_ble_eq_true rfl) hg4 (show inR (0) by decide) dX2_giveBack_24 ?_
  obtain ⟨m5, hm5, hf⟩ := bind_el hf
  replace hm5 := some_el hm5
  refine k_put (C := RX2) (T := TX2) (N := 3) (ty := .int) (o := 1) hx hb hW hS hts hinX2 tyX2 tyX2_ok nmX2 hown (by decide) (pe_1 G _) rfl 2 (by decide) (pu_1_2 G _ _) (hts _ (List.mem_cons_of_mem _ (inB_3 _ (List.mem_of_getElem? (i := 2) rfl)))) rfl rfl (by decide +kernel) rfl rfl (Nat.le_of_ble_eq_true rfl) (inR_max hg4 (show inR (0) by decide)) dX2_giveBack_27 (fun H locs hW hS => ?_)
  rw [hm5] at hW
  refine lv_aload_n hx hb dX2_giveBack_30 rfl (lv_at hl 0 rfl) ?_
  refine va_get (D := G.1) (ci := 2) (v := .int (i3 (m5 1 1))) (C := RX2) (T := TX2) (N := 3) hx hb hts hinX2 hown hW.K hW.P 1 (he_P G m5) rfl 1 (by decide) (hts _ (List.mem_cons_of_mem _ (inB_3 _ (List.mem_of_getElem? (i := 1) rfl)))) (fun _ h9 => h9) rfl dX2_giveBack_31 ?_
  refine k_if_lt (tgt := 74) hx hb (hW.R 1 1) dX2_giveBack_34 (by decide) (fun hc6 => ?_) (fun hc6 => ?_)
  · rw [if_pos hc6] at hf
    obtain rfl := some_el hf
    exact k_retv hx hb hr hlocks hW hS rfl dX2_giveBack_74
  · rw [if_neg hc6] at hf
    refine lv_aload_n hx hb dX2_giveBack_37 rfl (lv_at hl 0 rfl) ?_
    refine va_get (D := G.1) (ci := 2) (v := .int (i3 (m5 1 1))) (C := RX2) (T := TX2) (N := 3) hx hb hts hinX2 hown hW.K hW.P 1 (he_P G m5) rfl 1 (by decide) (hts _ (List.mem_cons_of_mem _ (inB_3 _ (List.mem_of_getElem? (i := 1) rfl)))) (fun _ h9 => h9) rfl dX2_giveBack_38 ?_
    refine lv_aload_n hx hb dX2_giveBack_41 rfl (lv_at hl 0 rfl) ?_
    refine va_get (D := G.1) (ci := 2) (v := .ref (gA G (4))) (C := RX2) (T := TX2) (N := 3) hx hb hts hinX2 hown hW.K hW.P 1 (he_P G m5) rfl 0 (by decide) (hts _ (List.mem_cons_of_mem _ (inB_3 _ (List.mem_of_getElem? (i := 0) rfl)))) (fun _ h9 => h9) rfl dX2_giveBack_42 ?_
    refine k_walen hx hb hW dX2_giveBack_45 ?_
    refine k_icmp_ge (tgt := 74) hx hb (hW.R 1 1) (by decide) dX2_giveBack_46 (by decide) (fun hc7 => ?_) (fun hc7 => ?_)
    · rw [if_neg hc7] at hf
      obtain rfl := some_el hf
      exact k_retv hx hb hr hlocks hW hS rfl dX2_giveBack_74
    · rw [if_pos hc7] at hf
      refine lv_aload_n hx hb dX2_giveBack_49 rfl (lv_at hl 0 rfl) ?_
      refine va_get (D := G.1) (ci := 2) (v := .ref (gA G (4))) (C := RX2) (T := TX2) (N := 3) hx hb hts hinX2 hown hW.K hW.P 1 (he_P G m5) rfl 0 (by decide) (hts _ (List.mem_cons_of_mem _ (inB_3 _ (List.mem_of_getElem? (i := 0) rfl)))) (fun _ h9 => h9) rfl dX2_giveBack_50 ?_
      refine lv_aload_n hx hb dX2_giveBack_53 rfl (lv_at hl 0 rfl) ?_
      refine va_get (D := G.1) (ci := 2) (v := .int (i3 (m5 1 1))) (C := RX2) (T := TX2) (N := 3) hx hb hts hinX2 hown hW.K hW.P 1 (he_P G m5) rfl 1 (by decide) (hts _ (List.mem_cons_of_mem _ (inB_3 _ (List.mem_of_getElem? (i := 1) rfl)))) (fun _ h9 => h9) rfl dX2_giveBack_54 ?_
      refine k_aald hx hb hW (hW.R 1 1) (by omega) (by omega) dX2_giveBack_57 ?_
      refine lv_ifnull hx hb dX2_giveBack_58 ?_
      refine lv_aload_n hx hb dX2_giveBack_61 rfl (lv_at hl 1 rfl) ?_
      refine lv_aload_n hx hb dX2_giveBack_62 rfl (lv_at hl 0 rfl) ?_
      refine va_get (D := G.1) (ci := 2) (v := .ref (gA G (4))) (C := RX2) (T := TX2) (N := 3) hx hb hts hinX2 hown hW.K hW.P 1 (he_P G m5) rfl 0 (by decide) (hts _ (List.mem_cons_of_mem _ (inB_3 _ (List.mem_of_getElem? (i := 0) rfl)))) (fun _ h9 => h9) rfl dX2_giveBack_63 ?_
      refine lv_aload_n hx hb dX2_giveBack_66 rfl (lv_at hl 0 rfl) ?_
      refine va_get (D := G.1) (ci := 2) (v := .int (i3 (m5 1 1))) (C := RX2) (T := TX2) (N := 3) hx hb hts hinX2 hown hW.K hW.P 1 (he_P G m5) rfl 1 (by decide) (hts _ (List.mem_cons_of_mem _ (inB_3 _ (List.mem_of_getElem? (i := 1) rfl)))) (fun _ h9 => h9) rfl dX2_giveBack_67 ?_
      refine k_aald hx hb hW (hW.R 1 1) (by omega) (by omega) dX2_giveBack_70 ?_
      obtain ⟨m8, hm8, hf⟩ := bind_el hf
      refine k_cVv (As := [.ref (gA G (5 + (3 + (m5 1 1).toNat)))]) (rest := []) ⟨hx, hb, hml, hown, hts⟩ (mW_copyFrom l G m5 (k) hk ((3 + (m5 1 1).toNat)) (by omega) m8 hm8) (cwV 1 hts (gbV (inB_7 _ (List.mem_of_getElem? (i := 19) rfl)) (inB_3 _ (List.mem_of_getElem? (i := 23) rfl)) (inB_4 _ (List.mem_of_getElem? (i := 0) rfl)) (inB_1 _ (List.mem_of_getElem? (i := 12) rfl)) (inB_4 _ (List.mem_of_getElem? (i := 1) rfl))) rfl rfl rfl (by decide +kernel) ⟨Nat.le_of_ble_eq_true rfl, Nat.le_of_ble_eq_true rfl⟩) (rv_wall hk hW) hW hS rfl hl.1 rfl (lv_room (Nat.le_of_ble_eq_true rfl)) dX2_giveBack_71 ⟨Nat.zero_le _, Nat.zero_le _⟩ (fun H locs hW hS => ?_)
      obtain rfl := some_el hf
      exact k_retv hx hb hr hlocks hW hS rfl dX2_giveBack_74
set_option maxHeartbeats 4000000 in
set_option maxRecDepth 100000 in
theorem mP_size (l : Launch) (G : gG) (M0 : MemG)  (r : Int) (hf : fP_size M0 = r) : Met l yX2_size (wb yX2_size cX2_size 1 (some .int)) ({ frames := 0, cells := 0, slots := 0, locals := 0 } : Room) (PcG G M0 [.ref (gA G (1))]) (QcI G M0 r) 0 0 (PA G) := by
  refine Met.ofW (cc := cX2_size) (maxL := 1) (ret := (some .int)) (by decide) rfl ?_
  intro p e s m args below meth c s₁ B hml hv0
  obtain ⟨hav, hW⟩ := hv0
  have hx := B.exec
  have hb := B.bytes
  have hr := B.returns
  have hts := atoms_spec (ws := (wb yX2_size cX2_size 1 (some .int))) B.pre
  have hown : s.vm.findClass RX2 = some m.cls := findClass_of_methodNamed B.named
  have hlocks := B.notSynchronized
  have hinX2 : ∀ w ∈ u_ws RX2 TX2 3, w ∈ (wb yX2_size cX2_size 1 (some .int)) := fun _ h => List.mem_cons_of_mem _ (inlX2 _ h)
  have hW : Wd G M0 s s.heap := hW
  have hS : va_S (PA G) s.heap s.heap [] := va_S.rf
  have hl := lv_entry [.ref (gA G (1))] (n := 1) (Nat.le_of_ble_eq_true rfl)
  have hent := lg_entry_eq m [.ref (gA G (1))] 1
  rw [← hav] at hent
  rw [hent]
  clear hent
  generalize (lg_sl [.ref (gA G (1))] ++ List.replicate (1 - (lg_sl [.ref (gA G (1))]).length) Slot.unset).toArray = ls at hl ⊢
  have hl : lv_has ls 1 [(0, .ref (gA G (1)))] := hl
  unfold fP_size at hf
  show W p l e ({ frames := 0, cells := 0, slots := 0, locals := 0 } : Room) s m args below meth c s.heap [] 0 0 (MQ below (QcI G M0 r) args s 0 0 (PA G)) (F0 m 0 ls [])
  refine lv_aload_n hx hb dX2_size_0 rfl (lv_at hl 0 rfl) ?_
  refine va_get (D := G.1) (ci := 2) (v := .int (i3 (M0 1 2))) (C := RX2) (T := TX2) (N := 3) hx hb hts hinX2 hown hW.K hW.P 1 (he_P G M0) rfl 2 (by decide) (hts _ (List.mem_cons_of_mem _ (inB_3 _ (List.mem_of_getElem? (i := 2) rfl)))) (fun _ h9 => h9) rfl dX2_size_1 ?_
  subst hf
  exact k_ret hx hb hr hlocks hW hS rfl (hW.R 1 2) dX2_size_4
set_option maxHeartbeats 4000000 in
set_option maxRecDepth 100000 in
theorem mT_size (l : Launch) (G : gG) (M0 : MemG)  (r : Int) (hf : fT_size M0 = r) : Met l yX0_size (wb yX0_size cX0_size 1 (some .int)) ({ frames := 0, cells := 0, slots := 0, locals := 0 } : Room) (PcG G M0 [.ref (gA G (2))]) (QcI G M0 r) 0 0 (PA G) := by
  refine Met.ofW (cc := cX0_size) (maxL := 1) (ret := (some .int)) (by decide) rfl ?_
  intro p e s m args below meth c s₁ B hml hv0
  obtain ⟨hav, hW⟩ := hv0
  have hx := B.exec
  have hb := B.bytes
  have hr := B.returns
  have hts := atoms_spec (ws := (wb yX0_size cX0_size 1 (some .int))) B.pre
  have hown : s.vm.findClass RX0 = some m.cls := findClass_of_methodNamed B.named
  have hlocks := B.notSynchronized
  have hinX0 : ∀ w ∈ u_ws RX0 TX0 6, w ∈ (wb yX0_size cX0_size 1 (some .int)) := fun _ h => List.mem_cons_of_mem _ (inlX0 _ h)
  have hW : Wd G M0 s s.heap := hW
  have hS : va_S (PA G) s.heap s.heap [] := va_S.rf
  have hl := lv_entry [.ref (gA G (2))] (n := 1) (Nat.le_of_ble_eq_true rfl)
  have hent := lg_entry_eq m [.ref (gA G (2))] 1
  rw [← hav] at hent
  rw [hent]
  clear hent
  generalize (lg_sl [.ref (gA G (2))] ++ List.replicate (1 - (lg_sl [.ref (gA G (2))]).length) Slot.unset).toArray = ls at hl ⊢
  have hl : lv_has ls 1 [(0, .ref (gA G (2)))] := hl
  unfold fT_size at hf
  show W p l e ({ frames := 0, cells := 0, slots := 0, locals := 0 } : Room) s m args below meth c s.heap [] 0 0 (MQ below (QcI G M0 r) args s 0 0 (PA G)) (F0 m 0 ls [])
  refine lv_aload_n hx hb dX0_size_0 rfl (lv_at hl 0 rfl) ?_
  refine va_get (D := G.1) (ci := 0) (v := .int (i3 (M0 2 1))) (C := RX0) (T := TX0) (N := 6) hx hb hts hinX0 hown hW.K hW.P 2 (he_T G M0) rfl 1 (by decide) (hts _ (List.mem_cons_of_mem _ (inB_3 _ (List.mem_of_getElem? (i := 8) rfl)))) (fun _ h9 => h9) rfl dX0_size_1 ?_
  subst hf
  exact k_ret hx hb hr hlocks hW hS rfl (hW.R 2 1) dX0_size_4
set_option maxHeartbeats 4000000 in
set_option maxRecDepth 100000 in
theorem mN_codeAt (l : Launch) (G : gG) (M0 : MemG) (x1 : Int) (hx1 : inR x1) (r : Int) (hf : fN_codeAt M0 x1 = some r) : Met l yX1_codeAt (wb yX1_codeAt cX1_codeAt 2 (some .int)) ({ frames := 1, cells := 0, slots := 0, locals := 22 } : Room) (PcG G M0 [.ref (gA G (3)), .int (i3 (x1))]) (QcI G M0 r) 0 0 (PA G) := by
  refine Met.ofW (cc := cX1_codeAt) (maxL := 2) (ret := (some .int)) (by decide) rfl ?_
  intro p e s m args below meth c s₁ B hml hv0
  obtain ⟨hav, hW⟩ := hv0
  have hx := B.exec
  have hb := B.bytes
  have hr := B.returns
  have hts := atoms_spec (ws := (wb yX1_codeAt cX1_codeAt 2 (some .int))) B.pre
  have hown : s.vm.findClass RX1 = some m.cls := findClass_of_methodNamed B.named
  have hlocks := B.notSynchronized
  have hinX1 : ∀ w ∈ u_ws RX1 TX1 2, w ∈ (wb yX1_codeAt cX1_codeAt 2 (some .int)) := fun _ h => List.mem_cons_of_mem _ (inlX1 _ h)
  have hW : Wd G M0 s s.heap := hW
  have hS : va_S (PA G) s.heap s.heap [] := va_S.rf
  have hl := lv_entry [.ref (gA G (3)), .int (i3 (x1))] (n := 2) (Nat.le_of_ble_eq_true rfl)
  have hent := lg_entry_eq m [.ref (gA G (3)), .int (i3 (x1))] 2
  rw [← hav] at hent
  rw [hent]
  clear hent
  generalize (lg_sl [.ref (gA G (3)), .int (i3 (x1))] ++ List.replicate (2 - (lg_sl [.ref (gA G (3)), .int (i3 (x1))]).length) Slot.unset).toArray = ls at hl ⊢
  have hl : lv_has ls 2 [(0, .ref (gA G (3))), (1, .int (i3 (x1)))] := hl
  unfold fN_codeAt at hf
  show W p l e ({ frames := 1, cells := 0, slots := 0, locals := 22 } : Room) s m args below meth c s.heap [] 0 0 (MQ below (QcI G M0 r) args s 0 0 (PA G)) (F0 m 0 ls [])
  refine lv_iload_n hx hb dX1_codeAt_0 rfl (lv_at hl 1 rfl) ?_
  refine k_const hx hb dX1_codeAt_1 ?_
  refine lv_aload_n hx hb dX1_codeAt_2 rfl (lv_at hl 0 rfl) ?_
  refine va_get (D := G.1) (ci := 1) (v := .int (i3 (M0 3 1))) (C := RX1) (T := TX1) (N := 2) hx hb hts hinX1 hown hW.K hW.P 3 (he_N G M0) rfl 1 (by decide) (hts _ (List.mem_cons_of_mem _ (inB_3 _ (List.mem_of_getElem? (i := 17) rfl)))) (fun _ h9 => h9) rfl dX1_codeAt_3 ?_
  refine k_const hx hb dX1_codeAt_6 ?_
  refine k_sub hx hb dX1_codeAt_7 ?_
  obtain ⟨hg1, hf⟩ := gd_el hf
  refine k_cNz (As := [.int (i3 (x1)), .int (i3 (0)), .int (i3 ((M0 3 1) - 1))]) (rest := []) ⟨hx, hb, hml, hown, hts⟩ (mG_isWithin l G M0 x1 hx1 0 (show inR (0) by decide) ((M0 3 1) - 1) hg1 _ rfl) ⟨va_cnB 3 hts (gbC (inB_4 _ (List.mem_of_getElem? (i := 13) rfl))) rfl rfl rfl (hW.N _ (List.mem_of_getElem? (i := 11) rfl)) (hts _ (List.mem_cons_of_mem _ (inB_1 _ (List.mem_of_getElem? (i := 2) rfl)))) (by decide +kernel) ⟨Nat.le_of_ble_eq_true rfl, Nat.le_of_ble_eq_true rfl⟩, (hts _ (List.mem_cons_of_mem _ (inB_4 _ (List.mem_of_getElem? (i := 12) rfl)))), trivial⟩ hW hS rfl hl.1 rfl (lv_room (Nat.le_of_ble_eq_true rfl)) dX1_codeAt_8 ⟨Nat.zero_le _, Nat.zero_le _⟩ (fun hv2 H locs hW hS => ?_)
  refine k_if_eq (tgt := 25) hx hb (inR_z hv2) dX1_codeAt_11 (by decide) (fun hc3 => ?_) (fun hc3 => ?_)
  · rw [if_pos hc3] at hf
    refine k_bipush hx hb dX1_codeAt_25 (by decide +kernel) ?_
    obtain rfl := some_el hf
    exact k_ret hx hb hr hlocks hW hS rfl (show inR (-11) by decide) dX1_codeAt_27
  · rw [if_neg hc3] at hf
    refine lv_aload_n hx hb dX1_codeAt_14 rfl (lv_at hl 0 rfl) ?_
    refine va_get (D := G.1) (ci := 1) (v := .ref (gA G (84))) (C := RX1) (T := TX1) (N := 2) hx hb hts hinX1 hown hW.K hW.P 3 (he_N G M0) rfl 0 (by decide) (hts _ (List.mem_cons_of_mem _ (inB_3 _ (List.mem_of_getElem? (i := 16) rfl)))) (fun _ h9 => h9) rfl dX1_codeAt_15 ?_
    refine lv_iload_n hx hb dX1_codeAt_18 rfl (lv_at hl 1 rfl) ?_
    refine k_cNi (As := [.ref (gA G (84)), .int (i3 (x1))]) (rest := []) ⟨hx, hb, hml, hown, hts⟩ (mG_at l G M0 (84) (by omega) x1 hx1 _ rfl) ⟨va_cnB 2 hts (gbC (inB_5 _ (List.mem_of_getElem? (i := 2) rfl))) rfl rfl rfl (hW.N _ (List.mem_of_getElem? (i := 12) rfl)) (hts _ (List.mem_cons_of_mem _ (inB_1 _ (List.mem_of_getElem? (i := 2) rfl)))) (by decide +kernel) ⟨Nat.le_of_ble_eq_true rfl, Nat.le_of_ble_eq_true rfl⟩, (hts _ (List.mem_cons_of_mem _ (inB_5 _ (List.mem_of_getElem? (i := 1) rfl)))), trivial⟩ hW hS rfl hl.1 rfl (lv_room (Nat.le_of_ble_eq_true rfl)) dX1_codeAt_19 ⟨Nat.zero_le _, Nat.zero_le _⟩ (fun hv4 H locs hW hS => ?_)
    refine lv_goto (tgt := 27) hx hb dX1_codeAt_22 (by decide) ?_
    obtain rfl := some_el hf
    exact k_ret hx hb hr hlocks hW hS rfl hv4 dX1_codeAt_27
set_option maxHeartbeats 4000000 in
set_option maxRecDepth 100000 in
theorem mN_addCode (l : Launch) (G : gG) (M0 : MemG) (x1 : Int) (hx1 : inR x1) (r : MemG) (hf : fN_addCode M0 x1 = some r) : Met l yX1_addCode (wb yX1_addCode cX1_addCode 2 none) ({ frames := 1, cells := 0, slots := 0, locals := 22 } : Room) (PcG G M0 [.ref (gA G (3)), .int (i3 (x1))]) (QcV G r) 0 0 (PA G) := by
  refine Met.ofW (cc := cX1_addCode) (maxL := 2) (ret := none) (by decide) rfl ?_
  intro p e s m args below meth c s₁ B hml hv0
  obtain ⟨hav, hW⟩ := hv0
  have hx := B.exec
  have hb := B.bytes
  have hr := B.returns
  have hts := atoms_spec (ws := (wb yX1_addCode cX1_addCode 2 none)) B.pre
  have hown : s.vm.findClass RX1 = some m.cls := findClass_of_methodNamed B.named
  have hlocks := B.notSynchronized
  have hinX1 : ∀ w ∈ u_ws RX1 TX1 2, w ∈ (wb yX1_addCode cX1_addCode 2 none) := fun _ h => List.mem_cons_of_mem _ (inlX1 _ h)
  have hW : Wd G M0 s s.heap := hW
  have hS : va_S (PA G) s.heap s.heap [] := va_S.rf
  have hl := lv_entry [.ref (gA G (3)), .int (i3 (x1))] (n := 2) (Nat.le_of_ble_eq_true rfl)
  have hent := lg_entry_eq m [.ref (gA G (3)), .int (i3 (x1))] 2
  rw [← hav] at hent
  rw [hent]
  clear hent
  generalize (lg_sl [.ref (gA G (3)), .int (i3 (x1))] ++ List.replicate (2 - (lg_sl [.ref (gA G (3)), .int (i3 (x1))]).length) Slot.unset).toArray = ls at hl ⊢
  have hl : lv_has ls 2 [(0, .ref (gA G (3))), (1, .int (i3 (x1)))] := hl
  unfold fN_addCode at hf
  show W p l e ({ frames := 1, cells := 0, slots := 0, locals := 22 } : Room) s m args below meth c s.heap [] 0 0 (MQ below (QcV G r) args s 0 0 (PA G)) (F0 m 0 ls [])
  refine lv_aload_n hx hb dX1_addCode_0 rfl (lv_at hl 0 rfl) ?_
  refine va_get (D := G.1) (ci := 1) (v := .int (i3 (M0 3 1))) (C := RX1) (T := TX1) (N := 2) hx hb hts hinX1 hown hW.K hW.P 3 (he_N G M0) rfl 1 (by decide) (hts _ (List.mem_cons_of_mem _ (inB_3 _ (List.mem_of_getElem? (i := 17) rfl)))) (fun _ h9 => h9) rfl dX1_addCode_1 ?_
  refine k_bipush hx hb dX1_addCode_4 (by decide +kernel) ?_
  refine k_icmp_ge (tgt := 31) hx hb (hW.R 3 1) (show inR (39) by decide) dX1_addCode_6 (by decide) (fun hc1 => ?_) (fun hc1 => ?_)
  · rw [if_neg hc1] at hf
    obtain rfl := some_el hf
    exact k_retv hx hb hr hlocks hW hS rfl dX1_addCode_31
  · rw [if_pos hc1] at hf
    refine lv_aload_n hx hb dX1_addCode_9 rfl (lv_at hl 0 rfl) ?_
    refine va_get (D := G.1) (ci := 1) (v := .ref (gA G (84))) (C := RX1) (T := TX1) (N := 2) hx hb hts hinX1 hown hW.K hW.P 3 (he_N G M0) rfl 0 (by decide) (hts _ (List.mem_cons_of_mem _ (inB_3 _ (List.mem_of_getElem? (i := 16) rfl)))) (fun _ h9 => h9) rfl dX1_addCode_10 ?_
    refine lv_aload_n hx hb dX1_addCode_13 rfl (lv_at hl 0 rfl) ?_
    refine va_get (D := G.1) (ci := 1) (v := .int (i3 (M0 3 1))) (C := RX1) (T := TX1) (N := 2) hx hb hts hinX1 hown hW.K hW.P 3 (he_N G M0) rfl 1 (by decide) (hts _ (List.mem_cons_of_mem _ (inB_3 _ (List.mem_of_getElem? (i := 17) rfl)))) (fun _ h9 => h9) rfl dX1_addCode_14 ?_
    refine lv_iload_n hx hb dX1_addCode_17 rfl (lv_at hl 1 rfl) ?_
    obtain ⟨m2, hm2, hf⟩ := bind_el hf
    refine k_cNv (As := [.ref (gA G (84)), .int (i3 (M0 3 1)), .int (i3 (x1))]) (rest := []) ⟨hx, hb, hml, hown, hts⟩ (mG_put l G M0 (84) (by omega) (M0 3 1) (hW.R 3 1) x1 hx1 m2 hm2) ⟨va_cnB 3 hts (gbC (inB_6 _ (List.mem_of_getElem? (i := 0) rfl))) rfl rfl rfl (hW.N _ (List.mem_of_getElem? (i := 10) rfl)) (hts _ (List.mem_cons_of_mem _ (inB_1 _ (List.mem_of_getElem? (i := 2) rfl)))) (by decide +kernel) ⟨Nat.le_of_ble_eq_true rfl, Nat.le_of_ble_eq_true rfl⟩, (hts _ (List.mem_cons_of_mem _ (inB_5 _ (List.mem_of_getElem? (i := 23) rfl)))), trivial⟩ hW hS rfl hl.1 rfl (lv_room (Nat.le_of_ble_eq_true rfl)) dX1_addCode_18 ⟨Nat.zero_le _, Nat.zero_le _⟩ (fun H locs hW hS => ?_)
    refine lv_aload_n hx hb dX1_addCode_21 rfl (lv_at hl 0 rfl) ?_
    refine lv_dup hx hb dX1_addCode_22 rfl ?_
    refine va_get (D := G.1) (ci := 1) (v := .int (i3 (m2 3 1))) (C := RX1) (T := TX1) (N := 2) hx hb hts hinX1 hown hW.K hW.P 3 (he_N G m2) rfl 1 (by decide) (hts _ (List.mem_cons_of_mem _ (inB_3 _ (List.mem_of_getElem? (i := 17) rfl)))) (fun _ h9 => h9) rfl dX1_addCode_23 ?_
    refine k_const hx hb dX1_addCode_26 ?_
    refine k_add hx hb dX1_addCode_27 ?_
    obtain ⟨hg4, hf⟩ := gd_el hf
    obtain ⟨m5, hm5, hf⟩ := bind_el hf
    replace hm5 := some_el hm5
    refine k_put (C := RX1) (T := TX1) (N := 2) (ty := .int) (o := 3) hx hb hW hS hts hinX1 tyX1 tyX1_ok nmX1 hown (by decide) (pe_3 G _) rfl 1 (by decide) (pu_3_1 G _ _) (hts _ (List.mem_cons_of_mem _ (inB_3 _ (List.mem_of_getElem? (i := 17) rfl)))) rfl rfl (by decide +kernel) rfl rfl (Nat.le_of_ble_eq_true rfl) hg4 dX1_addCode_28 (fun H locs hW hS => ?_)
    rw [hm5] at hW
    obtain rfl := some_el hf
    exact k_retv hx hb hr hlocks hW hS rfl dX1_addCode_31
set_option maxHeartbeats 4000000 in
set_option maxRecDepth 100000 in
theorem mN_addNumber (l : Launch) (G : gG) (M0 : MemG) (x1 : Int) (hx1 : inR x1) (r : MemG) (hf : fN_addNumber M0 x1 = some r) : Met l yX1_addNumber (wb yX1_addNumber cX1_addNumber 3 none) ({ frames := 2, cells := 0, slots := 0, locals := 43 } : Room) (PcG G M0 [.ref (gA G (3)), .int (i3 (x1))]) (QcV G r) 0 0 (PA G) := by
  refine Met.ofW (cc := cX1_addNumber) (maxL := 3) (ret := none) (by decide) rfl ?_
  intro p e s m args below meth c s₁ B hml hv0
  obtain ⟨hav, hW⟩ := hv0
  have hx := B.exec
  have hb := B.bytes
  have hr := B.returns
  have hts := atoms_spec (ws := (wb yX1_addNumber cX1_addNumber 3 none)) B.pre
  have hown : s.vm.findClass RX1 = some m.cls := findClass_of_methodNamed B.named
  have hlocks := B.notSynchronized
  have hW : Wd G M0 s s.heap := hW
  have hS : va_S (PA G) s.heap s.heap [] := va_S.rf
  have hl := lv_entry [.ref (gA G (3)), .int (i3 (x1))] (n := 3) (Nat.le_of_ble_eq_true rfl)
  have hent := lg_entry_eq m [.ref (gA G (3)), .int (i3 (x1))] 3
  rw [← hav] at hent
  rw [hent]
  clear hent
  generalize (lg_sl [.ref (gA G (3)), .int (i3 (x1))] ++ List.replicate (3 - (lg_sl [.ref (gA G (3)), .int (i3 (x1))]).length) Slot.unset).toArray = ls at hl ⊢
  have hl : lv_has ls 3 [(0, .ref (gA G (3))), (1, .int (i3 (x1)))] := hl
  unfold fN_addNumber at hf
  show W p l e ({ frames := 2, cells := 0, slots := 0, locals := 43 } : Room) s m args below meth c s.heap [] 0 0 (MQ below (QcV G r) args s 0 0 (PA G)) (F0 m 0 ls [])
  have L12 : ∀ (x1 : Int) (hx1 : inR x1), ∀ (z : (Int × MemG)) (q : (MemG)), loopN (fN_addNumber_l4 x1) 200 z = some q → (q = r) → (inR (z.1) → ∀ (H : Heap) (locs : List Loc) (ls : Array Slot), Wd G (z.2) s H → va_S (PA G) s.heap H locs → lv_has ls 3 [(0, .ref (gA G (3))), (1, .int (i3 (x1))), (2, .int (i3 (z.1)))] → W p l e ({ frames := 2, cells := 0, slots := 0, locals := 43 } : Room) s m args below meth c H locs 0 0 (MQ below (QcV G r) args s 0 0 (PA G)) (F0 m 4 ls [])) := by
    intro x1 hx1 z q hq hex
    refine loop_rule (fN_addNumber_l4 x1) (fun z => inR (z.1) → ∀ (H : Heap) (locs : List Loc) (ls : Array Slot), Wd G (z.2) s H → va_S (PA G) s.heap H locs → lv_has ls 3 [(0, .ref (gA G (3))), (1, .int (i3 (x1))), (2, .int (i3 (z.1)))] → W p l e ({ frames := 2, cells := 0, slots := 0, locals := 43 } : Room) s m args below meth c H locs 0 0 (MQ below (QcV G r) args s 0 0 (PA G)) (F0 m 4 ls [])) (fun q => (q = r)) ?_ 200 z q hq hex
    clear hq hex q z
    intro z x hf hK hz2 H locs ls hW hS hl
    have J9 : ∀ (M : MemG) (x2 : Int), fN_addNumber_j32 M x1 x2 = some x → inR x2 →  ∀ (H : Heap) (locs : List Loc) (ls : Array Slot), Wd G M s H → va_S (PA G) s.heap H locs → lv_has ls 3 [(0, .ref (gA G (3))), (1, .int (i3 (x1))), (2, .int (i3 (x2)))] → W p l e ({ frames := 2, cells := 0, slots := 0, locals := 43 } : Room) s m args below meth c H locs 0 0 (MQ below (QcV G r) args s 0 0 (PA G)) (F0 m 32 ls []) := by
      intro M x2 hf hx2 H locs ls hW hS hl
      unfold fN_addNumber_j32 at hf
      refine lv_iload_n hx hb dX1_addNumber_32 rfl (lv_at hl 2 rfl) ?_
      refine k_bipush hx hb dX1_addNumber_33 (by decide +kernel) ?_
      obtain ⟨hg10, hf⟩ := gq_el hf
      refine k_div hx hb dX1_addNumber_35 hx2 (show inR (10) by decide) hg10 ?_
      refine lv_istore_n (lv' := [(2, .int (i3 (x2 / 10))), (0, .ref (gA G (3))), (1, .int (i3 (x1)))]) hx hb dX1_addNumber_36 rfl hl (by decide) rfl (fun ls hl => ?_)
      refine lv_goto (tgt := 4) hx hb dX1_addNumber_37 (by decide) ?_
      obtain rfl := some_el hf
      exact hK (inR_div hx2 hg10.1 hg10.2) _ _ _ hW hS (lv_sub hl [1, 2, 0] rfl)
    have J3 : ∀ (M : MemG) (x2 : Int), fN_addNumber_j19 M x1 x2 = some x → inR x2 →  ∀ (H : Heap) (locs : List Loc) (ls : Array Slot), Wd G M s H → va_S (PA G) s.heap H locs → lv_has ls 3 [(0, .ref (gA G (3))), (1, .int (i3 (x1))), (2, .int (i3 (x2)))] → W p l e ({ frames := 2, cells := 0, slots := 0, locals := 43 } : Room) s m args below meth c H locs 0 0 (MQ below (QcV G r) args s 0 0 (PA G)) (F0 m 19 ls []) := by
      intro M x2 hf hx2 H locs ls hW hS hl
      unfold fN_addNumber_j19 at hf
      refine lv_aload_n hx hb dX1_addNumber_19 rfl (lv_at hl 0 rfl) ?_
      refine k_bipush hx hb dX1_addNumber_20 (by decide +kernel) ?_
      refine lv_iload_n hx hb dX1_addNumber_22 rfl (lv_at hl 1 rfl) ?_
      refine lv_iload_n hx hb dX1_addNumber_23 rfl (lv_at hl 2 rfl) ?_
      obtain ⟨hg4, hf⟩ := gq_el hf
      refine k_div hx hb dX1_addNumber_24 hx1 hx2 hg4 ?_
      refine k_bipush hx hb dX1_addNumber_25 (by decide +kernel) ?_
      obtain ⟨hg5, hf⟩ := gq_el hf
      refine k_rem hx hb dX1_addNumber_27 (inR_div hx1 hg4.1 hg4.2) (show inR (10) by decide) hg5 ?_
      refine k_add hx hb dX1_addNumber_28 ?_
      obtain ⟨hg6, hf⟩ := gd_el hf
      obtain ⟨m7, hm7, hf⟩ := bind_el hf
      refine k_cVv (As := [.int (i3 (48 + ((x1 / x2) % 10)))]) (rest := []) ⟨hx, hb, hml, hown, hts⟩ (mN_addCode l G M (48 + ((x1 / x2) % 10)) hg6 m7 hm7) (cwV 1 hts (gbV (inB_25 _ (List.mem_of_getElem? (i := 10) rfl)) (inB_25 _ (List.mem_of_getElem? (i := 11) rfl)) (inB_25 _ (List.mem_of_getElem? (i := 12) rfl)) (inB_2 _ (List.mem_of_getElem? (i := 3) rfl)) (inB_25 _ (List.mem_of_getElem? (i := 13) rfl))) rfl rfl rfl (by decide +kernel) ⟨Nat.le_of_ble_eq_true rfl, Nat.le_of_ble_eq_true rfl⟩) (rv_N hW) hW hS rfl hl.1 rfl (lv_room (Nat.le_of_ble_eq_true rfl)) dX1_addNumber_29 ⟨Nat.zero_le _, Nat.zero_le _⟩ (fun H locs hW hS => ?_)
      exact J9 (m7) (x2) hf hx2 _ _ _ hW hS (lv_sub hl [0, 1, 2] rfl)
    unfold fN_addNumber_l4 at hf
    refine lv_iload_n hx hb dX1_addNumber_4 rfl (lv_at hl 2 rfl) ?_
    refine k_const hx hb dX1_addNumber_5 ?_
    refine k_icmp_lt (tgt := 40) hx hb hz2 (show inR (1) by decide) dX1_addNumber_6 (by decide) (fun hc1 => ?_) (fun hc1 => ?_)
    · rw [if_pos hc1] at hf
      obtain rfl := some_el hf
      obtain rfl : z.2 = r := hK
      exact k_retv hx hb hr hlocks hW hS rfl dX1_addNumber_40
    · rw [if_neg hc1] at hf
      refine lv_iload_n hx hb dX1_addNumber_9 rfl (lv_at hl 1 rfl) ?_
      refine lv_iload_n hx hb dX1_addNumber_10 rfl (lv_at hl 2 rfl) ?_
      refine k_icmp_ge (tgt := 19) hx hb hx1 hz2 dX1_addNumber_11 (by decide) (fun hc2 => ?_) (fun hc2 => ?_)
      · rw [if_neg hc2] at hf
        exact J3 (z.2) (z.1) hf hz2 _ _ _ hW hS (lv_sub hl [0, 1, 2] rfl)
      · rw [if_pos hc2] at hf
        refine lv_iload_n hx hb dX1_addNumber_14 rfl (lv_at hl 2 rfl) ?_
        refine k_const hx hb dX1_addNumber_15 ?_
        refine k_icmp_ne (tgt := 32) hx hb hz2 (show inR (1) by decide) dX1_addNumber_16 (by decide) (fun hc11 => ?_) (fun hc11 => ?_)
        · rw [if_neg hc11] at hf
          exact J9 (z.2) (z.1) hf hz2 _ _ _ hW hS (lv_sub hl [0, 1, 2] rfl)
        · rw [if_pos hc11] at hf
          exact J3 (z.2) (z.1) hf hz2 _ _ _ hW hS (lv_sub hl [0, 1, 2] rfl)
  refine k_sipush hx hb dX1_addNumber_0 (by decide +kernel) ?_
  refine lv_istore_n (lv' := [(2, .int (i3 (1000))), (0, .ref (gA G (3))), (1, .int (i3 (x1)))]) hx hb dX1_addNumber_3 rfl hl (by decide) rfl (fun ls hl => ?_)
  exact L12 (x1) hx1 (1000, M0) r hf rfl (show inR (1000) by decide) _ _ _ hW hS (lv_sub hl [1, 2, 0] rfl)
set_option maxHeartbeats 4000000 in
set_option maxRecDepth 100000 in
theorem mN_becomeEmpty (l : Launch) (G : gG) (M0 : MemG)  (r : MemG) (hf : fN_becomeEmpty M0 = some r) : Met l yX1_becomeEmpty (wb yX1_becomeEmpty cX1_becomeEmpty 1 none) ({ frames := 0, cells := 0, slots := 0, locals := 0 } : Room) (PcG G M0 [.ref (gA G (3))]) (QcV G r) 0 0 (PA G) := by
  refine Met.ofW (cc := cX1_becomeEmpty) (maxL := 1) (ret := none) (by decide) rfl ?_
  intro p e s m args below meth c s₁ B hml hv0
  obtain ⟨hav, hW⟩ := hv0
  have hx := B.exec
  have hb := B.bytes
  have hr := B.returns
  have hts := atoms_spec (ws := (wb yX1_becomeEmpty cX1_becomeEmpty 1 none)) B.pre
  have hown : s.vm.findClass RX1 = some m.cls := findClass_of_methodNamed B.named
  have hlocks := B.notSynchronized
  have hinX1 : ∀ w ∈ u_ws RX1 TX1 2, w ∈ (wb yX1_becomeEmpty cX1_becomeEmpty 1 none) := fun _ h => List.mem_cons_of_mem _ (inlX1 _ h)
  have hW : Wd G M0 s s.heap := hW
  have hS : va_S (PA G) s.heap s.heap [] := va_S.rf
  have hl := lv_entry [.ref (gA G (3))] (n := 1) (Nat.le_of_ble_eq_true rfl)
  have hent := lg_entry_eq m [.ref (gA G (3))] 1
  rw [← hav] at hent
  rw [hent]
  clear hent
  generalize (lg_sl [.ref (gA G (3))] ++ List.replicate (1 - (lg_sl [.ref (gA G (3))]).length) Slot.unset).toArray = ls at hl ⊢
  have hl : lv_has ls 1 [(0, .ref (gA G (3)))] := hl
  unfold fN_becomeEmpty at hf
  show W p l e ({ frames := 0, cells := 0, slots := 0, locals := 0 } : Room) s m args below meth c s.heap [] 0 0 (MQ below (QcV G r) args s 0 0 (PA G)) (F0 m 0 ls [])
  refine lv_aload_n hx hb dX1_becomeEmpty_0 rfl (lv_at hl 0 rfl) ?_
  refine k_const hx hb dX1_becomeEmpty_1 ?_
  obtain ⟨m1, hm1, hf⟩ := bind_el hf
  replace hm1 := some_el hm1
  refine k_put (C := RX1) (T := TX1) (N := 2) (ty := .int) (o := 3) hx hb hW hS hts hinX1 tyX1 tyX1_ok nmX1 hown (by decide) (pe_3 G _) rfl 1 (by decide) (pu_3_1 G _ _) (hts _ (List.mem_cons_of_mem _ (inB_3 _ (List.mem_of_getElem? (i := 17) rfl)))) rfl rfl (by decide +kernel) rfl rfl (Nat.le_of_ble_eq_true rfl) (show inR (0) by decide) dX1_becomeEmpty_2 (fun H locs hW hS => ?_)
  rw [hm1] at hW
  obtain rfl := some_el hf
  exact k_retv hx hb hr hlocks hW hS rfl dX1_becomeEmpty_5
set_option maxHeartbeats 4000000 in
set_option maxRecDepth 100000 in
theorem mN_size (l : Launch) (G : gG) (M0 : MemG)  (r : Int) (hf : fN_size M0 = r) : Met l yX1_size (wb yX1_size cX1_size 1 (some .int)) ({ frames := 0, cells := 0, slots := 0, locals := 0 } : Room) (PcG G M0 [.ref (gA G (3))]) (QcI G M0 r) 0 0 (PA G) := by
  refine Met.ofW (cc := cX1_size) (maxL := 1) (ret := (some .int)) (by decide) rfl ?_
  intro p e s m args below meth c s₁ B hml hv0
  obtain ⟨hav, hW⟩ := hv0
  have hx := B.exec
  have hb := B.bytes
  have hr := B.returns
  have hts := atoms_spec (ws := (wb yX1_size cX1_size 1 (some .int))) B.pre
  have hown : s.vm.findClass RX1 = some m.cls := findClass_of_methodNamed B.named
  have hlocks := B.notSynchronized
  have hinX1 : ∀ w ∈ u_ws RX1 TX1 2, w ∈ (wb yX1_size cX1_size 1 (some .int)) := fun _ h => List.mem_cons_of_mem _ (inlX1 _ h)
  have hW : Wd G M0 s s.heap := hW
  have hS : va_S (PA G) s.heap s.heap [] := va_S.rf
  have hl := lv_entry [.ref (gA G (3))] (n := 1) (Nat.le_of_ble_eq_true rfl)
  have hent := lg_entry_eq m [.ref (gA G (3))] 1
  rw [← hav] at hent
  rw [hent]
  clear hent
  generalize (lg_sl [.ref (gA G (3))] ++ List.replicate (1 - (lg_sl [.ref (gA G (3))]).length) Slot.unset).toArray = ls at hl ⊢
  have hl : lv_has ls 1 [(0, .ref (gA G (3)))] := hl
  unfold fN_size at hf
  show W p l e ({ frames := 0, cells := 0, slots := 0, locals := 0 } : Room) s m args below meth c s.heap [] 0 0 (MQ below (QcI G M0 r) args s 0 0 (PA G)) (F0 m 0 ls [])
  refine lv_aload_n hx hb dX1_size_0 rfl (lv_at hl 0 rfl) ?_
  refine va_get (D := G.1) (ci := 1) (v := .int (i3 (M0 3 1))) (C := RX1) (T := TX1) (N := 2) hx hb hts hinX1 hown hW.K hW.P 3 (he_N G M0) rfl 1 (by decide) (hts _ (List.mem_cons_of_mem _ (inB_3 _ (List.mem_of_getElem? (i := 17) rfl)))) (fun _ h9 => h9) rfl dX1_size_1 ?_
  subst hf
  exact k_ret hx hb hr hlocks hW hS rfl (hW.R 3 1) dX1_size_4
