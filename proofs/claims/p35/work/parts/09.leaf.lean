set_option maxHeartbeats 4000000 in
set_option maxRecDepth 100000 in
theorem mI_bitCount_0f7a4 (l : Launch) (G : gG) (M0 : MemG) (x0 : Int) (hx0 : inR x0) (r : Int) (hf : fI_bitCount_0f7a4 x0 = some r) : Met l yJ6_bitCount_0f7a4 (wb yJ6_bitCount_0f7a4 cJ6_bitCount_0f7a4 1 (some .int)) ({ frames := 0, cells := 0, slots := 0, locals := 0 } : Room) (PcG G M0 [.int (i3 (x0))]) (QcI G M0 r) 0 0 (PA G) := by
  refine Met.ofW (cc := cJ6_bitCount_0f7a4) (maxL := 1) (ret := (some .int)) (by decide) rfl ?_
  intro p e s m args below meth c s₁ B hml hv0
  obtain ⟨hav, hW⟩ := hv0
  have hx := B.exec
  have hb := B.bytes
  have hr := B.returns
  have hts := atoms_spec (ws := (wb yJ6_bitCount_0f7a4 cJ6_bitCount_0f7a4 1 (some .int))) B.pre
  have hown : s.vm.findClass RJ6 = some m.cls := findClass_of_methodNamed B.named
  have hlocks := B.notSynchronized
  have hW : Wd G M0 s s.heap := hW
  have hS : va_S (PA G) s.heap s.heap [] := va_S.rf
  have hl := lv_entry [.int (i3 (x0))] (n := 1) (Nat.le_of_ble_eq_true rfl)
  have hent := lg_entry_eq m [.int (i3 (x0))] 1
  rw [← hav] at hent
  rw [hent]
  clear hent
  generalize (lg_sl [.int (i3 (x0))] ++ List.replicate (1 - (lg_sl [.int (i3 (x0))]).length) Slot.unset).toArray = ls at hl ⊢
  have hl : lv_has ls 1 [(0, .int (i3 (x0)))] := hl
  unfold fI_bitCount_0f7a4 at hf
  show W p l e ({ frames := 0, cells := 0, slots := 0, locals := 0 } : Room) s m args below meth c s.heap [] 0 0 (MQ below (QcI G M0 r) args s 0 0 (PA G)) (F0 m 0 ls [])
  refine lv_iload_n hx hb dJ6_bitCount_0f7a4_0 rfl (lv_at hl 0 rfl) ?_
  refine lv_iload_n hx hb dJ6_bitCount_0f7a4_1 rfl (lv_at hl 0 rfl) ?_
  refine k_const hx hb dJ6_bitCount_0f7a4_2 ?_
  refine k_ushr hx hb dJ6_bitCount_0f7a4_3 ?_
  refine lv_ldcw (v := i3 1431655765) hx hb hown (hts _ (List.mem_cons_of_mem _ (inB_24 _ (List.mem_of_getElem? (i := 12) rfl)))) dJ6_bitCount_0f7a4_4 ?_
  refine k_and hx hb dJ6_bitCount_0f7a4_7 ?_
  refine k_sub hx hb dJ6_bitCount_0f7a4_8 ?_
  obtain ⟨hg1, hf⟩ := gd_el hf
  refine lv_istore_n (lv' := [(0, .int (i3 (x0 - (andI (ushrI x0 1) 1431655765))))]) hx hb dJ6_bitCount_0f7a4_9 rfl hl (by decide) rfl (fun ls hl => ?_)
  refine lv_iload_n hx hb dJ6_bitCount_0f7a4_10 rfl (lv_at hl 0 rfl) ?_
  refine lv_ldcw (v := i3 858993459) hx hb hown (hts _ (List.mem_cons_of_mem _ (inB_24 _ (List.mem_of_getElem? (i := 13) rfl)))) dJ6_bitCount_0f7a4_11 ?_
  refine k_and hx hb dJ6_bitCount_0f7a4_14 ?_
  refine lv_iload_n hx hb dJ6_bitCount_0f7a4_15 rfl (lv_at hl 0 rfl) ?_
  refine k_const hx hb dJ6_bitCount_0f7a4_16 ?_
  refine k_ushr hx hb dJ6_bitCount_0f7a4_17 ?_
  refine lv_ldcw (v := i3 858993459) hx hb hown (hts _ (List.mem_cons_of_mem _ (inB_24 _ (List.mem_of_getElem? (i := 13) rfl)))) dJ6_bitCount_0f7a4_18 ?_
  refine k_and hx hb dJ6_bitCount_0f7a4_21 ?_
  refine k_add hx hb dJ6_bitCount_0f7a4_22 ?_
  obtain ⟨hg2, hf⟩ := gd_el hf
  refine lv_istore_n (lv' := [(0, .int (i3 ((andI (x0 - (andI (ushrI x0 1) 1431655765)) 858993459) + (andI (ushrI (x0 - (andI (ushrI x0 1) 1431655765)) 2) 858993459))))]) hx hb dJ6_bitCount_0f7a4_23 rfl hl (by decide) rfl (fun ls hl => ?_)
  refine lv_iload_n hx hb dJ6_bitCount_0f7a4_24 rfl (lv_at hl 0 rfl) ?_
  refine lv_iload_n hx hb dJ6_bitCount_0f7a4_25 rfl (lv_at hl 0 rfl) ?_
  refine k_const hx hb dJ6_bitCount_0f7a4_26 ?_
  refine k_ushr hx hb dJ6_bitCount_0f7a4_27 ?_
  refine k_add hx hb dJ6_bitCount_0f7a4_28 ?_
  refine lv_ldcw (v := i3 252645135) hx hb hown (hts _ (List.mem_cons_of_mem _ (inB_24 _ (List.mem_of_getElem? (i := 14) rfl)))) dJ6_bitCount_0f7a4_29 ?_
  refine k_and hx hb dJ6_bitCount_0f7a4_32 ?_
  refine lv_istore_n (lv' := [(0, .int (i3 (andI (((andI (x0 - (andI (ushrI x0 1) 1431655765)) 858993459) + (andI (ushrI (x0 - (andI (ushrI x0 1) 1431655765)) 2) 858993459)) + (ushrI ((andI (x0 - (andI (ushrI x0 1) 1431655765)) 858993459) + (andI (ushrI (x0 - (andI (ushrI x0 1) 1431655765)) 2) 858993459)) 4)) 252645135)))]) hx hb dJ6_bitCount_0f7a4_33 rfl hl (by decide) rfl (fun ls hl => ?_)
  refine lv_iload_n hx hb dJ6_bitCount_0f7a4_34 rfl (lv_at hl 0 rfl) ?_
  refine lv_iload_n hx hb dJ6_bitCount_0f7a4_35 rfl (lv_at hl 0 rfl) ?_
  refine k_bipush hx hb dJ6_bitCount_0f7a4_36 (by decide +kernel) ?_
  refine k_ushr hx hb dJ6_bitCount_0f7a4_38 ?_
  refine k_add hx hb dJ6_bitCount_0f7a4_39 ?_
  obtain ⟨hg3, hf⟩ := gd_el hf
  refine lv_istore_n (lv' := [(0, .int (i3 ((andI (((andI (x0 - (andI (ushrI x0 1) 1431655765)) 858993459) + (andI (ushrI (x0 - (andI (ushrI x0 1) 1431655765)) 2) 858993459)) + (ushrI ((andI (x0 - (andI (ushrI x0 1) 1431655765)) 858993459) + (andI (ushrI (x0 - (andI (ushrI x0 1) 1431655765)) 2) 858993459)) 4)) 252645135) + (ushrI (andI (((andI (x0 - (andI (ushrI x0 1) 1431655765)) 858993459) + (andI (ushrI (x0 - (andI (ushrI x0 1) 1431655765)) 2) 858993459)) + (ushrI ((andI (x0 - (andI (ushrI x0 1) 1431655765)) 858993459) + (andI (ushrI (x0 - (andI (ushrI x0 1) 1431655765)) 2) 858993459)) 4)) 252645135) 8))))]) hx hb dJ6_bitCount_0f7a4_40 rfl hl (by decide) rfl (fun ls hl => ?_)
  refine lv_iload_n hx hb dJ6_bitCount_0f7a4_41 rfl (lv_at hl 0 rfl) ?_
  refine lv_iload_n hx hb dJ6_bitCount_0f7a4_42 rfl (lv_at hl 0 rfl) ?_
  refine k_bipush hx hb dJ6_bitCount_0f7a4_43 (by decide +kernel) ?_
  refine k_ushr hx hb dJ6_bitCount_0f7a4_45 ?_
  refine k_add hx hb dJ6_bitCount_0f7a4_46 ?_
  obtain ⟨hg4, hf⟩ := gd_el hf
  refine lv_istore_n (lv' := [(0, .int (i3 (((andI (((andI (x0 - (andI (ushrI x0 1) 1431655765)) 858993459) + (andI (ushrI (x0 - (andI (ushrI x0 1) 1431655765)) 2) 858993459)) + (ushrI ((andI (x0 - (andI (ushrI x0 1) 1431655765)) 858993459) + (andI (ushrI (x0 - (andI (ushrI x0 1) 1431655765)) 2) 858993459)) 4)) 252645135) + (ushrI (andI (((andI (x0 - (andI (ushrI x0 1) 1431655765)) 858993459) + (andI (ushrI (x0 - (andI (ushrI x0 1) 1431655765)) 2) 858993459)) + (ushrI ((andI (x0 - (andI (ushrI x0 1) 1431655765)) 858993459) + (andI (ushrI (x0 - (andI (ushrI x0 1) 1431655765)) 2) 858993459)) 4)) 252645135) 8)) + (ushrI ((andI (((andI (x0 - (andI (ushrI x0 1) 1431655765)) 858993459) + (andI (ushrI (x0 - (andI (ushrI x0 1) 1431655765)) 2) 858993459)) + (ushrI ((andI (x0 - (andI (ushrI x0 1) 1431655765)) 858993459) + (andI (ushrI (x0 - (andI (ushrI x0 1) 1431655765)) 2) 858993459)) 4)) 252645135) + (ushrI (andI (((andI (x0 - (andI (ushrI x0 1) 1431655765)) 858993459) + (andI (ushrI (x0 - (andI (ushrI x0 1) 1431655765)) 2) 858993459)) + (ushrI ((andI (x0 - (andI (ushrI x0 1) 1431655765)) 858993459) + (andI (ushrI (x0 - (andI (ushrI x0 1) 1431655765)) 2) 858993459)) 4)) 252645135) 8)) 16))))]) hx hb dJ6_bitCount_0f7a4_47 rfl hl (by decide) rfl (fun ls hl => ?_)
  refine lv_iload_n hx hb dJ6_bitCount_0f7a4_48 rfl (lv_at hl 0 rfl) ?_
  refine k_bipush hx hb dJ6_bitCount_0f7a4_49 (by decide +kernel) ?_
  refine k_and hx hb dJ6_bitCount_0f7a4_51 ?_
  obtain rfl := some_el hf
  exact k_ret hx hb hr hlocks hW hS rfl (inR_toInt _) dJ6_bitCount_0f7a4_52
set_option maxHeartbeats 4000000 in
set_option maxRecDepth 100000 in
theorem mG_put (l : Launch) (G : gG) (M0 : MemG) (a : Nat) (ha : 16 ≤ a ∧ a < 86) (x1 : Int) (hx1 : inR x1) (x2 : Int) (hx2 : inR x2) (r : MemG) (hf : fG_put M0 a x1 x2 = some r) : Met l yX4_put (wb yX4_put cX4_put 3 none) ({ frames := 0, cells := 0, slots := 0, locals := 0 } : Room) (PcG G M0 [.ref (gA G (a)), .int (i3 (x1)), .int (i3 (x2))]) (QcV G r) 0 0 (PA G) := by
  refine Met.ofW (cc := cX4_put) (maxL := 3) (ret := none) (by decide) rfl ?_
  intro p e s m args below meth c s₁ B hml hv0
  obtain ⟨hav, hW⟩ := hv0
  have hx := B.exec
  have hb := B.bytes
  have hr := B.returns
  have hts := atoms_spec (ws := (wb yX4_put cX4_put 3 none)) B.pre
  have hown : s.vm.findClass RX4 = some m.cls := findClass_of_methodNamed B.named
  have hlocks := B.notSynchronized
  have hW : Wd G M0 s s.heap := hW
  have hS : va_S (PA G) s.heap s.heap [] := va_S.rf
  have hl := lv_entry [.ref (gA G (a)), .int (i3 (x1)), .int (i3 (x2))] (n := 3) (Nat.le_of_ble_eq_true rfl)
  have hent := lg_entry_eq m [.ref (gA G (a)), .int (i3 (x1)), .int (i3 (x2))] 3
  rw [← hav] at hent
  rw [hent]
  clear hent
  generalize (lg_sl [.ref (gA G (a)), .int (i3 (x1)), .int (i3 (x2))] ++ List.replicate (3 - (lg_sl [.ref (gA G (a)), .int (i3 (x1)), .int (i3 (x2))]).length) Slot.unset).toArray = ls at hl ⊢
  have hl : lv_has ls 3 [(0, .ref (gA G (a))), (1, .int (i3 (x1))), (2, .int (i3 (x2)))] := hl
  unfold fG_put at hf
  show W p l e ({ frames := 0, cells := 0, slots := 0, locals := 0 } : Room) s m args below meth c s.heap [] 0 0 (MQ below (QcV G r) args s 0 0 (PA G)) (F0 m 0 ls [])
  refine lv_iload_n hx hb dX4_put_0 rfl (lv_at hl 1 rfl) ?_
  refine k_if_lt (tgt := 14) hx hb hx1 dX4_put_1 (by decide) (fun hc1 => ?_) (fun hc1 => ?_)
  · rw [if_pos hc1] at hf
    obtain rfl := some_el hf
    exact k_retv hx hb hr hlocks hW hS rfl dX4_put_14
  · rw [if_neg hc1] at hf
    refine lv_iload_n hx hb dX4_put_4 rfl (lv_at hl 1 rfl) ?_
    refine lv_aload_n hx hb dX4_put_5 rfl (lv_at hl 0 rfl) ?_
    refine k_len hx hb hW (by omega) dX4_put_6 ?_
    refine k_icmp_ge (tgt := 14) hx hb hx1 (inR_len _) dX4_put_7 (by decide) (fun hc2 => ?_) (fun hc2 => ?_)
    · rw [if_neg hc2] at hf
      obtain rfl := some_el hf
      exact k_retv hx hb hr hlocks hW hS rfl dX4_put_14
    · rw [if_pos hc2] at hf
      refine lv_aload_n hx hb dX4_put_10 rfl (lv_at hl 0 rfl) ?_
      refine lv_iload_n hx hb dX4_put_11 rfl (lv_at hl 1 rfl) ?_
      refine lv_iload_n hx hb dX4_put_12 rfl (lv_at hl 2 rfl) ?_
      obtain ⟨m3, hm3, hf⟩ := bind_el hf
      replace hm3 := some_el hm3
      refine k_ast hx hb hW hS (by omega) hx1 (by omega) (by omega) hx2 dX4_put_13 (fun H locs hW hS => ?_)
      rw [hm3] at hW
      obtain rfl := some_el hf
      exact k_retv hx hb hr hlocks hW hS rfl dX4_put_14
set_option maxHeartbeats 4000000 in
set_option maxRecDepth 100000 in
theorem mG_isWithin (l : Launch) (G : gG) (M0 : MemG) (x0 : Int) (hx0 : inR x0) (x1 : Int) (hx1 : inR x1) (x2 : Int) (hx2 : inR x2) (r : Int) (hf : fG_isWithin x0 x1 x2 = r) : Met l yX4_isWithin (wb yX4_isWithin cX4_isWithin 3 (some .boolean)) ({ frames := 0, cells := 0, slots := 0, locals := 0 } : Room) (PcG G M0 [.int (i3 (x0)), .int (i3 (x1)), .int (i3 (x2))]) (QcZ G M0 r) 0 0 (PA G) := by
  refine Met.ofW (cc := cX4_isWithin) (maxL := 3) (ret := (some .boolean)) (by decide) rfl ?_
  intro p e s m args below meth c s₁ B hml hv0
  obtain ⟨hav, hW⟩ := hv0
  have hx := B.exec
  have hb := B.bytes
  have hr := B.returns
  have hts := atoms_spec (ws := (wb yX4_isWithin cX4_isWithin 3 (some .boolean))) B.pre
  have hown : s.vm.findClass RX4 = some m.cls := findClass_of_methodNamed B.named
  have hlocks := B.notSynchronized
  have hW : Wd G M0 s s.heap := hW
  have hS : va_S (PA G) s.heap s.heap [] := va_S.rf
  have hl := lv_entry [.int (i3 (x0)), .int (i3 (x1)), .int (i3 (x2))] (n := 3) (Nat.le_of_ble_eq_true rfl)
  have hent := lg_entry_eq m [.int (i3 (x0)), .int (i3 (x1)), .int (i3 (x2))] 3
  rw [← hav] at hent
  rw [hent]
  clear hent
  generalize (lg_sl [.int (i3 (x0)), .int (i3 (x1)), .int (i3 (x2))] ++ List.replicate (3 - (lg_sl [.int (i3 (x0)), .int (i3 (x1)), .int (i3 (x2))]).length) Slot.unset).toArray = ls at hl ⊢
  have hl : lv_has ls 3 [(0, .int (i3 (x0))), (1, .int (i3 (x1))), (2, .int (i3 (x2)))] := hl
  unfold fG_isWithin at hf
  show W p l e ({ frames := 0, cells := 0, slots := 0, locals := 0 } : Room) s m args below meth c s.heap [] 0 0 (MQ below (QcZ G M0 r) args s 0 0 (PA G)) (F0 m 0 ls [])
  refine lv_iload_n hx hb dX4_isWithin_0 rfl (lv_at hl 0 rfl) ?_
  refine lv_iload_n hx hb dX4_isWithin_1 rfl (lv_at hl 1 rfl) ?_
  refine k_icmp_lt (tgt := 14) hx hb hx0 hx1 dX4_isWithin_2 (by decide) (fun hc1 => ?_) (fun hc1 => ?_)
  · rw [if_pos hc1] at hf
    refine k_const hx hb dX4_isWithin_14 ?_
    subst hf
    exact k_retz hx hb hr hlocks hW hS rfl (show (0 : Int) = 0 ∨ (0 : Int) = 1 by decide) dX4_isWithin_15
  · rw [if_neg hc1] at hf
    refine lv_iload_n hx hb dX4_isWithin_5 rfl (lv_at hl 0 rfl) ?_
    refine lv_iload_n hx hb dX4_isWithin_6 rfl (lv_at hl 2 rfl) ?_
    refine k_icmp_gt (tgt := 14) hx hb hx0 hx2 dX4_isWithin_7 (by decide) (fun hc2 => ?_) (fun hc2 => ?_)
    · rw [if_pos hc2] at hf
      refine k_const hx hb dX4_isWithin_14 ?_
      subst hf
      exact k_retz hx hb hr hlocks hW hS rfl (show (0 : Int) = 0 ∨ (0 : Int) = 1 by decide) dX4_isWithin_15
    · rw [if_neg hc2] at hf
      refine k_const hx hb dX4_isWithin_10 ?_
      refine lv_goto (tgt := 15) hx hb dX4_isWithin_11 (by decide) ?_
      subst hf
      exact k_retz hx hb hr hlocks hW hS rfl (show (1 : Int) = 0 ∨ (1 : Int) = 1 by decide) dX4_isWithin_15
set_option maxHeartbeats 4000000 in
set_option maxRecDepth 100000 in
theorem mG_copyRow (l : Launch) (G : gG) (M0 : MemG) (a : Nat) (ha : 16 ≤ a ∧ a < 86) (b : Nat) (hb : 16 ≤ b ∧ b < 86) (r : MemG) (hf : fG_copyRow M0 a b = some r) : Met l yX4_copyRow (wb yX4_copyRow cX4_copyRow 3 none) ({ frames := 0, cells := 0, slots := 0, locals := 0 } : Room) (PcG G M0 [.ref (gA G (a)), .ref (gA G (b))]) (QcV G r) 0 0 (PA G) := by
  refine Met.ofW (cc := cX4_copyRow) (maxL := 3) (ret := none) (by decide) rfl ?_
  intro p e s m args below meth c s₁ B hml hv0
  obtain ⟨hav, hW⟩ := hv0
  have hx := B.exec
  have hb := B.bytes
  have hr := B.returns
  have hts := atoms_spec (ws := (wb yX4_copyRow cX4_copyRow 3 none)) B.pre
  have hown : s.vm.findClass RX4 = some m.cls := findClass_of_methodNamed B.named
  have hlocks := B.notSynchronized
  have hW : Wd G M0 s s.heap := hW
  have hS : va_S (PA G) s.heap s.heap [] := va_S.rf
  have hl := lv_entry [.ref (gA G (a)), .ref (gA G (b))] (n := 3) (Nat.le_of_ble_eq_true rfl)
  have hent := lg_entry_eq m [.ref (gA G (a)), .ref (gA G (b))] 3
  rw [← hav] at hent
  rw [hent]
  clear hent
  generalize (lg_sl [.ref (gA G (a)), .ref (gA G (b))] ++ List.replicate (3 - (lg_sl [.ref (gA G (a)), .ref (gA G (b))]).length) Slot.unset).toArray = ls at hl ⊢
  have hl : lv_has ls 3 [(0, .ref (gA G (a))), (1, .ref (gA G (b)))] := hl
  unfold fG_copyRow at hf
  show W p l e ({ frames := 0, cells := 0, slots := 0, locals := 0 } : Room) s m args below meth c s.heap [] 0 0 (MQ below (QcV G r) args s 0 0 (PA G)) (F0 m 0 ls [])
  have L6 : ∀ (z : (Int × MemG)) (q : (MemG)), loopN (fG_copyRow_l2 a b) 200 z = some q → (q = r) → (inR (z.1) → ∀ (H : Heap) (locs : List Loc) (ls : Array Slot), Wd G (z.2) s H → va_S (PA G) s.heap H locs → lv_has ls 3 [(0, .ref (gA G (a))), (1, .ref (gA G (b))), (2, .int (i3 (z.1)))] → W p l e ({ frames := 0, cells := 0, slots := 0, locals := 0 } : Room) s m args below meth c H locs 0 0 (MQ below (QcV G r) args s 0 0 (PA G)) (F0 m 2 ls [])) := by
    intro z q hq hex
    refine loop_rule (fG_copyRow_l2 a b) (fun z => inR (z.1) → ∀ (H : Heap) (locs : List Loc) (ls : Array Slot), Wd G (z.2) s H → va_S (PA G) s.heap H locs → lv_has ls 3 [(0, .ref (gA G (a))), (1, .ref (gA G (b))), (2, .int (i3 (z.1)))] → W p l e ({ frames := 0, cells := 0, slots := 0, locals := 0 } : Room) s m args below meth c H locs 0 0 (MQ below (QcV G r) args s 0 0 (PA G)) (F0 m 2 ls [])) (fun q => (q = r)) ?_ 200 z q hq hex
    clear hq hex q z
    intro z x hf hK hz2 H locs ls hW hS hl
    unfold fG_copyRow_l2 at hf
    refine lv_iload_n hx hb dX4_copyRow_2 rfl (lv_at hl 2 rfl) ?_
    refine lv_aload_n hx hb dX4_copyRow_3 rfl (lv_at hl 0 rfl) ?_
    refine k_len hx hb hW (by omega) dX4_copyRow_4 ?_
    refine k_icmp_ge (tgt := 26) hx hb hz2 (inR_len _) dX4_copyRow_5 (by decide) (fun hc1 => ?_) (fun hc1 => ?_)
    · rw [if_neg hc1] at hf
      obtain rfl := some_el hf
      obtain rfl : z.2 = r := hK
      exact k_retv hx hb hr hlocks hW hS rfl dX4_copyRow_26
    · rw [if_pos hc1] at hf
      refine lv_iload_n hx hb dX4_copyRow_8 rfl (lv_at hl 2 rfl) ?_
      refine lv_aload_n hx hb dX4_copyRow_9 rfl (lv_at hl 1 rfl) ?_
      refine k_len hx hb hW (by omega) dX4_copyRow_10 ?_
      refine k_icmp_ge (tgt := 26) hx hb hz2 (inR_len _) dX4_copyRow_11 (by decide) (fun hc2 => ?_) (fun hc2 => ?_)
      · rw [if_neg hc2] at hf
        obtain rfl := some_el hf
        obtain rfl : z.2 = r := hK
        exact k_retv hx hb hr hlocks hW hS rfl dX4_copyRow_26
      · rw [if_pos hc2] at hf
        refine lv_aload_n hx hb dX4_copyRow_14 rfl (lv_at hl 1 rfl) ?_
        refine lv_iload_n hx hb dX4_copyRow_15 rfl (lv_at hl 2 rfl) ?_
        refine lv_aload_n hx hb dX4_copyRow_16 rfl (lv_at hl 0 rfl) ?_
        refine lv_iload_n hx hb dX4_copyRow_17 rfl (lv_at hl 2 rfl) ?_
        obtain ⟨hg3, hf⟩ := gx_el hf
        refine k_ald hx hb hW (by omega) hz2 (by omega) (by omega) dX4_copyRow_18 ?_
        obtain ⟨m4, hm4, hf⟩ := bind_el hf
        replace hm4 := some_el hm4
        refine k_ast hx hb hW hS (by omega) hz2 (by omega) (by omega) (hW.R _ _) dX4_copyRow_19 (fun H locs hW hS => ?_)
        rw [hm4] at hW
        obtain ⟨hg5, hf⟩ := gd_el hf
        refine k_iinc (lv' := [(2, .int (i3 (z.1 + 1))), (0, .ref (gA G (a))), (1, .ref (gA G (b)))]) hx hb dX4_copyRow_20 hl (k := 2) rfl (by decide) rfl (fun ls hl => ?_)
        refine lv_goto (tgt := 2) hx hb dX4_copyRow_23 (by decide) ?_
        obtain rfl := some_el hf
        exact hK hg5 _ _ _ hW hS (lv_sub hl [1, 2, 0] rfl)
  refine k_const hx hb dX4_copyRow_0 ?_
  refine lv_istore_n (lv' := [(2, .int (i3 (0))), (0, .ref (gA G (a))), (1, .ref (gA G (b)))]) hx hb dX4_copyRow_1 rfl hl (by decide) rfl (fun ls hl => ?_)
  exact L6  (0, M0) r hf rfl (show inR (0) by decide) _ _ _ hW hS (lv_sub hl [1, 2, 0] rfl)
set_option maxHeartbeats 4000000 in
set_option maxRecDepth 100000 in
theorem mG_at (l : Launch) (G : gG) (M0 : MemG) (a : Nat) (ha : 16 ≤ a ∧ a < 86) (x1 : Int) (hx1 : inR x1) (r : Int) (hf : fG_at M0 a x1 = r) : Met l yX4_at (wb yX4_at cX4_at 2 (some .int)) ({ frames := 0, cells := 0, slots := 0, locals := 0 } : Room) (PcG G M0 [.ref (gA G (a)), .int (i3 (x1))]) (QcI G M0 r) 0 0 (PA G) := by
  refine Met.ofW (cc := cX4_at) (maxL := 2) (ret := (some .int)) (by decide) rfl ?_
  intro p e s m args below meth c s₁ B hml hv0
  obtain ⟨hav, hW⟩ := hv0
  have hx := B.exec
  have hb := B.bytes
  have hr := B.returns
  have hts := atoms_spec (ws := (wb yX4_at cX4_at 2 (some .int))) B.pre
  have hown : s.vm.findClass RX4 = some m.cls := findClass_of_methodNamed B.named
  have hlocks := B.notSynchronized
  have hW : Wd G M0 s s.heap := hW
  have hS : va_S (PA G) s.heap s.heap [] := va_S.rf
  have hl := lv_entry [.ref (gA G (a)), .int (i3 (x1))] (n := 2) (Nat.le_of_ble_eq_true rfl)
  have hent := lg_entry_eq m [.ref (gA G (a)), .int (i3 (x1))] 2
  rw [← hav] at hent
  rw [hent]
  clear hent
  generalize (lg_sl [.ref (gA G (a)), .int (i3 (x1))] ++ List.replicate (2 - (lg_sl [.ref (gA G (a)), .int (i3 (x1))]).length) Slot.unset).toArray = ls at hl ⊢
  have hl : lv_has ls 2 [(0, .ref (gA G (a))), (1, .int (i3 (x1)))] := hl
  unfold fG_at at hf
  show W p l e ({ frames := 0, cells := 0, slots := 0, locals := 0 } : Room) s m args below meth c s.heap [] 0 0 (MQ below (QcI G M0 r) args s 0 0 (PA G)) (F0 m 0 ls [])
  refine lv_iload_n hx hb dX4_at_0 rfl (lv_at hl 1 rfl) ?_
  refine k_if_lt (tgt := 16) hx hb hx1 dX4_at_1 (by decide) (fun hc1 => ?_) (fun hc1 => ?_)
  · rw [if_pos hc1] at hf
    refine k_const hx hb dX4_at_16 ?_
    subst hf
    exact k_ret hx hb hr hlocks hW hS rfl (show inR (0) by decide) dX4_at_17
  · rw [if_neg hc1] at hf
    refine lv_iload_n hx hb dX4_at_4 rfl (lv_at hl 1 rfl) ?_
    refine lv_aload_n hx hb dX4_at_5 rfl (lv_at hl 0 rfl) ?_
    refine k_len hx hb hW (by omega) dX4_at_6 ?_
    refine k_icmp_ge (tgt := 16) hx hb hx1 (inR_len _) dX4_at_7 (by decide) (fun hc2 => ?_) (fun hc2 => ?_)
    · rw [if_neg hc2] at hf
      refine k_const hx hb dX4_at_16 ?_
      subst hf
      exact k_ret hx hb hr hlocks hW hS rfl (show inR (0) by decide) dX4_at_17
    · rw [if_pos hc2] at hf
      refine lv_aload_n hx hb dX4_at_10 rfl (lv_at hl 0 rfl) ?_
      refine lv_iload_n hx hb dX4_at_11 rfl (lv_at hl 1 rfl) ?_
      refine k_ald hx hb hW (by omega) hx1 (by omega) (by omega) dX4_at_12 ?_
      refine lv_goto (tgt := 17) hx hb dX4_at_13 (by decide) ?_
      subst hf
      exact k_ret hx hb hr hlocks hW hS rfl (hW.R _ _) dX4_at_17
set_option maxHeartbeats 4000000 in
set_option maxRecDepth 100000 in
theorem mG_atS (l : Launch) (G : gG) (M0 : MemG) (a : Nat) (ht86 : ∀ (U : State) (H : Heap), StG G U H → va_T .int (gA G a) 4 (fun j => .int (i3 (tabS a j))) (PA G) U H) (x1 : Int) (hx1 : inR x1) (r : Int) (hf : fG_atS a x1 = r) : Met l yX4_at (wb yX4_at cX4_at 2 (some .int)) ({ frames := 0, cells := 0, slots := 0, locals := 0 } : Room) (PcG G M0 [.ref (gA G (a)), .int (i3 (x1))]) (QcI G M0 r) 0 0 (PA G) := by
  refine Met.ofW (cc := cX4_at) (maxL := 2) (ret := (some .int)) (by decide) rfl ?_
  intro p e s m args below meth c s₁ B hml hv0
  obtain ⟨hav, hW⟩ := hv0
  have hx := B.exec
  have hb := B.bytes
  have hr := B.returns
  have hts := atoms_spec (ws := (wb yX4_at cX4_at 2 (some .int))) B.pre
  have hown : s.vm.findClass RX4 = some m.cls := findClass_of_methodNamed B.named
  have hlocks := B.notSynchronized
  have hW : Wd G M0 s s.heap := hW
  have hS : va_S (PA G) s.heap s.heap [] := va_S.rf
  have ht86 := ht86 s s.heap hW.S
  have hl := lv_entry [.ref (gA G (a)), .int (i3 (x1))] (n := 2) (Nat.le_of_ble_eq_true rfl)
  have hent := lg_entry_eq m [.ref (gA G (a)), .int (i3 (x1))] 2
  rw [← hav] at hent
  rw [hent]
  clear hent
  generalize (lg_sl [.ref (gA G (a)), .int (i3 (x1))] ++ List.replicate (2 - (lg_sl [.ref (gA G (a)), .int (i3 (x1))]).length) Slot.unset).toArray = ls at hl ⊢
  have hl : lv_has ls 2 [(0, .ref (gA G (a))), (1, .int (i3 (x1)))] := hl
  unfold fG_atS at hf
  show W p l e ({ frames := 0, cells := 0, slots := 0, locals := 0 } : Room) s m args below meth c s.heap [] 0 0 (MQ below (QcI G M0 r) args s 0 0 (PA G)) (F0 m 0 ls [])
  refine lv_iload_n hx hb dX4_at_0 rfl (lv_at hl 1 rfl) ?_
  refine k_if_lt (tgt := 16) hx hb hx1 dX4_at_1 (by decide) (fun hc1 => ?_) (fun hc1 => ?_)
  · rw [if_pos hc1] at hf
    refine k_const hx hb dX4_at_16 ?_
    subst hf
    exact k_ret hx hb hr hlocks hW hS rfl (show inR (0) by decide) dX4_at_17
  · rw [if_neg hc1] at hf
    refine lv_iload_n hx hb dX4_at_4 rfl (lv_at hl 1 rfl) ?_
    refine lv_aload_n hx hb dX4_at_5 rfl (lv_at hl 0 rfl) ?_
    refine k_tlen (v := 4) hx hb ht86 rfl dX4_at_6 ?_
    refine k_icmp_ge (tgt := 16) hx hb hx1 (by decide) dX4_at_7 (by decide) (fun hc2 => ?_) (fun hc2 => ?_)
    · rw [if_neg hc2] at hf
      refine k_const hx hb dX4_at_16 ?_
      subst hf
      exact k_ret hx hb hr hlocks hW hS rfl (show inR (0) by decide) dX4_at_17
    · rw [if_pos hc2] at hf
      refine lv_aload_n hx hb dX4_at_10 rfl (lv_at hl 0 rfl) ?_
      refine lv_iload_n hx hb dX4_at_11 rfl (lv_at hl 1 rfl) ?_
      refine k_ti (N := 4) (f := tabS a) hx hb ht86 hx1 (by omega) (by omega) dX4_at_12 ?_
      refine lv_goto (tgt := 17) hx hb dX4_at_13 (by decide) ?_
      subst hf
      exact k_ret hx hb hr hlocks hW hS rfl (inR_tab _ _) dX4_at_17
set_option maxHeartbeats 4000000 in
set_option maxRecDepth 100000 in
theorem mG_isRung (l : Launch) (G : gG) (M0 : MemG) (x0 : Int) (hx0 : inR x0) (r : Int) (hf : fG_isRung x0 = r) : Met l yX4_isRung (wb yX4_isRung cX4_isRung 1 (some .boolean)) ({ frames := 1, cells := 0, slots := 0, locals := 22 } : Room) (PcG G M0 [.int (i3 (x0))]) (QcZ G M0 r) 0 0 (PA G) := by
  refine Met.ofW (cc := cX4_isRung) (maxL := 1) (ret := (some .boolean)) (by decide) rfl ?_
  intro p e s m args below meth c s₁ B hml hv0
  obtain ⟨hav, hW⟩ := hv0
  have hx := B.exec
  have hb := B.bytes
  have hr := B.returns
  have hts := atoms_spec (ws := (wb yX4_isRung cX4_isRung 1 (some .boolean))) B.pre
  have hown : s.vm.findClass RX4 = some m.cls := findClass_of_methodNamed B.named
  have hlocks := B.notSynchronized
  have hW : Wd G M0 s s.heap := hW
  have hS : va_S (PA G) s.heap s.heap [] := va_S.rf
  have hl := lv_entry [.int (i3 (x0))] (n := 1) (Nat.le_of_ble_eq_true rfl)
  have hent := lg_entry_eq m [.int (i3 (x0))] 1
  rw [← hav] at hent
  rw [hent]
  clear hent
  generalize (lg_sl [.int (i3 (x0))] ++ List.replicate (1 - (lg_sl [.int (i3 (x0))]).length) Slot.unset).toArray = ls at hl ⊢
  have hl : lv_has ls 1 [(0, .int (i3 (x0)))] := hl
  unfold fG_isRung at hf
  show W p l e ({ frames := 1, cells := 0, slots := 0, locals := 22 } : Room) s m args below meth c s.heap [] 0 0 (MQ below (QcZ G M0 r) args s 0 0 (PA G)) (F0 m 0 ls [])
  refine lv_iload_n hx hb dX4_isRung_0 rfl (lv_at hl 0 rfl) ?_
  refine k_const hx hb dX4_isRung_1 ?_
  refine k_bipush hx hb dX4_isRung_2 (by decide +kernel) ?_
  refine k_cSz (As := [.int (i3 (x0)), .int (i3 (1)), .int (i3 (32))]) (rest := []) ⟨hx, hb, hml, hown, hts⟩ (mG_isWithin l G M0 x0 hx0 1 (show inR (1) by decide) 32 (show inR (32) by decide) _ rfl) (va_cwS 3 hts (gbS (inB_4 _ (List.mem_of_getElem? (i := 11) rfl)) (inB_4 _ (List.mem_of_getElem? (i := 12) rfl)) (inB_1 _ (List.mem_of_getElem? (i := 2) rfl)) (inB_4 _ (List.mem_of_getElem? (i := 13) rfl))) rfl rfl rfl (by decide +kernel) ⟨Nat.le_of_ble_eq_true rfl, Nat.le_of_ble_eq_true rfl⟩) hW hS rfl hl.1 rfl (lv_room (Nat.le_of_ble_eq_true rfl)) dX4_isRung_4 ⟨Nat.zero_le _, Nat.zero_le _⟩ (fun hv1 H locs hW hS => ?_)
  subst hf
  exact k_retz hx hb hr hlocks hW hS rfl hv1 dX4_isRung_7
set_option maxHeartbeats 4000000 in
set_option maxRecDepth 100000 in
theorem mG_sizeOf (l : Launch) (G : gG) (M0 : MemG) (x0 : Int) (hx0 : inR x0) (r : Int) (hf : fG_sizeOf x0 = r) : Met l yX4_sizeOf (wb yX4_sizeOf cX4_sizeOf 1 (some .int)) ({ frames := 0, cells := 0, slots := 0, locals := 0 } : Room) (PcG G M0 [.int (i3 (x0))]) (QcI G M0 r) 0 0 (PA G) := by
  refine Met.ofW (cc := cX4_sizeOf) (maxL := 1) (ret := (some .int)) (by decide) rfl ?_
  intro p e s m args below meth c s₁ B hml hv0
  obtain ⟨hav, hW⟩ := hv0
  have hx := B.exec
  have hb := B.bytes
  have hr := B.returns
  have hts := atoms_spec (ws := (wb yX4_sizeOf cX4_sizeOf 1 (some .int))) B.pre
  have hown : s.vm.findClass RX4 = some m.cls := findClass_of_methodNamed B.named
  have hlocks := B.notSynchronized
  have hW : Wd G M0 s s.heap := hW
  have hS : va_S (PA G) s.heap s.heap [] := va_S.rf
  have hl := lv_entry [.int (i3 (x0))] (n := 1) (Nat.le_of_ble_eq_true rfl)
  have hent := lg_entry_eq m [.int (i3 (x0))] 1
  rw [← hav] at hent
  rw [hent]
  clear hent
  generalize (lg_sl [.int (i3 (x0))] ++ List.replicate (1 - (lg_sl [.int (i3 (x0))]).length) Slot.unset).toArray = ls at hl ⊢
  have hl : lv_has ls 1 [(0, .int (i3 (x0)))] := hl
  unfold fG_sizeOf at hf
  show W p l e ({ frames := 0, cells := 0, slots := 0, locals := 0 } : Room) s m args below meth c s.heap [] 0 0 (MQ below (QcI G M0 r) args s 0 0 (PA G)) (F0 m 0 ls [])
  refine lv_iload_n hx hb dX4_sizeOf_0 rfl (lv_at hl 0 rfl) ?_
  refine lv_iload_n hx hb dX4_sizeOf_1 rfl (lv_at hl 0 rfl) ?_
  refine k_neg hx hb dX4_sizeOf_2 ?_
  refine k_and hx hb dX4_sizeOf_3 ?_
  subst hf
  exact k_ret hx hb hr hlocks hW hS rfl (inR_toInt _) dX4_sizeOf_4
set_option maxHeartbeats 4000000 in
set_option maxRecDepth 100000 in
theorem mG_loadOf (l : Launch) (G : gG) (M0 : MemG) (x0 : Int) (hx0 : inR x0) (r : Int) (hf : fG_loadOf x0 = some r) : Met l yX4_loadOf (wb yX4_loadOf cX4_loadOf 1 (some .int)) ({ frames := 1, cells := 0, slots := 0, locals := 20 } : Room) (PcG G M0 [.int (i3 (x0))]) (QcI G M0 r) 0 0 (PA G) := by
  refine Met.ofW (cc := cX4_loadOf) (maxL := 1) (ret := (some .int)) (by decide) rfl ?_
  intro p e s m args below meth c s₁ B hml hv0
  obtain ⟨hav, hW⟩ := hv0
  have hx := B.exec
  have hb := B.bytes
  have hr := B.returns
  have hts := atoms_spec (ws := (wb yX4_loadOf cX4_loadOf 1 (some .int))) B.pre
  have hown : s.vm.findClass RX4 = some m.cls := findClass_of_methodNamed B.named
  have hlocks := B.notSynchronized
  have hW : Wd G M0 s s.heap := hW
  have hS : va_S (PA G) s.heap s.heap [] := va_S.rf
  have hl := lv_entry [.int (i3 (x0))] (n := 1) (Nat.le_of_ble_eq_true rfl)
  have hent := lg_entry_eq m [.int (i3 (x0))] 1
  rw [← hav] at hent
  rw [hent]
  clear hent
  generalize (lg_sl [.int (i3 (x0))] ++ List.replicate (1 - (lg_sl [.int (i3 (x0))]).length) Slot.unset).toArray = ls at hl ⊢
  have hl : lv_has ls 1 [(0, .int (i3 (x0)))] := hl
  unfold fG_loadOf at hf
  show W p l e ({ frames := 1, cells := 0, slots := 0, locals := 20 } : Room) s m args below meth c s.heap [] 0 0 (MQ below (QcI G M0 r) args s 0 0 (PA G)) (F0 m 0 ls [])
  refine k_bipush hx hb dX4_loadOf_0 (by decide +kernel) ?_
  refine lv_iload_n hx hb dX4_loadOf_2 rfl (lv_at hl 0 rfl) ?_
  refine k_cSi (As := [.int (i3 (x0))]) (rest := [.int (i3 (100))]) ⟨hx, hb, hml, hown, hts⟩ (mG_sizeOf l G M0 x0 hx0 _ rfl) (va_cwS 1 hts (gbS (inB_7 _ (List.mem_of_getElem? (i := 5) rfl)) (inB_6 _ (List.mem_of_getElem? (i := 13) rfl)) (inB_1 _ (List.mem_of_getElem? (i := 2) rfl)) (inB_6 _ (List.mem_of_getElem? (i := 14) rfl))) rfl rfl rfl (by decide +kernel) ⟨Nat.le_of_ble_eq_true rfl, Nat.le_of_ble_eq_true rfl⟩) hW hS rfl hl.1 rfl (lv_room (Nat.le_of_ble_eq_true rfl)) dX4_loadOf_3 ⟨Nat.zero_le _, Nat.zero_le _⟩ (fun hv1 H locs hW hS => ?_)
  refine k_mul hx hb dX4_loadOf_6 ?_
  obtain ⟨hg2, hf⟩ := gd_el hf
  obtain rfl := some_el hf
  exact k_ret hx hb hr hlocks hW hS rfl hg2 dX4_loadOf_7
set_option maxHeartbeats 4000000 in
set_option maxRecDepth 100000 in
theorem mG_isBay (l : Launch) (G : gG) (M0 : MemG) (x0 : Int) (hx0 : inR x0) (r : Int) (hf : fG_isBay x0 = r) : Met l yX4_isBay (wb yX4_isBay cX4_isBay 1 (some .boolean)) ({ frames := 1, cells := 0, slots := 0, locals := 22 } : Room) (PcG G M0 [.int (i3 (x0))]) (QcZ G M0 r) 0 0 (PA G) := by
  refine Met.ofW (cc := cX4_isBay) (maxL := 1) (ret := (some .boolean)) (by decide) rfl ?_
  intro p e s m args below meth c s₁ B hml hv0
  obtain ⟨hav, hW⟩ := hv0
  have hx := B.exec
  have hb := B.bytes
  have hr := B.returns
  have hts := atoms_spec (ws := (wb yX4_isBay cX4_isBay 1 (some .boolean))) B.pre
  have hown : s.vm.findClass RX4 = some m.cls := findClass_of_methodNamed B.named
  have hlocks := B.notSynchronized
  have hW : Wd G M0 s s.heap := hW
  have hS : va_S (PA G) s.heap s.heap [] := va_S.rf
  have hl := lv_entry [.int (i3 (x0))] (n := 1) (Nat.le_of_ble_eq_true rfl)
  have hent := lg_entry_eq m [.int (i3 (x0))] 1
  rw [← hav] at hent
  rw [hent]
  clear hent
  generalize (lg_sl [.int (i3 (x0))] ++ List.replicate (1 - (lg_sl [.int (i3 (x0))]).length) Slot.unset).toArray = ls at hl ⊢
  have hl : lv_has ls 1 [(0, .int (i3 (x0)))] := hl
  unfold fG_isBay at hf
  show W p l e ({ frames := 1, cells := 0, slots := 0, locals := 22 } : Room) s m args below meth c s.heap [] 0 0 (MQ below (QcZ G M0 r) args s 0 0 (PA G)) (F0 m 0 ls [])
  refine lv_iload_n hx hb dX4_isBay_0 rfl (lv_at hl 0 rfl) ?_
  refine k_const hx hb dX4_isBay_1 ?_
  refine k_bipush hx hb dX4_isBay_2 (by decide +kernel) ?_
  refine k_cSz (As := [.int (i3 (x0)), .int (i3 (0)), .int (i3 (31))]) (rest := []) ⟨hx, hb, hml, hown, hts⟩ (mG_isWithin l G M0 x0 hx0 0 (show inR (0) by decide) 31 (show inR (31) by decide) _ rfl) (va_cwS 3 hts (gbS (inB_4 _ (List.mem_of_getElem? (i := 11) rfl)) (inB_4 _ (List.mem_of_getElem? (i := 12) rfl)) (inB_1 _ (List.mem_of_getElem? (i := 2) rfl)) (inB_4 _ (List.mem_of_getElem? (i := 13) rfl))) rfl rfl rfl (by decide +kernel) ⟨Nat.le_of_ble_eq_true rfl, Nat.le_of_ble_eq_true rfl⟩) hW hS rfl hl.1 rfl (lv_room (Nat.le_of_ble_eq_true rfl)) dX4_isBay_4 ⟨Nat.zero_le _, Nat.zero_le _⟩ (fun hv1 H locs hW hS => ?_)
  subst hf
  exact k_retz hx hb hr hlocks hW hS rfl hv1 dX4_isBay_7
set_option maxHeartbeats 4000000 in
set_option maxRecDepth 100000 in
theorem mG_coinsFor (l : Launch) (G : gG) (M0 : MemG) (x0 : Int) (hx0 : inR x0) (x1 : Int) (hx1 : inR x1) (r : Int) (hf : fG_coinsFor x0 x1 = some r) : Met l yX4_coinsFor (wb yX4_coinsFor cX4_coinsFor 2 (some .int)) ({ frames := 0, cells := 0, slots := 0, locals := 0 } : Room) (PcG G M0 [.int (i3 (x0)), .int (i3 (x1))]) (QcI G M0 r) 0 0 (PA G) := by
  refine Met.ofW (cc := cX4_coinsFor) (maxL := 2) (ret := (some .int)) (by decide) rfl ?_
  intro p e s m args below meth c s₁ B hml hv0
  obtain ⟨hav, hW⟩ := hv0
  have hx := B.exec
  have hb := B.bytes
  have hr := B.returns
  have hts := atoms_spec (ws := (wb yX4_coinsFor cX4_coinsFor 2 (some .int))) B.pre
  have hown : s.vm.findClass RX4 = some m.cls := findClass_of_methodNamed B.named
  have hlocks := B.notSynchronized
  have hW : Wd G M0 s s.heap := hW
  have hS : va_S (PA G) s.heap s.heap [] := va_S.rf
  have hl := lv_entry [.int (i3 (x0)), .int (i3 (x1))] (n := 2) (Nat.le_of_ble_eq_true rfl)
  have hent := lg_entry_eq m [.int (i3 (x0)), .int (i3 (x1))] 2
  rw [← hav] at hent
  rw [hent]
  clear hent
  generalize (lg_sl [.int (i3 (x0)), .int (i3 (x1))] ++ List.replicate (2 - (lg_sl [.int (i3 (x0)), .int (i3 (x1))]).length) Slot.unset).toArray = ls at hl ⊢
  have hl : lv_has ls 2 [(0, .int (i3 (x0))), (1, .int (i3 (x1)))] := hl
  unfold fG_coinsFor at hf
  show W p l e ({ frames := 0, cells := 0, slots := 0, locals := 0 } : Room) s m args below meth c s.heap [] 0 0 (MQ below (QcI G M0 r) args s 0 0 (PA G)) (F0 m 0 ls [])
  refine lv_iload_n hx hb dX4_coinsFor_0 rfl (lv_at hl 0 rfl) ?_
  by_cases hc1 : x0 = 0
  · rw [if_pos hc1] at hf
    refine k_tin (tgt := 28) hx hb hx0 dX4_coinsFor_1 (by omega) (by omega) (by rw [hc1]; rfl) (by decide) ?_
    refine k_const hx hb dX4_coinsFor_28 ?_
    refine lv_iload_n hx hb dX4_coinsFor_29 rfl (lv_at hl 1 rfl) ?_
    refine k_mul hx hb dX4_coinsFor_30 ?_
    refine lv_iload_n hx hb dX4_coinsFor_31 rfl (lv_at hl 1 rfl) ?_
    refine k_bipush hx hb dX4_coinsFor_32 (by decide +kernel) ?_
    obtain ⟨hg2, hf⟩ := gq_el hf
    refine k_div hx hb dX4_coinsFor_34 hx1 (show inR (10) by decide) hg2 ?_
    refine k_sub hx hb dX4_coinsFor_35 ?_
    obtain ⟨hg3, hf⟩ := gd_el hf
    obtain rfl := some_el hf
    exact k_ret hx hb hr hlocks hW hS rfl hg3 dX4_coinsFor_36
  · rw [if_neg hc1] at hf
    by_cases hc4 : x0 = 1
    · rw [if_pos hc4] at hf
      refine k_tin (tgt := 37) hx hb hx0 dX4_coinsFor_1 (by omega) (by omega) (by rw [hc4]; rfl) (by decide) ?_
      refine k_const hx hb dX4_coinsFor_37 ?_
      refine lv_iload_n hx hb dX4_coinsFor_38 rfl (lv_at hl 1 rfl) ?_
      refine k_mul hx hb dX4_coinsFor_39 ?_
      obtain ⟨hg5, hf⟩ := gd_el hf
      obtain rfl := some_el hf
      exact k_ret hx hb hr hlocks hW hS rfl hg5 dX4_coinsFor_40
    · rw [if_neg hc4] at hf
      by_cases hc6 : x0 = 2
      · rw [if_pos hc6] at hf
        refine k_tin (tgt := 41) hx hb hx0 dX4_coinsFor_1 (by omega) (by omega) (by rw [hc6]; rfl) (by decide) ?_
        refine k_const hx hb dX4_coinsFor_41 ?_
        refine lv_iload_n hx hb dX4_coinsFor_42 rfl (lv_at hl 1 rfl) ?_
        refine k_mul hx hb dX4_coinsFor_43 ?_
        obtain ⟨hg7, hf⟩ := gd_el hf
        obtain rfl := some_el hf
        exact k_ret hx hb hr hlocks hW hS rfl hg7 dX4_coinsFor_44
      · rw [if_neg hc6] at hf
        refine k_tdef (tgt := 45) hx hb hx0 dX4_coinsFor_1 (by rcases (show x0 < 0 ∨ 2 < x0 by omega) with h9 | h9; exact Or.inl (by omega); exact Or.inl (by omega)) (by decide) ?_
        refine k_const hx hb dX4_coinsFor_45 ?_
        refine lv_iload_n hx hb dX4_coinsFor_46 rfl (lv_at hl 1 rfl) ?_
        refine k_mul hx hb dX4_coinsFor_47 ?_
        refine lv_iload_n hx hb dX4_coinsFor_48 rfl (lv_at hl 1 rfl) ?_
        refine k_bipush hx hb dX4_coinsFor_49 (by decide +kernel) ?_
        obtain ⟨hg8, hf⟩ := gq_el hf
        refine k_div hx hb dX4_coinsFor_51 hx1 (show inR (20) by decide) hg8 ?_
        refine k_sub hx hb dX4_coinsFor_52 ?_
        obtain ⟨hg9, hf⟩ := gd_el hf
        obtain rfl := some_el hf
        exact k_ret hx hb hr hlocks hW hS rfl hg9 dX4_coinsFor_53
set_option maxHeartbeats 4000000 in
set_option maxRecDepth 100000 in
theorem mG_isKind (l : Launch) (G : gG) (M0 : MemG) (x0 : Int) (hx0 : inR x0) (r : Int) (hf : fG_isKind x0 = r) : Met l yX4_isKind (wb yX4_isKind cX4_isKind 1 (some .boolean)) ({ frames := 1, cells := 0, slots := 0, locals := 22 } : Room) (PcG G M0 [.int (i3 (x0))]) (QcZ G M0 r) 0 0 (PA G) := by
  refine Met.ofW (cc := cX4_isKind) (maxL := 1) (ret := (some .boolean)) (by decide) rfl ?_
  intro p e s m args below meth c s₁ B hml hv0
  obtain ⟨hav, hW⟩ := hv0
  have hx := B.exec
  have hb := B.bytes
  have hr := B.returns
  have hts := atoms_spec (ws := (wb yX4_isKind cX4_isKind 1 (some .boolean))) B.pre
  have hown : s.vm.findClass RX4 = some m.cls := findClass_of_methodNamed B.named
  have hlocks := B.notSynchronized
  have hW : Wd G M0 s s.heap := hW
  have hS : va_S (PA G) s.heap s.heap [] := va_S.rf
  have hl := lv_entry [.int (i3 (x0))] (n := 1) (Nat.le_of_ble_eq_true rfl)
  have hent := lg_entry_eq m [.int (i3 (x0))] 1
  rw [← hav] at hent
  rw [hent]
  clear hent
  generalize (lg_sl [.int (i3 (x0))] ++ List.replicate (1 - (lg_sl [.int (i3 (x0))]).length) Slot.unset).toArray = ls at hl ⊢
  have hl : lv_has ls 1 [(0, .int (i3 (x0)))] := hl
  unfold fG_isKind at hf
  show W p l e ({ frames := 1, cells := 0, slots := 0, locals := 22 } : Room) s m args below meth c s.heap [] 0 0 (MQ below (QcZ G M0 r) args s 0 0 (PA G)) (F0 m 0 ls [])
  refine lv_iload_n hx hb dX4_isKind_0 rfl (lv_at hl 0 rfl) ?_
  refine k_const hx hb dX4_isKind_1 ?_
  refine k_const hx hb dX4_isKind_2 ?_
  refine k_cSz (As := [.int (i3 (x0)), .int (i3 (0)), .int (i3 (3))]) (rest := []) ⟨hx, hb, hml, hown, hts⟩ (mG_isWithin l G M0 x0 hx0 0 (show inR (0) by decide) 3 (show inR (3) by decide) _ rfl) (va_cwS 3 hts (gbS (inB_4 _ (List.mem_of_getElem? (i := 11) rfl)) (inB_4 _ (List.mem_of_getElem? (i := 12) rfl)) (inB_1 _ (List.mem_of_getElem? (i := 2) rfl)) (inB_4 _ (List.mem_of_getElem? (i := 13) rfl))) rfl rfl rfl (by decide +kernel) ⟨Nat.le_of_ble_eq_true rfl, Nat.le_of_ble_eq_true rfl⟩) hW hS rfl hl.1 rfl (lv_room (Nat.le_of_ble_eq_true rfl)) dX4_isKind_3 ⟨Nat.zero_le _, Nat.zero_le _⟩ (fun hv1 H locs hW hS => ?_)
  subst hf
  exact k_retz hx hb hr hlocks hW hS rfl hv1 dX4_isKind_6
set_option maxHeartbeats 4000000 in
set_option maxRecDepth 100000 in
theorem mG_firstBayOf (l : Launch) (G : gG) (M0 : MemG) (x0 : Int) (hx0 : inR x0) (r : Int) (hf : fG_firstBayOf x0 = some r) : Met l yX4_firstBayOf (wb yX4_firstBayOf cX4_firstBayOf 1 (some .int)) ({ frames := 1, cells := 0, slots := 0, locals := 20 } : Room) (PcG G M0 [.int (i3 (x0))]) (QcI G M0 r) 0 0 (PA G) := by
  refine Met.ofW (cc := cX4_firstBayOf) (maxL := 1) (ret := (some .int)) (by decide) rfl ?_
  intro p e s m args below meth c s₁ B hml hv0
  obtain ⟨hav, hW⟩ := hv0
  have hx := B.exec
  have hb := B.bytes
  have hr := B.returns
  have hts := atoms_spec (ws := (wb yX4_firstBayOf cX4_firstBayOf 1 (some .int))) B.pre
  have hown : s.vm.findClass RX4 = some m.cls := findClass_of_methodNamed B.named
  have hlocks := B.notSynchronized
  have hW : Wd G M0 s s.heap := hW
  have hS : va_S (PA G) s.heap s.heap [] := va_S.rf
  have hl := lv_entry [.int (i3 (x0))] (n := 1) (Nat.le_of_ble_eq_true rfl)
  have hent := lg_entry_eq m [.int (i3 (x0))] 1
  rw [← hav] at hent
  rw [hent]
  clear hent
  generalize (lg_sl [.int (i3 (x0))] ++ List.replicate (1 - (lg_sl [.int (i3 (x0))]).length) Slot.unset).toArray = ls at hl ⊢
  have hl : lv_has ls 1 [(0, .int (i3 (x0)))] := hl
  unfold fG_firstBayOf at hf
  show W p l e ({ frames := 1, cells := 0, slots := 0, locals := 20 } : Room) s m args below meth c s.heap [] 0 0 (MQ below (QcI G M0 r) args s 0 0 (PA G)) (F0 m 0 ls [])
  refine lv_iload_n hx hb dX4_firstBayOf_0 rfl (lv_at hl 0 rfl) ?_
  refine lv_iload_n hx hb dX4_firstBayOf_1 rfl (lv_at hl 0 rfl) ?_
  refine k_cSi (As := [.int (i3 (x0))]) (rest := [.int (i3 (x0))]) ⟨hx, hb, hml, hown, hts⟩ (mG_sizeOf l G M0 x0 hx0 _ rfl) (va_cwS 1 hts (gbS (inB_7 _ (List.mem_of_getElem? (i := 5) rfl)) (inB_6 _ (List.mem_of_getElem? (i := 13) rfl)) (inB_1 _ (List.mem_of_getElem? (i := 2) rfl)) (inB_6 _ (List.mem_of_getElem? (i := 14) rfl))) rfl rfl rfl (by decide +kernel) ⟨Nat.le_of_ble_eq_true rfl, Nat.le_of_ble_eq_true rfl⟩) hW hS rfl hl.1 rfl (lv_room (Nat.le_of_ble_eq_true rfl)) dX4_firstBayOf_2 ⟨Nat.zero_le _, Nat.zero_le _⟩ (fun hv1 H locs hW hS => ?_)
  refine k_sub hx hb dX4_firstBayOf_5 ?_
  obtain ⟨hg2, hf⟩ := gd_el hf
  obtain rfl := some_el hf
  exact k_ret hx hb hr hlocks hW hS rfl hg2 dX4_firstBayOf_6
set_option maxHeartbeats 4000000 in
set_option maxRecDepth 100000 in
theorem mG_rungsBelow (l : Launch) (G : gG) (M0 : MemG) (x0 : Int) (hx0 : inR x0) (r : Int) (hf : fG_rungsBelow x0 = some r) : Met l yX4_rungsBelow (wb yX4_rungsBelow cX4_rungsBelow 4 (some .int)) ({ frames := 2, cells := 0, slots := 0, locals := 40 } : Room) (PcG G M0 [.int (i3 (x0))]) (QcI G M0 r) 0 0 (PA G) := by
  refine Met.ofW (cc := cX4_rungsBelow) (maxL := 4) (ret := (some .int)) (by decide) rfl ?_
  intro p e s m args below meth c s₁ B hml hv0
  obtain ⟨hav, hW⟩ := hv0
  have hx := B.exec
  have hb := B.bytes
  have hr := B.returns
  have hts := atoms_spec (ws := (wb yX4_rungsBelow cX4_rungsBelow 4 (some .int))) B.pre
  have hown : s.vm.findClass RX4 = some m.cls := findClass_of_methodNamed B.named
  have hlocks := B.notSynchronized
  have hW : Wd G M0 s s.heap := hW
  have hS : va_S (PA G) s.heap s.heap [] := va_S.rf
  have hl := lv_entry [.int (i3 (x0))] (n := 4) (Nat.le_of_ble_eq_true rfl)
  have hent := lg_entry_eq m [.int (i3 (x0))] 4
  rw [← hav] at hent
  rw [hent]
  clear hent
  generalize (lg_sl [.int (i3 (x0))] ++ List.replicate (4 - (lg_sl [.int (i3 (x0))]).length) Slot.unset).toArray = ls at hl ⊢
  have hl : lv_has ls 4 [(0, .int (i3 (x0)))] := hl
  unfold fG_rungsBelow at hf
  show W p l e ({ frames := 2, cells := 0, slots := 0, locals := 40 } : Room) s m args below meth c s.heap [] 0 0 (MQ below (QcI G M0 r) args s 0 0 (PA G)) (F0 m 0 ls [])
  have L10 : ∀ (x0 : Int) (hx0 : inR x0), ∀ (z : (Int × Int × Int)) (q : (Int)), loopN (fG_rungsBelow_l8 x0) 200 z = some q → (q = r) → (inR (z.1) → inR (z.2.1) → inR (z.2.2) → ∀ (H : Heap) (locs : List Loc) (ls : Array Slot), Wd G (M0) s H → va_S (PA G) s.heap H locs → lv_has ls 4 [(0, .int (i3 (x0))), (1, .int (i3 (z.1))), (2, .int (i3 (z.2.1))), (3, .int (i3 (z.2.2)))] → W p l e ({ frames := 2, cells := 0, slots := 0, locals := 40 } : Room) s m args below meth c H locs 0 0 (MQ below (QcI G M0 r) args s 0 0 (PA G)) (F0 m 8 ls [])) := by
    intro x0 hx0 z q hq hex
    refine loop_rule (fG_rungsBelow_l8 x0) (fun z => inR (z.1) → inR (z.2.1) → inR (z.2.2) → ∀ (H : Heap) (locs : List Loc) (ls : Array Slot), Wd G (M0) s H → va_S (PA G) s.heap H locs → lv_has ls 4 [(0, .int (i3 (x0))), (1, .int (i3 (z.1))), (2, .int (i3 (z.2.1))), (3, .int (i3 (z.2.2)))] → W p l e ({ frames := 2, cells := 0, slots := 0, locals := 40 } : Room) s m args below meth c H locs 0 0 (MQ below (QcI G M0 r) args s 0 0 (PA G)) (F0 m 8 ls [])) (fun q => (q = r)) ?_ 200 z q hq hex
    clear hq hex q z
    intro z x hf hK hz1 hz2 hz3 H locs ls hW hS hl
    unfold fG_rungsBelow_l8 at hf
    refine lv_iload_n hx hb dX4_rungsBelow_8 rfl (lv_at hl 3 rfl) ?_
    refine k_bipush hx hb dX4_rungsBelow_9 (by decide +kernel) ?_
    refine k_icmp_ge (tgt := 38) hx hb hz3 (show inR (32) by decide) dX4_rungsBelow_11 (by decide) (fun hc2 => ?_) (fun hc2 => ?_)
    · rw [if_neg hc2] at hf
      refine lv_iload_n hx hb dX4_rungsBelow_38 rfl (lv_at hl 1 rfl) ?_
      obtain rfl := some_el hf
      obtain rfl : z.1 = r := hK
      exact k_ret hx hb hr hlocks hW hS rfl hz1 dX4_rungsBelow_39
    · rw [if_pos hc2] at hf
      refine lv_iload_n hx hb dX4_rungsBelow_14 rfl (lv_at hl 2 rfl) ?_
      refine lv_iload_n hx hb dX4_rungsBelow_15 rfl (lv_at hl 0 rfl) ?_
      obtain ⟨q3, hq3, hf⟩ := bind_el hf
      refine k_cSi (As := [.int (i3 (x0))]) (rest := [.int (i3 (z.2.1))]) ⟨hx, hb, hml, hown, hts⟩ (mG_firstBayOf l G M0 x0 hx0 q3 hq3) (va_cwS 1 hts (gbS (inB_10 _ (List.mem_of_getElem? (i := 19) rfl)) (inB_10 _ (List.mem_of_getElem? (i := 20) rfl)) (inB_1 _ (List.mem_of_getElem? (i := 2) rfl)) (inB_10 _ (List.mem_of_getElem? (i := 21) rfl))) rfl rfl rfl (by decide +kernel) ⟨Nat.le_of_ble_eq_true rfl, Nat.le_of_ble_eq_true rfl⟩) hW hS rfl hl.1 rfl (lv_room (Nat.le_of_ble_eq_true rfl)) dX4_rungsBelow_16 ⟨Nat.zero_le _, Nat.zero_le _⟩ (fun hv4 H locs hW hS => ?_)
      refine k_icmp_le (tgt := 38) hx hb hz2 hv4 dX4_rungsBelow_19 (by decide) (fun hc5 => ?_) (fun hc5 => ?_)
      · rw [if_neg hc5] at hf
        refine lv_iload_n hx hb dX4_rungsBelow_38 rfl (lv_at hl 1 rfl) ?_
        obtain rfl := some_el hf
        obtain rfl : z.1 = r := hK
        exact k_ret hx hb hr hlocks hW hS rfl hz1 dX4_rungsBelow_39
      · rw [if_pos hc5] at hf
        obtain ⟨hg6, hf⟩ := gd_el hf
        refine k_iinc (lv' := [(1, .int (i3 (z.1 + 1))), (0, .int (i3 (x0))), (2, .int (i3 (z.2.1))), (3, .int (i3 (z.2.2)))]) hx hb dX4_rungsBelow_22 hl (k := 1) rfl (by decide) rfl (fun ls hl => ?_)
        refine lv_iload_n hx hb dX4_rungsBelow_25 rfl (lv_at hl 2 rfl) ?_
        refine lv_iload_n hx hb dX4_rungsBelow_26 rfl (lv_at hl 2 rfl) ?_
        refine k_cSi (As := [.int (i3 (z.2.1))]) (rest := [.int (i3 (z.2.1))]) ⟨hx, hb, hml, hown, hts⟩ (mG_sizeOf l G M0 z.2.1 hz2 _ rfl) (va_cwS 1 hts (gbS (inB_7 _ (List.mem_of_getElem? (i := 5) rfl)) (inB_6 _ (List.mem_of_getElem? (i := 13) rfl)) (inB_1 _ (List.mem_of_getElem? (i := 2) rfl)) (inB_6 _ (List.mem_of_getElem? (i := 14) rfl))) rfl rfl rfl (by decide +kernel) ⟨Nat.le_of_ble_eq_true rfl, Nat.le_of_ble_eq_true rfl⟩) hW hS rfl hl.1 rfl (lv_room (Nat.le_of_ble_eq_true rfl)) dX4_rungsBelow_27 ⟨Nat.zero_le _, Nat.zero_le _⟩ (fun hv7 H locs hW hS => ?_)
        refine k_sub hx hb dX4_rungsBelow_30 ?_
        obtain ⟨hg8, hf⟩ := gd_el hf
        refine lv_istore_n (lv' := [(2, .int (i3 (z.2.1 - ((fG_sizeOf z.2.1))))), (1, .int (i3 (z.1 + 1))), (0, .int (i3 (x0))), (3, .int (i3 (z.2.2)))]) hx hb dX4_rungsBelow_31 rfl hl (by decide) rfl (fun ls hl => ?_)
        obtain ⟨hg9, hf⟩ := gd_el hf
        refine k_iinc (lv' := [(3, .int (i3 (z.2.2 + 1))), (2, .int (i3 (z.2.1 - ((fG_sizeOf z.2.1))))), (1, .int (i3 (z.1 + 1))), (0, .int (i3 (x0)))]) hx hb dX4_rungsBelow_32 hl (k := 3) rfl (by decide) rfl (fun ls hl => ?_)
        refine lv_goto (tgt := 8) hx hb dX4_rungsBelow_35 (by decide) ?_
        obtain rfl := some_el hf
        exact hK hg6 hg8 hg9 _ _ _ hW hS (lv_sub hl [3, 2, 1, 0] rfl)
  refine k_const hx hb dX4_rungsBelow_0 ?_
  refine lv_istore_n (lv' := [(1, .int (i3 (0))), (0, .int (i3 (x0)))]) hx hb dX4_rungsBelow_1 rfl hl (by decide) rfl (fun ls hl => ?_)
  refine lv_iload_n hx hb dX4_rungsBelow_2 rfl (lv_at hl 1 rfl) ?_
  refine k_const hx hb dX4_rungsBelow_3 ?_
  refine k_sub hx hb dX4_rungsBelow_4 ?_
  obtain ⟨hg1, hf⟩ := gd_el hf
  refine lv_istore_n (lv' := [(2, .int (i3 (x0 - 1))), (1, .int (i3 (0))), (0, .int (i3 (x0)))]) hx hb dX4_rungsBelow_5 rfl hl (by decide) rfl (fun ls hl => ?_)
  refine k_const hx hb dX4_rungsBelow_6 ?_
  refine lv_istore_n (lv' := [(3, .int (i3 (0))), (2, .int (i3 (x0 - 1))), (1, .int (i3 (0))), (0, .int (i3 (x0)))]) hx hb dX4_rungsBelow_7 rfl hl (by decide) rfl (fun ls hl => ?_)
  exact L10 (x0) hx0 (0, x0 - 1, 0) r hf rfl (show inR (0) by decide) hg1 (show inR (0) by decide) _ _ _ hW hS (lv_sub hl [3, 2, 1, 0] rfl)
