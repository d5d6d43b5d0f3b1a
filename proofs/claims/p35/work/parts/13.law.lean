set_option maxHeartbeats 4000000 in
set_option maxRecDepth 100000 in
theorem mL_write (l : Launch) (G : gG) (M0 : MemG) (i : Nat) (hi : i < 26) (r : MemG) (hf : fL_write M0 i = some r) : Met l yL_write (wb yL_write cL_write 3 (some (.object "GranaryLadder"))) ({ frames := 4, cells := 0, slots := 0, locals := 85 } : Room) (PcG G M0 [.ref (gA G (0)), .ref (gA G (100 + i))]) (QcA G r 0) 0 0 (PA G) := by
  refine Met.ofW (cc := cL_write) (maxL := 3) (ret := (some (.object "GranaryLadder"))) (by decide) rfl ?_
  intro p e s m args below meth c s₁ B hml hv0
  obtain ⟨hav, hW⟩ := hv0
  have hx := B.exec
  have hb := B.bytes
  have hr := B.returns
  have hts := atoms_spec (ws := (wb yL_write cL_write 3 (some (.object "GranaryLadder")))) B.pre
  have hown : s.vm.findClass RL = some m.cls := findClass_of_methodNamed B.named
  have hlocks := B.notSynchronized
  have hW : Wd G M0 s s.heap := hW
  have hS : va_S (PA G) s.heap s.heap [] := va_S.rf
  have hl := lv_entry [.ref (gA G (0)), .ref (gA G (100 + i))] (n := 3) (Nat.le_of_ble_eq_true rfl)
  have hent := lg_entry_eq m [.ref (gA G (0)), .ref (gA G (100 + i))] 3
  rw [← hav] at hent
  rw [hent]
  clear hent
  generalize (lg_sl [.ref (gA G (0)), .ref (gA G (100 + i))] ++ List.replicate (3 - (lg_sl [.ref (gA G (0)), .ref (gA G (100 + i))]).length) Slot.unset).toArray = ls at hl ⊢
  have hl : lv_has ls 3 [(0, .ref (gA G (0))), (1, .ref (gA G (100 + i)))] := hl
  unfold fL_write at hf
  show W p l e ({ frames := 4, cells := 0, slots := 0, locals := 85 } : Room) s m args below meth c s.heap [] 0 0 (MQ below (QcA G r 0) args s 0 0 (PA G)) (F0 m 0 ls [])
  have L8 : ∀ (z : (Int × MemG)) (q : (MemG)), loopN (fL_write_l2 i) 200 z = some q → (∀ (H : Heap) (locs : List Loc) (ls : Array Slot), Wd G (q) s H → va_S (PA G) s.heap H locs → lv_has ls 3 [(0, .ref (gA G (0)))] → W p l e ({ frames := 4, cells := 0, slots := 0, locals := 85 } : Room) s m args below meth c H locs 0 0 (MQ below (QcA G r 0) args s 0 0 (PA G)) (F0 m 26 ls [])) → (inR (z.1) → ∀ (H : Heap) (locs : List Loc) (ls : Array Slot), Wd G (z.2) s H → va_S (PA G) s.heap H locs → lv_has ls 3 [(0, .ref (gA G (0))), (1, .ref (gA G (100 + i))), (2, .int (i3 (z.1)))] → W p l e ({ frames := 4, cells := 0, slots := 0, locals := 85 } : Room) s m args below meth c H locs 0 0 (MQ below (QcA G r 0) args s 0 0 (PA G)) (F0 m 2 ls [])) := by
    intro z q hq hex
    refine loop_rule (fL_write_l2 i) (fun z => inR (z.1) → ∀ (H : Heap) (locs : List Loc) (ls : Array Slot), Wd G (z.2) s H → va_S (PA G) s.heap H locs → lv_has ls 3 [(0, .ref (gA G (0))), (1, .ref (gA G (100 + i))), (2, .int (i3 (z.1)))] → W p l e ({ frames := 4, cells := 0, slots := 0, locals := 85 } : Room) s m args below meth c H locs 0 0 (MQ below (QcA G r 0) args s 0 0 (PA G)) (F0 m 2 ls [])) (fun q => (∀ (H : Heap) (locs : List Loc) (ls : Array Slot), Wd G (q) s H → va_S (PA G) s.heap H locs → lv_has ls 3 [(0, .ref (gA G (0)))] → W p l e ({ frames := 4, cells := 0, slots := 0, locals := 85 } : Room) s m args below meth c H locs 0 0 (MQ below (QcA G r 0) args s 0 0 (PA G)) (F0 m 26 ls []))) ?_ 200 z q hq hex
    clear hq hex q z
    intro z x hf hK hz2 H locs ls hW hS hl
    unfold fL_write_l2 at hf
    refine lv_iload_n hx hb dL_write_2 rfl (lv_at hl 2 rfl) ?_
    refine lv_aload_n hx hb dL_write_3 rfl (lv_at hl 1 rfl) ?_
    refine k_cVi (As := []) (rest := [.int (i3 (z.1))]) ⟨hx, hb, hml, hown, hts⟩ (mS_length l G z.2 (i) hi _ rfl) (cwV 0 hts (gbV (inB_14 _ (List.mem_of_getElem? (i := 14) rfl)) (inB_14 _ (List.mem_of_getElem? (i := 15) rfl)) (inB_14 _ (List.mem_of_getElem? (i := 16) rfl)) (inB_14 _ (List.mem_of_getElem? (i := 17) rfl)) (inB_14 _ (List.mem_of_getElem? (i := 18) rfl))) rfl rfl rfl (by decide +kernel) ⟨Nat.le_of_ble_eq_true rfl, Nat.le_of_ble_eq_true rfl⟩) (rv_S hi hW) hW hS rfl hl.1 rfl (lv_room (Nat.le_of_ble_eq_true rfl)) dL_write_4 ⟨Nat.zero_le _, Nat.zero_le _⟩ (fun hv1 H locs hW hS => ?_)
    refine k_icmp_ge (tgt := 26) hx hb hz2 hv1 dL_write_7 (by decide) (fun hc2 => ?_) (fun hc2 => ?_)
    · rw [if_neg hc2] at hf
      obtain rfl := some_el hf
      exact hK  _ _ _ hW hS (lv_sub hl [0] rfl)
    · rw [if_pos hc2] at hf
      refine lv_aload_n hx hb dL_write_10 rfl (lv_at hl 0 rfl) ?_
      refine lv_aload_n hx hb dL_write_11 rfl (lv_at hl 1 rfl) ?_
      refine lv_iload_n hx hb dL_write_12 rfl (lv_at hl 2 rfl) ?_
      obtain ⟨q3, hq3, hf⟩ := bind_el hf
      refine k_cVi (As := [.int (i3 (z.1))]) (rest := [.ref (gA G (0))]) ⟨hx, hb, hml, hown, hts⟩ (mS_charAt l G z.2 (i) hi z.1 hz2 q3 hq3) (cwV 1 hts (gbV (inB_15 _ (List.mem_of_getElem? (i := 2) rfl)) (inB_15 _ (List.mem_of_getElem? (i := 3) rfl)) (inB_15 _ (List.mem_of_getElem? (i := 4) rfl)) (inB_14 _ (List.mem_of_getElem? (i := 17) rfl)) (inB_15 _ (List.mem_of_getElem? (i := 5) rfl))) rfl rfl rfl (by decide +kernel) ⟨Nat.le_of_ble_eq_true rfl, Nat.le_of_ble_eq_true rfl⟩) (rv_S hi hW) hW hS rfl hl.1 rfl (lv_room (Nat.le_of_ble_eq_true rfl)) dL_write_13 ⟨Nat.zero_le _, Nat.zero_le _⟩ (fun hv4 H locs hW hS => ?_)
      obtain ⟨q5, hq5, hf⟩ := bind_el hf
      refine k_cVi (As := [.int (i3 (q3))]) (rest := []) ⟨hx, hb, hml, hown, hts⟩ (mG_append l G z.2 q3 hv4 q5 hq5) (cwV 1 hts (gbV (inB_16 _ (List.mem_of_getElem? (i := 15) rfl)) (inB_16 _ (List.mem_of_getElem? (i := 16) rfl)) (inB_16 _ (List.mem_of_getElem? (i := 17) rfl)) (inB_1 _ (List.mem_of_getElem? (i := 2) rfl)) (inB_16 _ (List.mem_of_getElem? (i := 18) rfl))) rfl rfl rfl (by decide +kernel) ⟨Nat.le_of_ble_eq_true rfl, Nat.le_of_ble_eq_true rfl⟩) (rv_G hW) hW hS rfl hl.1 rfl (lv_room (Nat.le_of_ble_eq_true rfl)) dL_write_16 ⟨Nat.zero_le _, Nat.zero_le _⟩ (fun hv6 H locs hW hS => ?_)
      refine lv_pop hx hb dL_write_19 rfl ?_
      obtain ⟨hg7, hf⟩ := gd_el hf
      refine k_iinc (lv' := [(2, .int (i3 (z.1 + 1))), (0, .ref (gA G (0))), (1, .ref (gA G (100 + i)))]) hx hb dL_write_20 hl (k := 2) rfl (by decide) rfl (fun ls hl => ?_)
      refine lv_goto (tgt := 2) hx hb dL_write_23 (by decide) ?_
      obtain rfl := some_el hf
      exact hK hg7 _ _ _ hW hS (lv_sub hl [1, 2, 0] rfl)
  refine k_const hx hb dL_write_0 ?_
  refine lv_istore_n (lv' := [(2, .int (i3 (0))), (0, .ref (gA G (0))), (1, .ref (gA G (100 + i)))]) hx hb dL_write_1 rfl hl (by decide) rfl (fun ls hl => ?_)
  obtain ⟨q9, hq9, hf⟩ := bind_el hf
  refine L8  (0, M0) q9 hq9 ?_ (show inR (0) by decide) _ _ _ hW hS (lv_sub hl [1, 2, 0] rfl)
  intro  H locs ls hW hS hl
  refine lv_aload_n hx hb dL_write_26 rfl (lv_at hl 0 rfl) ?_
  obtain rfl := some_el hf
  exact k_reta (i := 0) hx hb hr (Or.inl ⟨_, rfl⟩) hlocks hW hS rfl dL_write_27
set_option maxHeartbeats 4000000 in
set_option maxRecDepth 100000 in
theorem mL_act (l : Launch) (G : gG) (M0 : MemG) (x1 : Int) (hx1 : inR x1) (r : MemG × Int) (hf : fL_act M0 x1 = some r) : Met l yL_act (wb yL_act cL_act 4 (some .int)) ({ frames := 8, cells := 0, slots := 0, locals := 175 } : Room) (PcG G M0 [.ref (gA G (0)), .int (i3 (x1))]) (QcI G r.1 r.2) 0 0 (PA G) := by
  refine Met.ofW (cc := cL_act) (maxL := 4) (ret := (some .int)) (by decide) rfl ?_
  intro p e s m args below meth c s₁ B hml hv0
  obtain ⟨hav, hW⟩ := hv0
  have hx := B.exec
  have hb := B.bytes
  have hr := B.returns
  have hts := atoms_spec (ws := (wb yL_act cL_act 4 (some .int))) B.pre
  have hown : s.vm.findClass RL = some m.cls := findClass_of_methodNamed B.named
  have hlocks := B.notSynchronized
  have hW : Wd G M0 s s.heap := hW
  have hS : va_S (PA G) s.heap s.heap [] := va_S.rf
  have hl := lv_entry [.ref (gA G (0)), .int (i3 (x1))] (n := 4) (Nat.le_of_ble_eq_true rfl)
  have hent := lg_entry_eq m [.ref (gA G (0)), .int (i3 (x1))] 4
  rw [← hav] at hent
  rw [hent]
  clear hent
  generalize (lg_sl [.ref (gA G (0)), .int (i3 (x1))] ++ List.replicate (4 - (lg_sl [.ref (gA G (0)), .int (i3 (x1))]).length) Slot.unset).toArray = ls at hl ⊢
  have hl : lv_has ls 4 [(0, .ref (gA G (0))), (1, .int (i3 (x1)))] := hl
  unfold fL_act at hf
  show W p l e ({ frames := 8, cells := 0, slots := 0, locals := 175 } : Room) s m args below meth c s.heap [] 0 0 (MQ below (QcI G r.1 r.2) args s 0 0 (PA G)) (F0 m 0 ls [])
  have J9 : ∀ (M : MemG) (t1 : Int) (t2 : Int) (t3 : Int), fL_act_j138 M t1 t2 t3 = some r → inR t1 → inR t2 → inR t3 →  ∀ (H : Heap) (locs : List Loc) (ls : Array Slot), Wd G M s H → va_S (PA G) s.heap H locs → lv_has ls 4 [] → W p l e ({ frames := 8, cells := 0, slots := 0, locals := 175 } : Room) s m args below meth c H locs 0 0 (MQ below (QcI G r.1 r.2) args s 0 0 (PA G)) (F0 m 138 ls [.int (i3 (t3)), .int (i3 (t2)), .int (i3 (t1)), .ref (gA G (0))]) := by
    intro M t1 t2 t3 hf ht1 ht2 ht3 H locs ls hW hS hl
    unfold fL_act_j138 at hf
    obtain ⟨q10, hq10, hf⟩ := bind_el hf
    refine k_cVi (As := [.int (i3 (t1)), .int (i3 (t2)), .int (i3 (t3))]) (rest := []) ⟨hx, hb, hml, hown, hts⟩ (mG_store l G M t1 ht1 t2 ht2 t3 ht3 q10 hq10) (cwV 3 hts (gbV (inB_3 _ (List.mem_of_getElem? (i := 18) rfl)) (inB_3 _ (List.mem_of_getElem? (i := 19) rfl)) (inB_3 _ (List.mem_of_getElem? (i := 20) rfl)) (inB_1 _ (List.mem_of_getElem? (i := 2) rfl)) (inB_3 _ (List.mem_of_getElem? (i := 21) rfl))) rfl rfl rfl (by decide +kernel) ⟨Nat.le_of_ble_eq_true rfl, Nat.le_of_ble_eq_true rfl⟩) (rv_G hW) hW hS rfl hl.1 rfl (lv_room (Nat.le_of_ble_eq_true rfl)) dL_act_138 ⟨Nat.zero_le _, Nat.zero_le _⟩ (fun hv11 H locs hW hS => ?_)
    obtain rfl := some_el hf
    exact k_ret hx hb hr hlocks hW hS rfl hv11 dL_act_141
  have J34 : ∀ (M : MemG) (t1 : Int), fL_act_j224 M t1 = some r → inR t1 →  ∀ (H : Heap) (locs : List Loc) (ls : Array Slot), Wd G M s H → va_S (PA G) s.heap H locs → lv_has ls 4 [] → W p l e ({ frames := 8, cells := 0, slots := 0, locals := 175 } : Room) s m args below meth c H locs 0 0 (MQ below (QcI G r.1 r.2) args s 0 0 (PA G)) (F0 m 224 ls [.int (i3 (t1)), .ref (gA G (0))]) := by
    intro M t1 hf ht1 H locs ls hW hS hl
    unfold fL_act_j224 at hf
    obtain ⟨q35, hq35, hf⟩ := bind_el hf
    refine k_cVi (As := [.int (i3 (t1))]) (rest := []) ⟨hx, hb, hml, hown, hts⟩ (mG_pass l G M t1 ht1 q35 hq35) (cwV 1 hts (gbV (inB_13 _ (List.mem_of_getElem? (i := 21) rfl)) (inB_13 _ (List.mem_of_getElem? (i := 22) rfl)) (inB_13 _ (List.mem_of_getElem? (i := 23) rfl)) (inB_1 _ (List.mem_of_getElem? (i := 2) rfl)) (inB_14 _ (List.mem_of_getElem? (i := 0) rfl))) rfl rfl rfl (by decide +kernel) ⟨Nat.le_of_ble_eq_true rfl, Nat.le_of_ble_eq_true rfl⟩) (rv_G hW) hW hS rfl hl.1 rfl (lv_room (Nat.le_of_ble_eq_true rfl)) dL_act_224 ⟨Nat.zero_le _, Nat.zero_le _⟩ (fun hv36 H locs hW hS => ?_)
    obtain rfl := some_el hf
    exact k_ret hx hb hr hlocks hW hS rfl hv36 dL_act_227
  have J3 : ∀ (M : MemG) (x1 : Int) (x2 : Int) (t0 : Int), fL_act_j28 M x1 x2 t0 = some r → inR x1 → inR x2 → inR t0 →  ∀ (H : Heap) (locs : List Loc) (ls : Array Slot), Wd G M s H → va_S (PA G) s.heap H locs → lv_has ls 4 [(0, .ref (gA G (0))), (1, .int (i3 (x1))), (2, .int (i3 (x2)))] → W p l e ({ frames := 8, cells := 0, slots := 0, locals := 175 } : Room) s m args below meth c H locs 0 0 (MQ below (QcI G r.1 r.2) args s 0 0 (PA G)) (F0 m 28 ls [.int (i3 (t0))]) := by
    intro M x1 x2 t0 hf hx1 hx2 ht0 H locs ls hW hS hl
    unfold fL_act_j28 at hf
    refine lv_istore_n (lv' := [(3, .int (i3 (t0))), (0, .ref (gA G (0))), (1, .int (i3 (x1))), (2, .int (i3 (x2)))]) hx hb dL_act_28 rfl hl (by decide) rfl (fun ls hl => ?_)
    refine lv_iload_n hx hb dL_act_29 rfl (lv_at hl 2 rfl) ?_
    refine k_bipush hx hb dL_act_30 (by decide +kernel) ?_
    refine k_and hx hb dL_act_32 ?_
    by_cases hc4 : 0 ≤ andI x1 15 ∧ andI x1 15 ≤ 4
    · rw [if_pos hc4] at hf
      refine k_tin (tgt := 108) hx hb (inR_toInt _) dL_act_33 (by omega) (by omega) (by rcases (show andI x1 15 = 0 ∨ andI x1 15 = 1 ∨ andI x1 15 = 2 ∨ andI x1 15 = 3 ∨ andI x1 15 = 4 by omega) with h9 | h9 | h9 | h9 | h9 <;> (rw [h9]; rfl)) (by decide) ?_
      refine lv_aload_n hx hb dL_act_108 rfl (lv_at hl 1 rfl) ?_
      refine lv_iload_n hx hb dL_act_109 rfl (lv_at hl 0 rfl) ?_
      refine lv_iload_n hx hb dL_act_110 rfl (lv_at hl 3 rfl) ?_
      refine k_bipush hx hb dL_act_111 (by decide +kernel) ?_
      refine k_shr hx hb dL_act_113 ?_
      refine k_const hx hb dL_act_114 ?_
      obtain ⟨hg5, hf⟩ := gq_el hf
      refine k_rem hx hb dL_act_115 (inR_toInt _) (show inR (5) by decide) hg5 ?_
      refine lv_iload_n hx hb dL_act_116 rfl (lv_at hl 3 rfl) ?_
      refine k_const hx hb dL_act_117 ?_
      refine k_shr hx hb dL_act_118 ?_
      refine k_bipush hx hb dL_act_119 (by decide +kernel) ?_
      obtain ⟨hg6, hf⟩ := gq_el hf
      refine k_rem hx hb dL_act_121 (inR_toInt _) (show inR (8) by decide) hg6 ?_
      refine k_if_ne (tgt := 131) hx hb (inR_mod (show inR (8) by decide) hg6.2) dL_act_122 (by decide) (fun hc7 => ?_) (fun hc7 => ?_)
      · rw [if_neg hc7] at hf
        refine lv_iload_n hx hb dL_act_131 rfl (lv_at hl 3 rfl) ?_
        refine k_const hx hb dL_act_132 ?_
        refine k_shr hx hb dL_act_133 ?_
        refine k_sipush hx hb dL_act_134 (by decide +kernel) ?_
        obtain ⟨hg8, hf⟩ := gq_el hf
        refine k_rem hx hb dL_act_137 (inR_toInt _) (show inR (202) by decide) hg8 ?_
        exact J9 (M) (t0) ((shrI x2 7) % 5) ((shrI x2 4) % 202) hf ht0 (inR_mod (show inR (5) by decide) hg5.2) (inR_mod (show inR (202) by decide) hg8.2) _ _ _ hW hS (lv_sub hl [] rfl)
      · rw [if_pos hc7] at hf
        refine k_sipush hx hb dL_act_125 (by decide +kernel) ?_
        refine lv_goto (tgt := 138) hx hb dL_act_128 (by decide) ?_
        exact J9 (M) (t0) ((shrI x2 7) % 5) (200) hf ht0 (inR_mod (show inR (5) by decide) hg5.2) (show inR (200) by decide) _ _ _ hW hS (lv_sub hl [] rfl)
    · rw [if_neg hc4] at hf
      by_cases hc12 : andI x1 15 = 5
      · rw [if_pos hc12] at hf
        refine k_tin (tgt := 142) hx hb (inR_toInt _) dL_act_33 (by omega) (by omega) (by rw [hc12]; rfl) (by decide) ?_
        refine lv_aload_n hx hb dL_act_142 rfl (lv_at hl 1 rfl) ?_
        refine lv_iload_n hx hb dL_act_143 rfl (lv_at hl 0 rfl) ?_
        refine lv_iload_n hx hb dL_act_144 rfl (lv_at hl 3 rfl) ?_
        refine k_const hx hb dL_act_145 ?_
        refine k_shr hx hb dL_act_146 ?_
        refine k_bipush hx hb dL_act_147 (by decide +kernel) ?_
        obtain ⟨hg13, hf⟩ := gq_el hf
        refine k_rem hx hb dL_act_149 (inR_toInt _) (show inR (60) by decide) hg13 ?_
        obtain ⟨q14, hq14, hf⟩ := bind_el hf
        refine k_cVi (As := [.int (i3 (t0)), .int (i3 ((shrI x2 5) % 60))]) (rest := []) ⟨hx, hb, hml, hown, hts⟩ (mG_take l G M t0 ht0 ((shrI x2 5) % 60) (inR_mod (show inR (60) by decide) hg13.2) q14 hq14) (cwV 2 hts (gbV (inB_11 _ (List.mem_of_getElem? (i := 11) rfl)) (inB_11 _ (List.mem_of_getElem? (i := 12) rfl)) (inB_11 _ (List.mem_of_getElem? (i := 13) rfl)) (inB_1 _ (List.mem_of_getElem? (i := 2) rfl)) (inB_11 _ (List.mem_of_getElem? (i := 14) rfl))) rfl rfl rfl (by decide +kernel) ⟨Nat.le_of_ble_eq_true rfl, Nat.le_of_ble_eq_true rfl⟩) (rv_G hW) hW hS rfl hl.1 rfl (lv_room (Nat.le_of_ble_eq_true rfl)) dL_act_150 ⟨Nat.zero_le _, Nat.zero_le _⟩ (fun hv15 H locs hW hS => ?_)
        obtain rfl := some_el hf
        exact k_ret hx hb hr hlocks hW hS rfl hv15 dL_act_153
      · rw [if_neg hc12] at hf
        by_cases hc16 : 6 ≤ andI x1 15 ∧ andI x1 15 ≤ 8
        · rw [if_pos hc16] at hf
          refine k_tin (tgt := 154) hx hb (inR_toInt _) dL_act_33 (by omega) (by omega) (by rcases (show andI x1 15 = 6 ∨ andI x1 15 = 7 ∨ andI x1 15 = 8 by omega) with h9 | h9 | h9 <;> (rw [h9]; rfl)) (by decide) ?_
          refine lv_aload_n hx hb dL_act_154 rfl (lv_at hl 1 rfl) ?_
          refine lv_iload_n hx hb dL_act_155 rfl (lv_at hl 0 rfl) ?_
          refine lv_iload_n hx hb dL_act_156 rfl (lv_at hl 3 rfl) ?_
          refine k_bipush hx hb dL_act_157 (by decide +kernel) ?_
          refine k_shr hx hb dL_act_159 ?_
          refine k_bipush hx hb dL_act_160 (by decide +kernel) ?_
          obtain ⟨hg17, hf⟩ := gq_el hf
          refine k_rem hx hb dL_act_162 (inR_toInt _) (show inR (8) by decide) hg17 ?_
          refine lv_iload_n hx hb dL_act_163 rfl (lv_at hl 3 rfl) ?_
          refine k_const hx hb dL_act_164 ?_
          refine k_shr hx hb dL_act_165 ?_
          refine k_bipush hx hb dL_act_166 (by decide +kernel) ?_
          obtain ⟨hg18, hf⟩ := gq_el hf
          refine k_rem hx hb dL_act_168 (inR_toInt _) (show inR (120) by decide) hg18 ?_
          obtain ⟨q19, hq19, hf⟩ := bind_el hf
          refine k_cVi (As := [.int (i3 (t0)), .int (i3 ((shrI x2 8) % 8)), .int (i3 ((shrI x2 4) % 120))]) (rest := []) ⟨hx, hb, hml, hown, hts⟩ (mG_move l G M t0 ht0 ((shrI x2 8) % 8) (inR_mod (show inR (8) by decide) hg17.2) ((shrI x2 4) % 120) (inR_mod (show inR (120) by decide) hg18.2) q19 hq19) (cwV 3 hts (gbV (inB_12 _ (List.mem_of_getElem? (i := 7) rfl)) (inB_12 _ (List.mem_of_getElem? (i := 8) rfl)) (inB_12 _ (List.mem_of_getElem? (i := 9) rfl)) (inB_1 _ (List.mem_of_getElem? (i := 2) rfl)) (inB_12 _ (List.mem_of_getElem? (i := 10) rfl))) rfl rfl rfl (by decide +kernel) ⟨Nat.le_of_ble_eq_true rfl, Nat.le_of_ble_eq_true rfl⟩) (rv_G hW) hW hS rfl hl.1 rfl (lv_room (Nat.le_of_ble_eq_true rfl)) dL_act_169 ⟨Nat.zero_le _, Nat.zero_le _⟩ (fun hv20 H locs hW hS => ?_)
          obtain rfl := some_el hf
          exact k_ret hx hb hr hlocks hW hS rfl hv20 dL_act_172
        · rw [if_neg hc16] at hf
          by_cases hc21 : andI x1 15 = 9
          · rw [if_pos hc21] at hf
            refine k_tin (tgt := 173) hx hb (inR_toInt _) dL_act_33 (by omega) (by omega) (by rw [hc21]; rfl) (by decide) ?_
            refine lv_aload_n hx hb dL_act_173 rfl (lv_at hl 1 rfl) ?_
            refine lv_iload_n hx hb dL_act_174 rfl (lv_at hl 3 rfl) ?_
            refine k_const hx hb dL_act_175 ?_
            refine k_shr hx hb dL_act_176 ?_
            refine k_const hx hb dL_act_177 ?_
            obtain ⟨hg22, hf⟩ := gq_el hf
            refine k_rem hx hb dL_act_178 (inR_toInt _) (show inR (5) by decide) hg22 ?_
            refine lv_iload_n hx hb dL_act_179 rfl (lv_at hl 3 rfl) ?_
            refine k_const hx hb dL_act_180 ?_
            refine k_shr hx hb dL_act_181 ?_
            refine k_sipush hx hb dL_act_182 (by decide +kernel) ?_
            obtain ⟨hg23, hf⟩ := gq_el hf
            refine k_rem hx hb dL_act_185 (inR_toInt _) (show inR (300) by decide) hg23 ?_
            obtain ⟨q24, hq24, hf⟩ := bind_el hf
            refine k_cVi (As := [.int (i3 ((shrI x2 1) % 5)), .int (i3 ((shrI x2 3) % 300))]) (rest := []) ⟨hx, hb, hml, hown, hts⟩ (mG_order l G M ((shrI x2 1) % 5) (inR_mod (show inR (5) by decide) hg22.2) ((shrI x2 3) % 300) (inR_mod (show inR (300) by decide) hg23.2) q24 hq24) (cwV 2 hts (gbV (inB_12 _ (List.mem_of_getElem? (i := 16) rfl)) (inB_12 _ (List.mem_of_getElem? (i := 17) rfl)) (inB_12 _ (List.mem_of_getElem? (i := 18) rfl)) (inB_1 _ (List.mem_of_getElem? (i := 2) rfl)) (inB_12 _ (List.mem_of_getElem? (i := 19) rfl))) rfl rfl rfl (by decide +kernel) ⟨Nat.le_of_ble_eq_true rfl, Nat.le_of_ble_eq_true rfl⟩) (rv_G hW) hW hS rfl hl.1 rfl (lv_room (Nat.le_of_ble_eq_true rfl)) dL_act_186 ⟨Nat.zero_le _, Nat.zero_le _⟩ (fun hv25 H locs hW hS => ?_)
            obtain rfl := some_el hf
            exact k_ret hx hb hr hlocks hW hS rfl hv25 dL_act_189
          · rw [if_neg hc21] at hf
            by_cases hc26 : 10 ≤ andI x1 15 ∧ andI x1 15 ≤ 11
            · rw [if_pos hc26] at hf
              refine k_tin (tgt := 190) hx hb (inR_toInt _) dL_act_33 (by omega) (by omega) (by rcases (show andI x1 15 = 10 ∨ andI x1 15 = 11 by omega) with h9 | h9 <;> (rw [h9]; rfl)) (by decide) ?_
              refine lv_aload_n hx hb dL_act_190 rfl (lv_at hl 1 rfl) ?_
              refine lv_iload_n hx hb dL_act_191 rfl (lv_at hl 3 rfl) ?_
              refine k_const hx hb dL_act_192 ?_
              refine k_shr hx hb dL_act_193 ?_
              refine k_bipush hx hb dL_act_194 (by decide +kernel) ?_
              obtain ⟨hg27, hf⟩ := gq_el hf
              refine k_rem hx hb dL_act_196 (inR_toInt _) (show inR (34) by decide) hg27 ?_
              obtain ⟨q28, hq28, hf⟩ := bind_el hf
              refine k_cVi (As := [.int (i3 ((shrI x2 1) % 34))]) (rest := []) ⟨hx, hb, hml, hown, hts⟩ (mG_fix l G M ((shrI x2 1) % 34) (inR_mod (show inR (34) by decide) hg27.2) q28 hq28) (cwV 1 hts (gbV (inB_13 _ (List.mem_of_getElem? (i := 9) rfl)) (inB_13 _ (List.mem_of_getElem? (i := 10) rfl)) (inB_13 _ (List.mem_of_getElem? (i := 11) rfl)) (inB_1 _ (List.mem_of_getElem? (i := 2) rfl)) (inB_13 _ (List.mem_of_getElem? (i := 12) rfl))) rfl rfl rfl (by decide +kernel) ⟨Nat.le_of_ble_eq_true rfl, Nat.le_of_ble_eq_true rfl⟩) (rv_G hW) hW hS rfl hl.1 rfl (lv_room (Nat.le_of_ble_eq_true rfl)) dL_act_197 ⟨Nat.zero_le _, Nat.zero_le _⟩ (fun hv29 H locs hW hS => ?_)
              obtain rfl := some_el hf
              exact k_ret hx hb hr hlocks hW hS rfl hv29 dL_act_200
            · rw [if_neg hc26] at hf
              by_cases hc30 : andI x1 15 = 12
              · rw [if_pos hc30] at hf
                refine k_tin (tgt := 201) hx hb (inR_toInt _) dL_act_33 (by omega) (by omega) (by rw [hc30]; rfl) (by decide) ?_
                refine lv_aload_n hx hb dL_act_201 rfl (lv_at hl 1 rfl) ?_
                refine lv_iload_n hx hb dL_act_202 rfl (lv_at hl 3 rfl) ?_
                refine k_bipush hx hb dL_act_203 (by decide +kernel) ?_
                refine k_and hx hb dL_act_205 ?_
                refine k_if_ne (tgt := 218) hx hb (inR_toInt _) dL_act_206 (by decide) (fun hc31 => ?_) (fun hc31 => ?_)
                · rw [if_neg hc31] at hf
                  refine k_const hx hb dL_act_218 ?_
                  refine lv_iload_n hx hb dL_act_219 rfl (lv_at hl 3 rfl) ?_
                  refine k_bipush hx hb dL_act_220 (by decide +kernel) ?_
                  obtain ⟨hg32, hf⟩ := gq_el hf
                  refine k_rem hx hb dL_act_222 hx2 (show inR (6) by decide) hg32 ?_
                  refine k_add hx hb dL_act_223 ?_
                  obtain ⟨hg33, hf⟩ := gd_el hf
                  exact J34 (M) (1 + (x2 % 6)) hf hg33 _ _ _ hW hS (lv_sub hl [] rfl)
                · rw [if_pos hc31] at hf
                  refine lv_iload_n hx hb dL_act_209 rfl (lv_at hl 3 rfl) ?_
                  refine k_const hx hb dL_act_210 ?_
                  refine k_shr hx hb dL_act_211 ?_
                  refine k_bipush hx hb dL_act_212 (by decide +kernel) ?_
                  obtain ⟨hg37, hf⟩ := gq_el hf
                  refine k_rem hx hb dL_act_214 (inR_toInt _) (show inR (54) by decide) hg37 ?_
                  refine lv_goto (tgt := 224) hx hb dL_act_215 (by decide) ?_
                  exact J34 (M) ((shrI x2 3) % 54) hf (inR_mod (show inR (54) by decide) hg37.2) _ _ _ hW hS (lv_sub hl [] rfl)
              · rw [if_neg hc30] at hf
                by_cases hc38 : 13 ≤ andI x1 15 ∧ andI x1 15 ≤ 14
                · rw [if_pos hc38] at hf
                  refine k_tin (tgt := 228) hx hb (inR_toInt _) dL_act_33 (by omega) (by omega) (by rcases (show andI x1 15 = 13 ∨ andI x1 15 = 14 by omega) with h9 | h9 <;> (rw [h9]; rfl)) (by decide) ?_
                  refine k_bipush hx hb dL_act_228 (by decide +kernel) ?_
                  refine lv_aload_n hx hb dL_act_230 rfl (lv_at hl 1 rfl) ?_
                  refine k_gets hx hb hW.S.2.2.1.1 hown (hts _ (List.mem_cons_of_mem _ (inB_1 _ (List.mem_of_getElem? (i := 3) rfl)))) dL_act_231 ?_
                  refine lv_iload_n hx hb dL_act_234 rfl (lv_at hl 3 rfl) ?_
                  refine k_gets hx hb hW.S.2.2.1.1 hown (hts _ (List.mem_cons_of_mem _ (inB_1 _ (List.mem_of_getElem? (i := 3) rfl)))) dL_act_235 ?_
                  refine k_tlen (v := 19) hx hb hW.S.2.2.1.2 rfl dL_act_238 ?_
                  obtain ⟨hg39, hf⟩ := gq_el hf
                  refine k_rem hx hb dL_act_239 hx2 (by decide) hg39 ?_
                  obtain ⟨hg40, hf⟩ := gx_el hf
                  refine k_tq (f := fun j => gA G (100 + (7 + j))) hx hb hW.S.2.2.1.2 (inR_mod (by decide) hg39.2) hg40.1 hg40.2 dL_act_240 ?_
                  obtain ⟨m41, hm41, hf⟩ := bind_el hf
                  refine k_cSa (As := [.ref (gA G (0)), .ref (gA G (100 + (7 + (x2 % 19).toNat)))]) (rest := [.int (i3 ((-14)))]) ⟨hx, hb, hml, hown, hts⟩ (mL_write l G M ((7 + (x2 % 19).toNat)) (by omega) m41 hm41) (va_cwS 2 hts (gbS (inB_14 _ (List.mem_of_getElem? (i := 11) rfl)) (inB_14 _ (List.mem_of_getElem? (i := 12) rfl)) (inB_7 _ (List.mem_of_getElem? (i := 22) rfl)) (inB_14 _ (List.mem_of_getElem? (i := 13) rfl))) rfl rfl rfl (by decide +kernel) ⟨Nat.le_of_ble_eq_true rfl, Nat.le_of_ble_eq_true rfl⟩) hW hS rfl hl.1 rfl (lv_room (Nat.le_of_ble_eq_true rfl)) dL_act_241 ⟨Nat.zero_le _, Nat.zero_le _⟩ (fun H locs hW hS => ?_)
                  obtain ⟨q43, hq43, hf⟩ := bind_el hf
                  refine k_cVi (As := []) (rest := [.int (i3 ((-14)))]) ⟨hx, hb, hml, hown, hts⟩ (mG_run l G m41 q43 hq43) (cwV 0 hts (gbV (inB_16 _ (List.mem_of_getElem? (i := 23) rfl)) (inB_17 _ (List.mem_of_getElem? (i := 0) rfl)) (inB_17 _ (List.mem_of_getElem? (i := 1) rfl)) (inB_1 _ (List.mem_of_getElem? (i := 2) rfl)) (inB_17 _ (List.mem_of_getElem? (i := 2) rfl))) rfl rfl rfl (by decide +kernel) ⟨Nat.le_of_ble_eq_true rfl, Nat.le_of_ble_eq_true rfl⟩) (rv_G hW) hW hS rfl hl.1 rfl (lv_room (Nat.le_of_ble_eq_true rfl)) dL_act_244 ⟨Nat.zero_le _, Nat.zero_le _⟩ (fun hv44 H locs hW hS => ?_)
                  refine k_max hx hb (hml.trans hl.1.symm) hown (hts _ (List.mem_cons_of_mem _ (inB_11 _ (List.mem_of_getElem? (i := 8) rfl)))) (hts _ (List.mem_cons_of_mem _ (inB_11 _ (List.mem_of_getElem? (i := 9) rfl)))) (hts _ (List.mem_cons_of_mem _ (inB_7 _ (List.mem_of_getElem? (i := 17) rfl)))) (hts _ (List.mem_cons_of_mem _ (inB_11 _ (List.mem_of_getElem? (i := 10) rfl)))) (Nat.le_of_ble_eq_true rfl) (Nat.le_of_ble_eq_true rfl) (Nat.le_of_ble_eq_true rfl) (Nat.le_of_ble_eq_true rfl) (show inR (-14) by decide) hv44 dL_act_247 ?_
                  obtain rfl := some_el hf
                  exact k_ret hx hb hr hlocks hW hS rfl (inR_max (show inR (-14) by decide) hv44) dL_act_250
                · rw [if_neg hc38] at hf
                  refine k_tdef (tgt := 251) hx hb (inR_toInt _) dL_act_33 (by rcases (show andI x1 15 < 0 ∨ 14 < andI x1 15 by omega) with h9 | h9; exact Or.inl (by omega); exact Or.inl (by omega)) (by decide) ?_
                  refine lv_iload_n hx hb dL_act_251 rfl (lv_at hl 3 rfl) ?_
                  refine k_const hx hb dL_act_252 ?_
                  refine k_and hx hb dL_act_253 ?_
                  refine k_if_ne (tgt := 264) hx hb (inR_toInt _) dL_act_254 (by decide) (fun hc45 => ?_) (fun hc45 => ?_)
                  · rw [if_neg hc45] at hf
                    refine lv_iload_n hx hb dL_act_264 rfl (lv_at hl 3 rfl) ?_
                    refine k_const hx hb dL_act_265 ?_
                    refine k_and hx hb dL_act_266 ?_
                    refine k_const hx hb dL_act_267 ?_
                    refine k_icmp_ne (tgt := 278) hx hb (inR_toInt _) (show inR (1) by decide) dL_act_268 (by decide) (fun hc46 => ?_) (fun hc46 => ?_)
                    · rw [if_neg hc46] at hf
                      refine lv_aload_n hx hb dL_act_278 rfl (lv_at hl 1 rfl) ?_
                      obtain ⟨q47, hq47, hf⟩ := bind_el hf
                      refine k_cVi (As := []) (rest := []) ⟨hx, hb, hml, hown, hts⟩ (mG_undo l G M q47 hq47) (cwV 0 hts (gbV (inB_20 _ (List.mem_of_getElem? (i := 8) rfl)) (inB_20 _ (List.mem_of_getElem? (i := 9) rfl)) (inB_20 _ (List.mem_of_getElem? (i := 10) rfl)) (inB_1 _ (List.mem_of_getElem? (i := 2) rfl)) (inB_20 _ (List.mem_of_getElem? (i := 11) rfl))) rfl rfl rfl (by decide +kernel) ⟨Nat.le_of_ble_eq_true rfl, Nat.le_of_ble_eq_true rfl⟩) (rv_G hW) hW hS rfl hl.1 rfl (lv_room (Nat.le_of_ble_eq_true rfl)) dL_act_279 ⟨Nat.zero_le _, Nat.zero_le _⟩ (fun hv48 H locs hW hS => ?_)
                      obtain rfl := some_el hf
                      exact k_ret hx hb hr hlocks hW hS rfl hv48 dL_act_282
                    · rw [if_pos hc46] at hf
                      refine lv_aload_n hx hb dL_act_271 rfl (lv_at hl 1 rfl) ?_
                      obtain ⟨q49, hq49, hf⟩ := bind_el hf
                      refine k_cVi (As := []) (rest := []) ⟨hx, hb, hml, hown, hts⟩ (mG_restore l G M q49 hq49) (cwV 0 hts (gbV (inB_20 _ (List.mem_of_getElem? (i := 0) rfl)) (inB_20 _ (List.mem_of_getElem? (i := 1) rfl)) (inB_20 _ (List.mem_of_getElem? (i := 2) rfl)) (inB_1 _ (List.mem_of_getElem? (i := 2) rfl)) (inB_20 _ (List.mem_of_getElem? (i := 3) rfl))) rfl rfl rfl (by decide +kernel) ⟨Nat.le_of_ble_eq_true rfl, Nat.le_of_ble_eq_true rfl⟩) (rv_G hW) hW hS rfl hl.1 rfl (lv_room (Nat.le_of_ble_eq_true rfl)) dL_act_272 ⟨Nat.zero_le _, Nat.zero_le _⟩ (fun hv50 H locs hW hS => ?_)
                      refine lv_goto (tgt := 282) hx hb dL_act_275 (by decide) ?_
                      obtain rfl := some_el hf
                      exact k_ret hx hb hr hlocks hW hS rfl hv50 dL_act_282
                  · rw [if_pos hc45] at hf
                    refine lv_aload_n hx hb dL_act_257 rfl (lv_at hl 1 rfl) ?_
                    obtain ⟨q51, hq51, hf⟩ := bind_el hf
                    refine k_cVi (As := []) (rest := []) ⟨hx, hb, hml, hown, hts⟩ (mG_save l G M q51 hq51) (cwV 0 hts (gbV (inB_19 _ (List.mem_of_getElem? (i := 20) rfl)) (inB_19 _ (List.mem_of_getElem? (i := 21) rfl)) (inB_19 _ (List.mem_of_getElem? (i := 22) rfl)) (inB_1 _ (List.mem_of_getElem? (i := 2) rfl)) (inB_19 _ (List.mem_of_getElem? (i := 23) rfl))) rfl rfl rfl (by decide +kernel) ⟨Nat.le_of_ble_eq_true rfl, Nat.le_of_ble_eq_true rfl⟩) (rv_G hW) hW hS rfl hl.1 rfl (lv_room (Nat.le_of_ble_eq_true rfl)) dL_act_258 ⟨Nat.zero_le _, Nat.zero_le _⟩ (fun hv52 H locs hW hS => ?_)
                    refine lv_goto (tgt := 282) hx hb dL_act_261 (by decide) ?_
                    obtain rfl := some_el hf
                    exact k_ret hx hb hr hlocks hW hS rfl hv52 dL_act_282
  refine lv_iload_n hx hb dL_act_0 rfl (lv_at hl 1 rfl) ?_
  refine k_const hx hb dL_act_1 ?_
  refine k_shr hx hb dL_act_2 ?_
  refine lv_ldc (v := i3 65535) hx hb hown (hts _ (List.mem_cons_of_mem _ (inB_11 _ (List.mem_of_getElem? (i := 4) rfl)))) dL_act_3 ?_
  refine k_and hx hb dL_act_5 ?_
  refine lv_istore_n (lv' := [(2, .int (i3 (andI (shrI x1 4) 65535))), (0, .ref (gA G (0))), (1, .int (i3 (x1)))]) hx hb dL_act_6 rfl hl (by decide) rfl (fun ls hl => ?_)
  refine lv_iload_n hx hb dL_act_7 rfl (lv_at hl 0 rfl) ?_
  refine k_const hx hb dL_act_8 ?_
  refine k_and hx hb dL_act_9 ?_
  refine k_if_ne (tgt := 22) hx hb (inR_toInt _) dL_act_10 (by decide) (fun hc1 => ?_) (fun hc1 => ?_)
  · rw [if_neg hc1] at hf
    refine lv_iload_n hx hb dL_act_22 rfl (lv_at hl 0 rfl) ?_
    refine k_const hx hb dL_act_23 ?_
    refine k_shr hx hb dL_act_24 ?_
    refine k_bipush hx hb dL_act_25 (by decide +kernel) ?_
    obtain ⟨hg2, hf⟩ := gq_el hf
    refine k_rem hx hb dL_act_27 (inR_toInt _) (show inR (6) by decide) hg2 ?_
    exact J3 (M0) (x1) (andI (shrI x1 4) 65535) ((shrI (andI (shrI x1 4) 65535) 1) % 6) hf hx1 (inR_toInt _) (inR_mod (show inR (6) by decide) hg2.2) _ _ _ hW hS (lv_sub hl [1, 2, 0] rfl)
  · rw [if_pos hc1] at hf
    refine lv_iload_n hx hb dL_act_13 rfl (lv_at hl 0 rfl) ?_
    refine k_const hx hb dL_act_14 ?_
    refine k_shr hx hb dL_act_15 ?_
    refine k_bipush hx hb dL_act_16 (by decide +kernel) ?_
    obtain ⟨hg53, hf⟩ := gq_el hf
    refine k_rem hx hb dL_act_18 (inR_toInt _) (show inR (33) by decide) hg53 ?_
    refine lv_goto (tgt := 28) hx hb dL_act_19 (by decide) ?_
    exact J3 (M0) (x1) (andI (shrI x1 4) 65535) ((shrI (andI (shrI x1 4) 65535) 1) % 33) hf hx1 (inR_toInt _) (inR_mod (show inR (33) by decide) hg53.2) _ _ _ hW hS (lv_sub hl [1, 2, 0] rfl)
set_option maxHeartbeats 4000000 in
set_option maxRecDepth 100000 in
theorem mL_areRanks (l : Launch) (G : gG) (M0 : MemG)  (r : Int) (hf : fL_areRanks M0 = some r) : Met l yL_areRanks (wb yL_areRanks cL_areRanks 8 (some .boolean)) ({ frames := 5, cells := 0, slots := 0, locals := 109 } : Room) (PcG G M0 [.ref (gA G (0))]) (QcZ G M0 r) 0 0 (PA G) := by
  refine Met.ofW (cc := cL_areRanks) (maxL := 8) (ret := (some .boolean)) (by decide) rfl ?_
  intro p e s m args below meth c s₁ B hml hv0
  obtain ⟨hav, hW⟩ := hv0
  have hx := B.exec
  have hb := B.bytes
  have hr := B.returns
  have hts := atoms_spec (ws := (wb yL_areRanks cL_areRanks 8 (some .boolean))) B.pre
  have hown : s.vm.findClass RL = some m.cls := findClass_of_methodNamed B.named
  have hlocks := B.notSynchronized
  have hW : Wd G M0 s s.heap := hW
  have hS : va_S (PA G) s.heap s.heap [] := va_S.rf
  have hl := lv_entry [.ref (gA G (0))] (n := 8) (Nat.le_of_ble_eq_true rfl)
  have hent := lg_entry_eq m [.ref (gA G (0))] 8
  rw [← hav] at hent
  rw [hent]
  clear hent
  generalize (lg_sl [.ref (gA G (0))] ++ List.replicate (8 - (lg_sl [.ref (gA G (0))]).length) Slot.unset).toArray = ls at hl ⊢
  have hl : lv_has ls 8 [(0, .ref (gA G (0)))] := hl
  unfold fL_areRanks at hf
  show W p l e ({ frames := 5, cells := 0, slots := 0, locals := 109 } : Room) s m args below meth c s.heap [] 0 0 (MQ below (QcZ G M0 r) args s 0 0 (PA G)) (F0 m 0 ls [])
  have L31 : ∀ (x1 : Int) (hx1 : inR x1), ∀ (z : (Int × Int)) (q : (Int)), loopN (fL_areRanks_l34 M0 x1) 200 z = some q → (inR (q) → ∀ (H : Heap) (locs : List Loc) (ls : Array Slot), Wd G (M0) s H → va_S (PA G) s.heap H locs → lv_has ls 8 [(0, .ref (gA G (0))), (1, .int (i3 (x1))), (2, .int (i3 (q)))] → W p l e ({ frames := 5, cells := 0, slots := 0, locals := 109 } : Room) s m args below meth c H locs 0 0 (MQ below (QcZ G M0 r) args s 0 0 (PA G)) (F0 m 132 ls [])) → (inR (z.1) → inR (z.2) → ∀ (H : Heap) (locs : List Loc) (ls : Array Slot), Wd G (M0) s H → va_S (PA G) s.heap H locs → lv_has ls 8 [(0, .ref (gA G (0))), (1, .int (i3 (x1))), (2, .int (i3 (z.1))), (3, .int (i3 (z.2)))] → W p l e ({ frames := 5, cells := 0, slots := 0, locals := 109 } : Room) s m args below meth c H locs 0 0 (MQ below (QcZ G M0 r) args s 0 0 (PA G)) (F0 m 34 ls [])) := by
    intro x1 hx1 z q hq hex
    refine loop_rule (fL_areRanks_l34 M0 x1) (fun z => inR (z.1) → inR (z.2) → ∀ (H : Heap) (locs : List Loc) (ls : Array Slot), Wd G (M0) s H → va_S (PA G) s.heap H locs → lv_has ls 8 [(0, .ref (gA G (0))), (1, .int (i3 (x1))), (2, .int (i3 (z.1))), (3, .int (i3 (z.2)))] → W p l e ({ frames := 5, cells := 0, slots := 0, locals := 109 } : Room) s m args below meth c H locs 0 0 (MQ below (QcZ G M0 r) args s 0 0 (PA G)) (F0 m 34 ls [])) (fun q => (inR (q) → ∀ (H : Heap) (locs : List Loc) (ls : Array Slot), Wd G (M0) s H → va_S (PA G) s.heap H locs → lv_has ls 8 [(0, .ref (gA G (0))), (1, .int (i3 (x1))), (2, .int (i3 (q)))] → W p l e ({ frames := 5, cells := 0, slots := 0, locals := 109 } : Room) s m args below meth c H locs 0 0 (MQ below (QcZ G M0 r) args s 0 0 (PA G)) (F0 m 132 ls []))) ?_ 200 z q hq hex
    clear hq hex q z
    intro z x hf hK hz2 hz3 H locs ls hW hS hl
    have J25 : ∀ (x3 : Int) (t0 : Int), fL_areRanks_j125 M0 x1 x3 t0 = some x → inR x3 → inR t0 →  ∀ (H : Heap) (locs : List Loc) (ls : Array Slot), Wd G M0 s H → va_S (PA G) s.heap H locs → lv_has ls 8 [(0, .ref (gA G (0))), (1, .int (i3 (x1))), (3, .int (i3 (x3)))] → W p l e ({ frames := 5, cells := 0, slots := 0, locals := 109 } : Room) s m args below meth c H locs 0 0 (MQ below (QcZ G M0 r) args s 0 0 (PA G)) (F0 m 125 ls [.int (i3 (t0))]) := by
      intro x3 t0 hf hx3 ht0 H locs ls hW hS hl
      unfold fL_areRanks_j125 at hf
      refine lv_istore_n (lv' := [(2, .int (i3 (t0))), (0, .ref (gA G (0))), (1, .int (i3 (x1))), (3, .int (i3 (x3)))]) hx hb dL_areRanks_125 rfl hl (by decide) rfl (fun ls hl => ?_)
      obtain ⟨hg26, hf⟩ := gd_el hf
      refine k_iinc (lv' := [(3, .int (i3 (x3 + 1))), (2, .int (i3 (t0))), (0, .ref (gA G (0))), (1, .int (i3 (x1)))]) hx hb dL_areRanks_126 hl (k := 3) rfl (by decide) rfl (fun ls hl => ?_)
      refine lv_goto (tgt := 34) hx hb dL_areRanks_129 (by decide) ?_
      obtain rfl := some_el hf
      exact hK ht0 hg26 _ _ _ hW hS (lv_sub hl [2, 3, 1, 0] rfl)
    unfold fL_areRanks_l34 at hf
    refine lv_iload_n hx hb dL_areRanks_34 rfl (lv_at hl 2 rfl) ?_
    refine k_if_eq (tgt := 132) hx hb hz2 dL_areRanks_35 (by decide) (fun hc7 => ?_) (fun hc7 => ?_)
    · rw [if_pos hc7] at hf
      obtain rfl := some_el hf
      exact hK hz2 _ _ _ hW hS (lv_sub hl [0, 1, 2] rfl)
    · rw [if_neg hc7] at hf
      refine lv_iload_n hx hb dL_areRanks_38 rfl (lv_at hl 3 rfl) ?_
      refine lv_iload_n hx hb dL_areRanks_39 rfl (lv_at hl 1 rfl) ?_
      refine k_icmp_ge (tgt := 132) hx hb hz3 hx1 dL_areRanks_40 (by decide) (fun hc8 => ?_) (fun hc8 => ?_)
      · rw [if_neg hc8] at hf
        obtain rfl := some_el hf
        exact hK hz2 _ _ _ hW hS (lv_sub hl [0, 1, 2] rfl)
      · rw [if_pos hc8] at hf
        refine lv_aload_n hx hb dL_areRanks_43 rfl (lv_at hl 0 rfl) ?_
        refine lv_iload_n hx hb dL_areRanks_44 rfl (lv_at hl 3 rfl) ?_
        refine k_const hx hb dL_areRanks_45 ?_
        refine k_sub hx hb dL_areRanks_46 ?_
        obtain ⟨hg9, hf⟩ := gd_el hf
        obtain ⟨q10, hq10, hf⟩ := bind_el hf
        refine k_cVi (As := [.int (i3 (z.2 - 1))]) (rest := []) ⟨hx, hb, hml, hown, hts⟩ (mG_oldest l G M0 (z.2 - 1) hg9 q10 hq10) (cwV 1 hts (gbV (inB_21 _ (List.mem_of_getElem? (i := 0) rfl)) (inB_21 _ (List.mem_of_getElem? (i := 1) rfl)) (inB_21 _ (List.mem_of_getElem? (i := 2) rfl)) (inB_1 _ (List.mem_of_getElem? (i := 2) rfl)) (inB_21 _ (List.mem_of_getElem? (i := 3) rfl))) rfl rfl rfl (by decide +kernel) ⟨Nat.le_of_ble_eq_true rfl, Nat.le_of_ble_eq_true rfl⟩) (rv_G hW) hW hS rfl hl.1 rfl (lv_room (Nat.le_of_ble_eq_true rfl)) dL_areRanks_47 ⟨Nat.zero_le _, Nat.zero_le _⟩ (fun hv11 H locs hW hS => ?_)
        refine lv_istore (lv' := [(4, .int (i3 (q10))), (0, .ref (gA G (0))), (1, .int (i3 (x1))), (2, .int (i3 (z.1))), (3, .int (i3 (z.2)))]) hx hb dL_areRanks_50 hl (by decide) rfl (fun ls hl => ?_)
        refine lv_aload_n hx hb dL_areRanks_52 rfl (lv_at hl 1 rfl) ?_
        refine lv_iload_n hx hb dL_areRanks_53 rfl (lv_at hl 4 rfl) ?_
        obtain ⟨q12, hq12, hf⟩ := bind_el hf
        refine k_cVi (As := [.int (i3 (z.2))]) (rest := []) ⟨hx, hb, hml, hown, hts⟩ (mG_oldest l G M0 z.2 hz3 q12 hq12) (cwV 1 hts (gbV (inB_21 _ (List.mem_of_getElem? (i := 0) rfl)) (inB_21 _ (List.mem_of_getElem? (i := 1) rfl)) (inB_21 _ (List.mem_of_getElem? (i := 2) rfl)) (inB_1 _ (List.mem_of_getElem? (i := 2) rfl)) (inB_21 _ (List.mem_of_getElem? (i := 3) rfl))) rfl rfl rfl (by decide +kernel) ⟨Nat.le_of_ble_eq_true rfl, Nat.le_of_ble_eq_true rfl⟩) (rv_G hW) hW hS rfl hl.1 rfl (lv_room (Nat.le_of_ble_eq_true rfl)) dL_areRanks_54 ⟨Nat.zero_le _, Nat.zero_le _⟩ (fun hv13 H locs hW hS => ?_)
        refine lv_istore (lv' := [(5, .int (i3 (q12))), (4, .int (i3 (q10))), (0, .ref (gA G (0))), (1, .int (i3 (x1))), (2, .int (i3 (z.1))), (3, .int (i3 (z.2)))]) hx hb dL_areRanks_57 hl (by decide) rfl (fun ls hl => ?_)
        refine lv_aload_n hx hb dL_areRanks_59 rfl (lv_at hl 2 rfl) ?_
        refine lv_iload hx hb dL_areRanks_60 (lv_at hl 1 rfl) ?_
        refine k_const hx hb dL_areRanks_62 ?_
        obtain ⟨q14, hq14, hf⟩ := bind_el hf
        refine k_cVi (As := [.int (i3 (q10)), .int (i3 (2))]) (rest := []) ⟨hx, hb, hml, hown, hts⟩ (mG_bayOf l G M0 q10 hv11 2 (show inR (2) by decide) q14 hq14) (cwV 2 hts (gbV (inB_9 _ (List.mem_of_getElem? (i := 17) rfl)) (inB_9 _ (List.mem_of_getElem? (i := 18) rfl)) (inB_9 _ (List.mem_of_getElem? (i := 19) rfl)) (inB_1 _ (List.mem_of_getElem? (i := 2) rfl)) (inB_9 _ (List.mem_of_getElem? (i := 20) rfl))) rfl rfl rfl (by decide +kernel) ⟨Nat.le_of_ble_eq_true rfl, Nat.le_of_ble_eq_true rfl⟩) (rv_G hW) hW hS rfl hl.1 rfl (lv_room (Nat.le_of_ble_eq_true rfl)) dL_areRanks_63 ⟨Nat.zero_le _, Nat.zero_le _⟩ (fun hv15 H locs hW hS => ?_)
        refine lv_aload_n hx hb dL_areRanks_66 rfl (lv_at hl 2 rfl) ?_
        refine lv_iload hx hb dL_areRanks_67 (lv_at hl 0 rfl) ?_
        refine k_const hx hb dL_areRanks_69 ?_
        obtain ⟨q16, hq16, hf⟩ := bind_el hf
        refine k_cVi (As := [.int (i3 (q12)), .int (i3 (2))]) (rest := [.int (i3 (q14))]) ⟨hx, hb, hml, hown, hts⟩ (mG_bayOf l G M0 q12 hv13 2 (show inR (2) by decide) q16 hq16) (cwV 2 hts (gbV (inB_9 _ (List.mem_of_getElem? (i := 17) rfl)) (inB_9 _ (List.mem_of_getElem? (i := 18) rfl)) (inB_9 _ (List.mem_of_getElem? (i := 19) rfl)) (inB_1 _ (List.mem_of_getElem? (i := 2) rfl)) (inB_9 _ (List.mem_of_getElem? (i := 20) rfl))) rfl rfl rfl (by decide +kernel) ⟨Nat.le_of_ble_eq_true rfl, Nat.le_of_ble_eq_true rfl⟩) (rv_G hW) hW hS rfl hl.1 rfl (lv_room (Nat.le_of_ble_eq_true rfl)) dL_areRanks_70 ⟨Nat.zero_le _, Nat.zero_le _⟩ (fun hv17 H locs hW hS => ?_)
        refine k_sub hx hb dL_areRanks_73 ?_
        obtain ⟨hg18, hf⟩ := gd_el hf
        refine lv_istore (lv' := [(6, .int (i3 (q14 - q16))), (5, .int (i3 (q12))), (4, .int (i3 (q10))), (0, .ref (gA G (0))), (1, .int (i3 (x1))), (2, .int (i3 (z.1))), (3, .int (i3 (z.2)))]) hx hb dL_areRanks_74 hl (by decide) rfl (fun ls hl => ?_)
        refine lv_aload_n hx hb dL_areRanks_76 rfl (lv_at hl 3 rfl) ?_
        refine lv_iload hx hb dL_areRanks_77 (lv_at hl 2 rfl) ?_
        refine k_const hx hb dL_areRanks_79 ?_
        obtain ⟨q19, hq19, hf⟩ := bind_el hf
        refine k_cVi (As := [.int (i3 (q10)), .int (i3 (1))]) (rest := []) ⟨hx, hb, hml, hown, hts⟩ (mG_bayOf l G M0 q10 hv11 1 (show inR (1) by decide) q19 hq19) (cwV 2 hts (gbV (inB_9 _ (List.mem_of_getElem? (i := 17) rfl)) (inB_9 _ (List.mem_of_getElem? (i := 18) rfl)) (inB_9 _ (List.mem_of_getElem? (i := 19) rfl)) (inB_1 _ (List.mem_of_getElem? (i := 2) rfl)) (inB_9 _ (List.mem_of_getElem? (i := 20) rfl))) rfl rfl rfl (by decide +kernel) ⟨Nat.le_of_ble_eq_true rfl, Nat.le_of_ble_eq_true rfl⟩) (rv_G hW) hW hS rfl hl.1 rfl (lv_room (Nat.le_of_ble_eq_true rfl)) dL_areRanks_80 ⟨Nat.zero_le _, Nat.zero_le _⟩ (fun hv20 H locs hW hS => ?_)
        refine lv_aload_n hx hb dL_areRanks_83 rfl (lv_at hl 3 rfl) ?_
        refine lv_iload hx hb dL_areRanks_84 (lv_at hl 1 rfl) ?_
        refine k_const hx hb dL_areRanks_86 ?_
        obtain ⟨q21, hq21, hf⟩ := bind_el hf
        refine k_cVi (As := [.int (i3 (q12)), .int (i3 (1))]) (rest := [.int (i3 (q19))]) ⟨hx, hb, hml, hown, hts⟩ (mG_bayOf l G M0 q12 hv13 1 (show inR (1) by decide) q21 hq21) (cwV 2 hts (gbV (inB_9 _ (List.mem_of_getElem? (i := 17) rfl)) (inB_9 _ (List.mem_of_getElem? (i := 18) rfl)) (inB_9 _ (List.mem_of_getElem? (i := 19) rfl)) (inB_1 _ (List.mem_of_getElem? (i := 2) rfl)) (inB_9 _ (List.mem_of_getElem? (i := 20) rfl))) rfl rfl rfl (by decide +kernel) ⟨Nat.le_of_ble_eq_true rfl, Nat.le_of_ble_eq_true rfl⟩) (rv_G hW) hW hS rfl hl.1 rfl (lv_room (Nat.le_of_ble_eq_true rfl)) dL_areRanks_87 ⟨Nat.zero_le _, Nat.zero_le _⟩ (fun hv22 H locs hW hS => ?_)
        refine k_sub hx hb dL_areRanks_90 ?_
        obtain ⟨hg23, hf⟩ := gd_el hf
        refine lv_istore (lv' := [(7, .int (i3 (q19 - q21))), (6, .int (i3 (q14 - q16))), (5, .int (i3 (q12))), (4, .int (i3 (q10))), (0, .ref (gA G (0))), (1, .int (i3 (x1))), (2, .int (i3 (z.1))), (3, .int (i3 (z.2)))]) hx hb dL_areRanks_91 hl (by decide) rfl (fun ls hl => ?_)
        refine lv_iload hx hb dL_areRanks_93 (lv_at hl 1 rfl) ?_
        refine k_if_gt (tgt := 120) hx hb hg18 dL_areRanks_95 (by decide) (fun hc24 => ?_) (fun hc24 => ?_)
        · rw [if_pos hc24] at hf
          refine k_const hx hb dL_areRanks_120 ?_
          refine lv_goto (tgt := 125) hx hb dL_areRanks_121 (by decide) ?_
          exact J25 (z.2) (1) hf hz3 (show inR (1) by decide) _ _ _ hW hS (lv_sub hl [4, 5, 7] rfl)
        · rw [if_neg hc24] at hf
          refine lv_iload hx hb dL_areRanks_98 (lv_at hl 1 rfl) ?_
          refine k_if_ne (tgt := 124) hx hb hg18 dL_areRanks_100 (by decide) (fun hc27 => ?_) (fun hc27 => ?_)
          · rw [if_neg hc27] at hf
            refine k_const hx hb dL_areRanks_124 ?_
            exact J25 (z.2) (0) hf hz3 (show inR (0) by decide) _ _ _ hW hS (lv_sub hl [4, 5, 7] rfl)
          · rw [if_pos hc27] at hf
            refine lv_iload hx hb dL_areRanks_103 (lv_at hl 0 rfl) ?_
            refine k_if_gt (tgt := 120) hx hb hg23 dL_areRanks_105 (by decide) (fun hc28 => ?_) (fun hc28 => ?_)
            · rw [if_pos hc28] at hf
              refine k_const hx hb dL_areRanks_120 ?_
              refine lv_goto (tgt := 125) hx hb dL_areRanks_121 (by decide) ?_
              exact J25 (z.2) (1) hf hz3 (show inR (1) by decide) _ _ _ hW hS (lv_sub hl [4, 5, 7] rfl)
            · rw [if_neg hc28] at hf
              refine lv_iload hx hb dL_areRanks_108 (lv_at hl 0 rfl) ?_
              refine k_if_ne (tgt := 124) hx hb hg23 dL_areRanks_110 (by decide) (fun hc29 => ?_) (fun hc29 => ?_)
              · rw [if_neg hc29] at hf
                refine k_const hx hb dL_areRanks_124 ?_
                exact J25 (z.2) (0) hf hz3 (show inR (0) by decide) _ _ _ hW hS (lv_sub hl [4, 5, 7] rfl)
              · rw [if_pos hc29] at hf
                refine lv_iload hx hb dL_areRanks_113 (lv_at hl 3 rfl) ?_
                refine lv_iload hx hb dL_areRanks_115 (lv_at hl 2 rfl) ?_
                refine k_icmp_ge (tgt := 124) hx hb hv11 hv13 dL_areRanks_117 (by decide) (fun hc30 => ?_) (fun hc30 => ?_)
                · rw [if_neg hc30] at hf
                  refine k_const hx hb dL_areRanks_124 ?_
                  exact J25 (z.2) (0) hf hz3 (show inR (0) by decide) _ _ _ hW hS (lv_sub hl [4, 5, 7] rfl)
                · rw [if_pos hc30] at hf
                  refine k_const hx hb dL_areRanks_120 ?_
                  refine lv_goto (tgt := 125) hx hb dL_areRanks_121 (by decide) ?_
                  exact J25 (z.2) (1) hf hz3 (show inR (1) by decide) _ _ _ hW hS (lv_sub hl [4, 5, 7] rfl)
  have L55 : ∀ (x1 : Int) (hx1 : inR x1) (x3 : Int) (hx3 : inR x3), ∀ (z : (Int × Int)) (q : (Int)), loopN (fL_areRanks_l140 M0 x1 x3) 200 z = some q → (inR (q) → ∀ (H : Heap) (locs : List Loc) (ls : Array Slot), Wd G (M0) s H → va_S (PA G) s.heap H locs → lv_has ls 8 [(0, .ref (gA G (0))), (1, .int (i3 (x1))), (2, .int (i3 (q)))] → W p l e ({ frames := 5, cells := 0, slots := 0, locals := 109 } : Room) s m args below meth c H locs 0 0 (MQ below (QcZ G M0 r) args s 0 0 (PA G)) (F0 m 215 ls [])) → (inR (z.1) → inR (z.2) → ∀ (H : Heap) (locs : List Loc) (ls : Array Slot), Wd G (M0) s H → va_S (PA G) s.heap H locs → lv_has ls 8 [(0, .ref (gA G (0))), (1, .int (i3 (x1))), (2, .int (i3 (z.1))), (3, .int (i3 (x3))), (4, .int (i3 (z.2)))] → W p l e ({ frames := 5, cells := 0, slots := 0, locals := 109 } : Room) s m args below meth c H locs 0 0 (MQ below (QcZ G M0 r) args s 0 0 (PA G)) (F0 m 140 ls [])) := by
    intro x1 hx1 x3 hx3 z q hq hex
    refine loop_rule (fL_areRanks_l140 M0 x1 x3) (fun z => inR (z.1) → inR (z.2) → ∀ (H : Heap) (locs : List Loc) (ls : Array Slot), Wd G (M0) s H → va_S (PA G) s.heap H locs → lv_has ls 8 [(0, .ref (gA G (0))), (1, .int (i3 (x1))), (2, .int (i3 (z.1))), (3, .int (i3 (x3))), (4, .int (i3 (z.2)))] → W p l e ({ frames := 5, cells := 0, slots := 0, locals := 109 } : Room) s m args below meth c H locs 0 0 (MQ below (QcZ G M0 r) args s 0 0 (PA G)) (F0 m 140 ls [])) (fun q => (inR (q) → ∀ (H : Heap) (locs : List Loc) (ls : Array Slot), Wd G (M0) s H → va_S (PA G) s.heap H locs → lv_has ls 8 [(0, .ref (gA G (0))), (1, .int (i3 (x1))), (2, .int (i3 (q)))] → W p l e ({ frames := 5, cells := 0, slots := 0, locals := 109 } : Room) s m args below meth c H locs 0 0 (MQ below (QcZ G M0 r) args s 0 0 (PA G)) (F0 m 215 ls []))) ?_ 200 z q hq hex
    clear hq hex q z
    intro z x hf hK hz2 hz4 H locs ls hW hS hl
    have J46 : ∀ (x4 : Int) (t0 : Int), fL_areRanks_j208 M0 x1 x3 x4 t0 = some x → inR x4 → inR t0 →  ∀ (H : Heap) (locs : List Loc) (ls : Array Slot), Wd G M0 s H → va_S (PA G) s.heap H locs → lv_has ls 8 [(0, .ref (gA G (0))), (1, .int (i3 (x1))), (3, .int (i3 (x3))), (4, .int (i3 (x4)))] → W p l e ({ frames := 5, cells := 0, slots := 0, locals := 109 } : Room) s m args below meth c H locs 0 0 (MQ below (QcZ G M0 r) args s 0 0 (PA G)) (F0 m 208 ls [.int (i3 (t0))]) := by
      intro x4 t0 hf hx4 ht0 H locs ls hW hS hl
      unfold fL_areRanks_j208 at hf
      refine lv_istore_n (lv' := [(2, .int (i3 (t0))), (0, .ref (gA G (0))), (1, .int (i3 (x1))), (3, .int (i3 (x3))), (4, .int (i3 (x4)))]) hx hb dL_areRanks_208 rfl hl (by decide) rfl (fun ls hl => ?_)
      obtain ⟨hg47, hf⟩ := gd_el hf
      refine k_iinc (lv' := [(4, .int (i3 (x4 + 1))), (2, .int (i3 (t0))), (0, .ref (gA G (0))), (1, .int (i3 (x1))), (3, .int (i3 (x3)))]) hx hb dL_areRanks_209 hl (k := 4) rfl (by decide) rfl (fun ls hl => ?_)
      refine lv_goto (tgt := 140) hx hb dL_areRanks_212 (by decide) ?_
      obtain rfl := some_el hf
      exact hK ht0 hg47 _ _ _ hW hS (lv_sub hl [2, 3, 1, 4, 0] rfl)
    unfold fL_areRanks_l140 at hf
    refine lv_iload_n hx hb dL_areRanks_140 rfl (lv_at hl 2 rfl) ?_
    refine k_if_eq (tgt := 215) hx hb hz2 dL_areRanks_141 (by decide) (fun hc36 => ?_) (fun hc36 => ?_)
    · rw [if_pos hc36] at hf
      obtain rfl := some_el hf
      exact hK hz2 _ _ _ hW hS (lv_sub hl [0, 1, 2] rfl)
    · rw [if_neg hc36] at hf
      refine lv_iload hx hb dL_areRanks_144 (lv_at hl 4 rfl) ?_
      refine k_bipush hx hb dL_areRanks_146 (by decide +kernel) ?_
      refine k_icmp_ge (tgt := 215) hx hb hz4 (show inR (33) by decide) dL_areRanks_148 (by decide) (fun hc37 => ?_) (fun hc37 => ?_)
      · rw [if_neg hc37] at hf
        obtain rfl := some_el hf
        exact hK hz2 _ _ _ hW hS (lv_sub hl [0, 1, 2] rfl)
      · rw [if_pos hc37] at hf
        refine lv_aload_n hx hb dL_areRanks_151 rfl (lv_at hl 0 rfl) ?_
        refine lv_iload hx hb dL_areRanks_152 (lv_at hl 4 rfl) ?_
        refine k_const hx hb dL_areRanks_154 ?_
        obtain ⟨q38, hq38, hf⟩ := bind_el hf
        refine k_cVi (As := [.int (i3 (z.2)), .int (i3 (2))]) (rest := []) ⟨hx, hb, hml, hown, hts⟩ (mG_rungOf l G M0 z.2 hz4 2 (show inR (2) by decide) q38 hq38) (cwV 2 hts (gbV (inB_10 _ (List.mem_of_getElem? (i := 9) rfl)) (inB_10 _ (List.mem_of_getElem? (i := 10) rfl)) (inB_10 _ (List.mem_of_getElem? (i := 11) rfl)) (inB_1 _ (List.mem_of_getElem? (i := 2) rfl)) (inB_10 _ (List.mem_of_getElem? (i := 12) rfl))) rfl rfl rfl (by decide +kernel) ⟨Nat.le_of_ble_eq_true rfl, Nat.le_of_ble_eq_true rfl⟩) (rv_G hW) hW hS rfl hl.1 rfl (lv_room (Nat.le_of_ble_eq_true rfl)) dL_areRanks_155 ⟨Nat.zero_le _, Nat.zero_le _⟩ (fun hv39 H locs hW hS => ?_)
        refine lv_aload_n hx hb dL_areRanks_158 rfl (lv_at hl 0 rfl) ?_
        refine lv_iload hx hb dL_areRanks_159 (lv_at hl 4 rfl) ?_
        refine k_const hx hb dL_areRanks_161 ?_
        obtain ⟨q40, hq40, hf⟩ := bind_el hf
        refine k_cVi (As := [.int (i3 (z.2)), .int (i3 (1))]) (rest := [.int (i3 (q38))]) ⟨hx, hb, hml, hown, hts⟩ (mG_rungOf l G M0 z.2 hz4 1 (show inR (1) by decide) q40 hq40) (cwV 2 hts (gbV (inB_10 _ (List.mem_of_getElem? (i := 9) rfl)) (inB_10 _ (List.mem_of_getElem? (i := 10) rfl)) (inB_10 _ (List.mem_of_getElem? (i := 11) rfl)) (inB_1 _ (List.mem_of_getElem? (i := 2) rfl)) (inB_10 _ (List.mem_of_getElem? (i := 12) rfl))) rfl rfl rfl (by decide +kernel) ⟨Nat.le_of_ble_eq_true rfl, Nat.le_of_ble_eq_true rfl⟩) (rv_G hW) hW hS rfl hl.1 rfl (lv_room (Nat.le_of_ble_eq_true rfl)) dL_areRanks_162 ⟨Nat.zero_le _, Nat.zero_le _⟩ (fun hv41 H locs hW hS => ?_)
        refine k_sub hx hb dL_areRanks_165 ?_
        obtain ⟨hg42, hf⟩ := gd_el hf
        refine lv_istore (lv' := [(5, .int (i3 (q38 - q40))), (0, .ref (gA G (0))), (1, .int (i3 (x1))), (2, .int (i3 (z.1))), (3, .int (i3 (x3))), (4, .int (i3 (z.2)))]) hx hb dL_areRanks_166 hl (by decide) rfl (fun ls hl => ?_)
        refine lv_aload_n hx hb dL_areRanks_168 rfl (lv_at hl 1 rfl) ?_
        refine lv_iload hx hb dL_areRanks_169 (lv_at hl 5 rfl) ?_
        refine k_const hx hb dL_areRanks_171 ?_
        obtain ⟨q43, hq43, hf⟩ := bind_el hf
        refine k_cVi (As := [.int (i3 (z.2)), .int (i3 (3))]) (rest := []) ⟨hx, hb, hml, hown, hts⟩ (mG_rungOf l G M0 z.2 hz4 3 (show inR (3) by decide) q43 hq43) (cwV 2 hts (gbV (inB_10 _ (List.mem_of_getElem? (i := 9) rfl)) (inB_10 _ (List.mem_of_getElem? (i := 10) rfl)) (inB_10 _ (List.mem_of_getElem? (i := 11) rfl)) (inB_1 _ (List.mem_of_getElem? (i := 2) rfl)) (inB_10 _ (List.mem_of_getElem? (i := 12) rfl))) rfl rfl rfl (by decide +kernel) ⟨Nat.le_of_ble_eq_true rfl, Nat.le_of_ble_eq_true rfl⟩) (rv_G hW) hW hS rfl hl.1 rfl (lv_room (Nat.le_of_ble_eq_true rfl)) dL_areRanks_172 ⟨Nat.zero_le _, Nat.zero_le _⟩ (fun hv44 H locs hW hS => ?_)
        refine k_const hx hb dL_areRanks_175 ?_
        refine k_icmp_eq (tgt := 203) hx hb hv44 (show inR (1) by decide) dL_areRanks_176 (by decide) (fun hc45 => ?_) (fun hc45 => ?_)
        · rw [if_pos hc45] at hf
          refine k_const hx hb dL_areRanks_203 ?_
          refine lv_goto (tgt := 208) hx hb dL_areRanks_204 (by decide) ?_
          exact J46 (z.2) (1) hf hz4 (show inR (1) by decide) _ _ _ hW hS (lv_sub hl [1, 2, 4, 5] rfl)
        · rw [if_neg hc45] at hf
          refine lv_iload_n hx hb dL_areRanks_179 rfl (lv_at hl 4 rfl) ?_
          refine k_bipush hx hb dL_areRanks_180 (by decide +kernel) ?_
          refine k_icmp_eq (tgt := 207) hx hb hx3 (show inR (-15) by decide) dL_areRanks_182 (by decide) (fun hc48 => ?_) (fun hc48 => ?_)
          · rw [if_pos hc48] at hf
            refine k_const hx hb dL_areRanks_207 ?_
            exact J46 (z.2) (0) hf hz4 (show inR (0) by decide) _ _ _ hW hS (lv_sub hl [1, 2, 4, 5] rfl)
          · rw [if_neg hc48] at hf
            refine lv_iload hx hb dL_areRanks_185 (lv_at hl 0 rfl) ?_
            refine lv_aload_n hx hb dL_areRanks_187 rfl (lv_at hl 1 rfl) ?_
            refine lv_iload_n hx hb dL_areRanks_188 rfl (lv_at hl 4 rfl) ?_
            refine k_const hx hb dL_areRanks_189 ?_
            obtain ⟨q49, hq49, hf⟩ := bind_el hf
            refine k_cVi (As := [.int (i3 (x3)), .int (i3 (2))]) (rest := [.int (i3 (q38 - q40))]) ⟨hx, hb, hml, hown, hts⟩ (mG_rungOf l G M0 x3 hx3 2 (show inR (2) by decide) q49 hq49) (cwV 2 hts (gbV (inB_10 _ (List.mem_of_getElem? (i := 9) rfl)) (inB_10 _ (List.mem_of_getElem? (i := 10) rfl)) (inB_10 _ (List.mem_of_getElem? (i := 11) rfl)) (inB_1 _ (List.mem_of_getElem? (i := 2) rfl)) (inB_10 _ (List.mem_of_getElem? (i := 12) rfl))) rfl rfl rfl (by decide +kernel) ⟨Nat.le_of_ble_eq_true rfl, Nat.le_of_ble_eq_true rfl⟩) (rv_G hW) hW hS rfl hl.1 rfl (lv_room (Nat.le_of_ble_eq_true rfl)) dL_areRanks_190 ⟨Nat.zero_le _, Nat.zero_le _⟩ (fun hv50 H locs hW hS => ?_)
            refine lv_aload_n hx hb dL_areRanks_193 rfl (lv_at hl 1 rfl) ?_
            refine lv_iload_n hx hb dL_areRanks_194 rfl (lv_at hl 4 rfl) ?_
            refine k_const hx hb dL_areRanks_195 ?_
            obtain ⟨q51, hq51, hf⟩ := bind_el hf
            refine k_cVi (As := [.int (i3 (x3)), .int (i3 (1))]) (rest := [.int (i3 (q49)), .int (i3 (q38 - q40))]) ⟨hx, hb, hml, hown, hts⟩ (mG_rungOf l G M0 x3 hx3 1 (show inR (1) by decide) q51 hq51) (cwV 2 hts (gbV (inB_10 _ (List.mem_of_getElem? (i := 9) rfl)) (inB_10 _ (List.mem_of_getElem? (i := 10) rfl)) (inB_10 _ (List.mem_of_getElem? (i := 11) rfl)) (inB_1 _ (List.mem_of_getElem? (i := 2) rfl)) (inB_10 _ (List.mem_of_getElem? (i := 12) rfl))) rfl rfl rfl (by decide +kernel) ⟨Nat.le_of_ble_eq_true rfl, Nat.le_of_ble_eq_true rfl⟩) (rv_G hW) hW hS rfl hl.1 rfl (lv_room (Nat.le_of_ble_eq_true rfl)) dL_areRanks_196 ⟨Nat.zero_le _, Nat.zero_le _⟩ (fun hv52 H locs hW hS => ?_)
            refine k_sub hx hb dL_areRanks_199 ?_
            obtain ⟨hg53, hf⟩ := gd_el hf
            refine k_icmp_lt (tgt := 207) hx hb hg42 hg53 dL_areRanks_200 (by decide) (fun hc54 => ?_) (fun hc54 => ?_)
            · rw [if_pos hc54] at hf
              refine k_const hx hb dL_areRanks_207 ?_
              exact J46 (z.2) (0) hf hz4 (show inR (0) by decide) _ _ _ hW hS (lv_sub hl [1, 2, 4, 5] rfl)
            · rw [if_neg hc54] at hf
              refine k_const hx hb dL_areRanks_203 ?_
              refine lv_goto (tgt := 208) hx hb dL_areRanks_204 (by decide) ?_
              exact J46 (z.2) (1) hf hz4 (show inR (1) by decide) _ _ _ hW hS (lv_sub hl [1, 2, 4, 5] rfl)
  have J64 : ∀ (t0 : Int) (t1 : Int), fL_areRanks_j242 M0 t0 t1 = some r → inR t0 → inR t1 →  ∀ (H : Heap) (locs : List Loc) (ls : Array Slot), Wd G M0 s H → va_S (PA G) s.heap H locs → lv_has ls 8 [(0, .ref (gA G (0)))] → W p l e ({ frames := 5, cells := 0, slots := 0, locals := 109 } : Room) s m args below meth c H locs 0 0 (MQ below (QcZ G M0 r) args s 0 0 (PA G)) (F0 m 242 ls [.int (i3 (t1)), .int (i3 (t0))]) := by
    intro t0 t1 hf ht0 ht1 H locs ls hW hS hl
    unfold fL_areRanks_j242 at hf
    refine k_icmp_ne (tgt := 270) hx hb ht0 ht1 dL_areRanks_242 (by decide) (fun hc65 => ?_) (fun hc65 => ?_)
    · rw [if_neg hc65] at hf
      refine k_const hx hb dL_areRanks_270 ?_
      obtain rfl := some_el hf
      exact k_retz hx hb hr hlocks hW hS rfl (show (0 : Int) = 0 ∨ (0 : Int) = 1 by decide) dL_areRanks_271
    · rw [if_pos hc65] at hf
      refine lv_aload_n hx hb dL_areRanks_245 rfl (lv_at hl 0 rfl) ?_
      obtain ⟨q66, hq66, hf⟩ := bind_el hf
      refine k_cVf (As := []) (rest := []) ⟨hx, hb, hml, hown, hts⟩ (mG_soundShare l G M0 q66 hq66) (cwV 0 hts (gbV (inB_22 _ (List.mem_of_getElem? (i := 0) rfl)) (inB_22 _ (List.mem_of_getElem? (i := 1) rfl)) (inB_22 _ (List.mem_of_getElem? (i := 2) rfl)) (inB_1 _ (List.mem_of_getElem? (i := 2) rfl)) (inB_22 _ (List.mem_of_getElem? (i := 3) rfl))) rfl rfl rfl (by decide +kernel) ⟨Nat.le_of_ble_eq_true rfl, Nat.le_of_ble_eq_true rfl⟩) (rv_G hW) hW hS rfl hl.1 rfl (lv_room (Nat.le_of_ble_eq_true rfl)) dL_areRanks_246 ⟨Nat.zero_le _, Nat.zero_le _⟩ (fun H locs hW hS => ?_)
      refine k_bipush hx hb dL_areRanks_249 (by decide +kernel) ?_
      refine lv_aload_n hx hb dL_areRanks_251 rfl (lv_at hl 0 rfl) ?_
      refine k_bipush hx hb dL_areRanks_252 (by decide +kernel) ?_
      obtain ⟨q68, hq68, hf⟩ := bind_el hf
      refine k_cVi (As := [.int (i3 (13))]) (rest := [.int (i3 (32)), .float (q66)]) ⟨hx, hb, hml, hown, hts⟩ (mG_account l G M0 13 (show inR (13) by decide) q68 hq68) (cwV 1 hts (gbV (inB_8 _ (List.mem_of_getElem? (i := 2) rfl)) (inB_8 _ (List.mem_of_getElem? (i := 3) rfl)) (inB_8 _ (List.mem_of_getElem? (i := 4) rfl)) (inB_1 _ (List.mem_of_getElem? (i := 2) rfl)) (inB_8 _ (List.mem_of_getElem? (i := 5) rfl))) rfl rfl rfl (by decide +kernel) ⟨Nat.le_of_ble_eq_true rfl, Nat.le_of_ble_eq_true rfl⟩) (rv_G hW) hW hS rfl hl.1 rfl (lv_room (Nat.le_of_ble_eq_true rfl)) dL_areRanks_254 ⟨Nat.zero_le _, Nat.zero_le _⟩ (fun hv69 H locs hW hS => ?_)
      refine k_sub hx hb dL_areRanks_257 ?_
      refine lv_i2f hx hb dL_areRanks_258 ?_
      refine lv_ldcf (v := 1107296256) hx hb hown (hts _ (List.mem_cons_of_mem _ (inB_20 _ (List.mem_of_getElem? (i := 23) rfl)))) dL_areRanks_259 ?_
      obtain ⟨hg70, hf⟩ := gff_el hf
      refine lv_fdiv hx hb dL_areRanks_261 hg70 ?_
      refine k_fcmp hx hb dL_areRanks_262 ?_
      refine k_if_ne (tgt := 270) hx hb (inR_toInt _) dL_areRanks_263 (by decide) (fun hc71 => ?_) (fun hc71 => ?_)
      · rw [if_neg hc71] at hf
        refine k_const hx hb dL_areRanks_270 ?_
        obtain rfl := some_el hf
        exact k_retz hx hb hr hlocks hW hS rfl (show (0 : Int) = 0 ∨ (0 : Int) = 1 by decide) dL_areRanks_271
      · rw [if_pos hc71] at hf
        refine k_const hx hb dL_areRanks_266 ?_
        refine lv_goto (tgt := 271) hx hb dL_areRanks_267 (by decide) ?_
        obtain rfl := some_el hf
        exact k_retz hx hb hr hlocks hW hS rfl (show (1 : Int) = 0 ∨ (1 : Int) = 1 by decide) dL_areRanks_271
  have J60 : ∀ (t0 : Int), fL_areRanks_j228 M0 t0 = some r → inR t0 →  ∀ (H : Heap) (locs : List Loc) (ls : Array Slot), Wd G M0 s H → va_S (PA G) s.heap H locs → lv_has ls 8 [(0, .ref (gA G (0)))] → W p l e ({ frames := 5, cells := 0, slots := 0, locals := 109 } : Room) s m args below meth c H locs 0 0 (MQ below (QcZ G M0 r) args s 0 0 (PA G)) (F0 m 228 ls [.int (i3 (t0))]) := by
    intro t0 hf ht0 H locs ls hW hS hl
    unfold fL_areRanks_j228 at hf
    refine lv_aload_n hx hb dL_areRanks_228 rfl (lv_at hl 0 rfl) ?_
    obtain ⟨q61, hq61, hf⟩ := bind_el hf
    refine k_cVi (As := []) (rest := [.int (i3 (t0))]) ⟨hx, hb, hml, hown, hts⟩ (mG_commonAge l G M0 q61 hq61) (cwV 0 hts (gbV (inB_21 _ (List.mem_of_getElem? (i := 16) rfl)) (inB_21 _ (List.mem_of_getElem? (i := 17) rfl)) (inB_21 _ (List.mem_of_getElem? (i := 18) rfl)) (inB_1 _ (List.mem_of_getElem? (i := 2) rfl)) (inB_21 _ (List.mem_of_getElem? (i := 19) rfl))) rfl rfl rfl (by decide +kernel) ⟨Nat.le_of_ble_eq_true rfl, Nat.le_of_ble_eq_true rfl⟩) (rv_G hW) hW hS rfl hl.1 rfl (lv_room (Nat.le_of_ble_eq_true rfl)) dL_areRanks_229 ⟨Nat.zero_le _, Nat.zero_le _⟩ (fun hv62 H locs hW hS => ?_)
    refine k_bipush hx hb dL_areRanks_232 (by decide +kernel) ?_
    refine k_icmp_ne (tgt := 241) hx hb hv62 (show inR (-15) by decide) dL_areRanks_234 (by decide) (fun hc63 => ?_) (fun hc63 => ?_)
    · rw [if_neg hc63] at hf
      refine k_const hx hb dL_areRanks_241 ?_
      exact J64 (t0) (0) hf ht0 (show inR (0) by decide) _ _ _ hW hS (lv_sub hl [0] rfl)
    · rw [if_pos hc63] at hf
      refine k_const hx hb dL_areRanks_237 ?_
      refine lv_goto (tgt := 242) hx hb dL_areRanks_238 (by decide) ?_
      exact J64 (t0) (1) hf ht0 (show inR (1) by decide) _ _ _ hW hS (lv_sub hl [0] rfl)
  have J6 : ∀ (x1 : Int) (t0 : Int), fL_areRanks_j31 M0 x1 t0 = some r → inR x1 → inR t0 →  ∀ (H : Heap) (locs : List Loc) (ls : Array Slot), Wd G M0 s H → va_S (PA G) s.heap H locs → lv_has ls 8 [(0, .ref (gA G (0))), (1, .int (i3 (x1)))] → W p l e ({ frames := 5, cells := 0, slots := 0, locals := 109 } : Room) s m args below meth c H locs 0 0 (MQ below (QcZ G M0 r) args s 0 0 (PA G)) (F0 m 31 ls [.int (i3 (t0))]) := by
    intro x1 t0 hf hx1 ht0 H locs ls hW hS hl
    unfold fL_areRanks_j31 at hf
    refine lv_istore_n (lv' := [(2, .int (i3 (t0))), (0, .ref (gA G (0))), (1, .int (i3 (x1)))]) hx hb dL_areRanks_31 rfl hl (by decide) rfl (fun ls hl => ?_)
    refine k_const hx hb dL_areRanks_32 ?_
    refine lv_istore_n (lv' := [(3, .int (i3 (1))), (2, .int (i3 (t0))), (0, .ref (gA G (0))), (1, .int (i3 (x1)))]) hx hb dL_areRanks_33 rfl hl (by decide) rfl (fun ls hl => ?_)
    obtain ⟨q32, hq32, hf⟩ := bind_el hf
    refine L31 (x1) hx1 (t0, 1) q32 hq32 ?_ ht0 (show inR (1) by decide) _ _ _ hW hS (lv_sub hl [2, 3, 1, 0] rfl)
    intro hv33 H locs ls hW hS hl
    refine lv_aload_n hx hb dL_areRanks_132 rfl (lv_at hl 0 rfl) ?_
    obtain ⟨q34, hq34, hf⟩ := bind_el hf
    refine k_cVi (As := []) (rest := []) ⟨hx, hb, hml, hown, hts⟩ (mG_tightest l G M0 q34 hq34) (cwV 0 hts (gbV (inB_21 _ (List.mem_of_getElem? (i := 12) rfl)) (inB_21 _ (List.mem_of_getElem? (i := 13) rfl)) (inB_21 _ (List.mem_of_getElem? (i := 14) rfl)) (inB_1 _ (List.mem_of_getElem? (i := 2) rfl)) (inB_21 _ (List.mem_of_getElem? (i := 15) rfl))) rfl rfl rfl (by decide +kernel) ⟨Nat.le_of_ble_eq_true rfl, Nat.le_of_ble_eq_true rfl⟩) (rv_G hW) hW hS rfl hl.1 rfl (lv_room (Nat.le_of_ble_eq_true rfl)) dL_areRanks_133 ⟨Nat.zero_le _, Nat.zero_le _⟩ (fun hv35 H locs hW hS => ?_)
    refine lv_istore_n (lv' := [(3, .int (i3 (q34))), (0, .ref (gA G (0))), (1, .int (i3 (x1))), (2, .int (i3 (q32)))]) hx hb dL_areRanks_136 rfl hl (by decide) rfl (fun ls hl => ?_)
    refine k_const hx hb dL_areRanks_137 ?_
    refine lv_istore (lv' := [(4, .int (i3 (1))), (3, .int (i3 (q34))), (0, .ref (gA G (0))), (1, .int (i3 (x1))), (2, .int (i3 (q32)))]) hx hb dL_areRanks_138 hl (by decide) rfl (fun ls hl => ?_)
    obtain ⟨q56, hq56, hf⟩ := bind_el hf
    refine L55 (x1) hx1 (q34) hv35 (q32, 1) q56 hq56 ?_ hv33 (show inR (1) by decide) _ _ _ hW hS (lv_sub hl [2, 3, 4, 1, 0] rfl)
    intro hv57 H locs ls hW hS hl
    refine lv_iload_n hx hb dL_areRanks_215 rfl (lv_at hl 2 rfl) ?_
    refine k_if_eq (tgt := 270) hx hb hv57 dL_areRanks_216 (by decide) (fun hc58 => ?_) (fun hc58 => ?_)
    · rw [if_pos hc58] at hf
      refine k_const hx hb dL_areRanks_270 ?_
      obtain rfl := some_el hf
      exact k_retz hx hb hr hlocks hW hS rfl (show (0 : Int) = 0 ∨ (0 : Int) = 1 by decide) dL_areRanks_271
    · rw [if_neg hc58] at hf
      refine lv_iload_n hx hb dL_areRanks_219 rfl (lv_at hl 1 rfl) ?_
      refine k_if_ne (tgt := 227) hx hb hx1 dL_areRanks_220 (by decide) (fun hc59 => ?_) (fun hc59 => ?_)
      · rw [if_neg hc59] at hf
        refine k_const hx hb dL_areRanks_227 ?_
        exact J60 (0) hf (show inR (0) by decide) _ _ _ hW hS (lv_sub hl [0] rfl)
      · rw [if_pos hc59] at hf
        refine k_const hx hb dL_areRanks_223 ?_
        refine lv_goto (tgt := 228) hx hb dL_areRanks_224 (by decide) ?_
        exact J60 (1) hf (show inR (1) by decide) _ _ _ hW hS (lv_sub hl [0] rfl)
  refine lv_aload_n hx hb dL_areRanks_0 rfl (lv_at hl 0 rfl) ?_
  refine k_const hx hb dL_areRanks_1 ?_
  obtain ⟨q1, hq1, hf⟩ := bind_el hf
  refine k_cVi (As := [.int (i3 (2))]) (rest := []) ⟨hx, hb, hml, hown, hts⟩ (mG_account l G M0 2 (show inR (2) by decide) q1 hq1) (cwV 1 hts (gbV (inB_8 _ (List.mem_of_getElem? (i := 2) rfl)) (inB_8 _ (List.mem_of_getElem? (i := 3) rfl)) (inB_8 _ (List.mem_of_getElem? (i := 4) rfl)) (inB_1 _ (List.mem_of_getElem? (i := 2) rfl)) (inB_8 _ (List.mem_of_getElem? (i := 5) rfl))) rfl rfl rfl (by decide +kernel) ⟨Nat.le_of_ble_eq_true rfl, Nat.le_of_ble_eq_true rfl⟩) (rv_G hW) hW hS rfl hl.1 rfl (lv_room (Nat.le_of_ble_eq_true rfl)) dL_areRanks_2 ⟨Nat.zero_le _, Nat.zero_le _⟩ (fun hv2 H locs hW hS => ?_)
  refine lv_istore_n (lv' := [(1, .int (i3 (q1))), (0, .ref (gA G (0)))]) hx hb dL_areRanks_5 rfl hl (by decide) rfl (fun ls hl => ?_)
  refine lv_aload_n hx hb dL_areRanks_6 rfl (lv_at hl 1 rfl) ?_
  refine lv_iload_n hx hb dL_areRanks_7 rfl (lv_at hl 0 rfl) ?_
  obtain ⟨q3, hq3, hf⟩ := bind_el hf
  refine k_cVi (As := [.int (i3 (q1))]) (rest := []) ⟨hx, hb, hml, hown, hts⟩ (mG_oldest l G M0 q1 hv2 q3 hq3) (cwV 1 hts (gbV (inB_21 _ (List.mem_of_getElem? (i := 0) rfl)) (inB_21 _ (List.mem_of_getElem? (i := 1) rfl)) (inB_21 _ (List.mem_of_getElem? (i := 2) rfl)) (inB_1 _ (List.mem_of_getElem? (i := 2) rfl)) (inB_21 _ (List.mem_of_getElem? (i := 3) rfl))) rfl rfl rfl (by decide +kernel) ⟨Nat.le_of_ble_eq_true rfl, Nat.le_of_ble_eq_true rfl⟩) (rv_G hW) hW hS rfl hl.1 rfl (lv_room (Nat.le_of_ble_eq_true rfl)) dL_areRanks_8 ⟨Nat.zero_le _, Nat.zero_le _⟩ (fun hv4 H locs hW hS => ?_)
  refine k_bipush hx hb dL_areRanks_11 (by decide +kernel) ?_
  refine k_icmp_ne (tgt := 30) hx hb hv4 (show inR (-11) by decide) dL_areRanks_13 (by decide) (fun hc5 => ?_) (fun hc5 => ?_)
  · rw [if_neg hc5] at hf
    refine k_const hx hb dL_areRanks_30 ?_
    exact J6 (q1) (0) hf hv2 (show inR (0) by decide) _ _ _ hW hS (lv_sub hl [1, 0] rfl)
  · rw [if_pos hc5] at hf
    refine lv_aload_n hx hb dL_areRanks_16 rfl (lv_at hl 1 rfl) ?_
    refine k_const hx hb dL_areRanks_17 ?_
    obtain ⟨q72, hq72, hf⟩ := bind_el hf
    refine k_cVi (As := [.int (i3 ((-1)))]) (rest := []) ⟨hx, hb, hml, hown, hts⟩ (mG_oldest l G M0 ((-1)) (show inR (-1) by decide) q72 hq72) (cwV 1 hts (gbV (inB_21 _ (List.mem_of_getElem? (i := 0) rfl)) (inB_21 _ (List.mem_of_getElem? (i := 1) rfl)) (inB_21 _ (List.mem_of_getElem? (i := 2) rfl)) (inB_1 _ (List.mem_of_getElem? (i := 2) rfl)) (inB_21 _ (List.mem_of_getElem? (i := 3) rfl))) rfl rfl rfl (by decide +kernel) ⟨Nat.le_of_ble_eq_true rfl, Nat.le_of_ble_eq_true rfl⟩) (rv_G hW) hW hS rfl hl.1 rfl (lv_room (Nat.le_of_ble_eq_true rfl)) dL_areRanks_18 ⟨Nat.zero_le _, Nat.zero_le _⟩ (fun hv73 H locs hW hS => ?_)
    refine k_bipush hx hb dL_areRanks_21 (by decide +kernel) ?_
    refine k_icmp_ne (tgt := 30) hx hb hv73 (show inR (-11) by decide) dL_areRanks_23 (by decide) (fun hc74 => ?_) (fun hc74 => ?_)
    · rw [if_neg hc74] at hf
      refine k_const hx hb dL_areRanks_30 ?_
      exact J6 (q1) (0) hf hv2 (show inR (0) by decide) _ _ _ hW hS (lv_sub hl [1, 0] rfl)
    · rw [if_pos hc74] at hf
      refine k_const hx hb dL_areRanks_26 ?_
      refine lv_goto (tgt := 31) hx hb dL_areRanks_27 (by decide) ?_
      exact J6 (q1) (1) hf hv2 (show inR (1) by decide) _ _ _ hW hS (lv_sub hl [1, 0] rfl)
set_option maxHeartbeats 4000000 in
set_option maxRecDepth 100000 in
theorem mL_areReached (l : Launch) (G : gG) (M0 : MemG)  (r : Int) (hf : fL_areReached M0 = some r) : Met l yL_areReached (wb yL_areReached cL_areReached 6 (some .boolean)) ({ frames := 5, cells := 0, slots := 0, locals := 107 } : Room) (PcG G M0 [.ref (gA G (0))]) (QcZ G M0 r) 0 0 (PA G) := by
  refine Met.ofW (cc := cL_areReached) (maxL := 6) (ret := (some .boolean)) (by decide) rfl ?_
  intro p e s m args below meth c s₁ B hml hv0
  obtain ⟨hav, hW⟩ := hv0
  have hx := B.exec
  have hb := B.bytes
  have hr := B.returns
  have hts := atoms_spec (ws := (wb yL_areReached cL_areReached 6 (some .boolean))) B.pre
  have hown : s.vm.findClass RL = some m.cls := findClass_of_methodNamed B.named
  have hlocks := B.notSynchronized
  have hW : Wd G M0 s s.heap := hW
  have hS : va_S (PA G) s.heap s.heap [] := va_S.rf
  have hl := lv_entry [.ref (gA G (0))] (n := 6) (Nat.le_of_ble_eq_true rfl)
  have hent := lg_entry_eq m [.ref (gA G (0))] 6
  rw [← hav] at hent
  rw [hent]
  clear hent
  generalize (lg_sl [.ref (gA G (0))] ++ List.replicate (6 - (lg_sl [.ref (gA G (0))]).length) Slot.unset).toArray = ls at hl ⊢
  have hl : lv_has ls 6 [(0, .ref (gA G (0)))] := hl
  unfold fL_areReached at hf
  show W p l e ({ frames := 5, cells := 0, slots := 0, locals := 107 } : Room) s m args below meth c s.heap [] 0 0 (MQ below (QcZ G M0 r) args s 0 0 (PA G)) (F0 m 0 ls [])
  have L32 : ∀ (x1 : Int) (hx1 : inR x1), ∀ (z : (Int × Int)) (q : (Int)), loopN (fL_areReached_l38 M0 x1) 200 z = some q → (q = r) → (inR (z.1) → inR (z.2) → ∀ (H : Heap) (locs : List Loc) (ls : Array Slot), Wd G (M0) s H → va_S (PA G) s.heap H locs → lv_has ls 6 [(0, .ref (gA G (0))), (1, .int (i3 (x1))), (2, .int (i3 (z.1))), (3, .int (i3 (z.2)))] → W p l e ({ frames := 5, cells := 0, slots := 0, locals := 107 } : Room) s m args below meth c H locs 0 0 (MQ below (QcZ G M0 r) args s 0 0 (PA G)) (F0 m 38 ls [])) := by
    intro x1 hx1 z q hq hex
    refine loop_rule (fL_areReached_l38 M0 x1) (fun z => inR (z.1) → inR (z.2) → ∀ (H : Heap) (locs : List Loc) (ls : Array Slot), Wd G (M0) s H → va_S (PA G) s.heap H locs → lv_has ls 6 [(0, .ref (gA G (0))), (1, .int (i3 (x1))), (2, .int (i3 (z.1))), (3, .int (i3 (z.2)))] → W p l e ({ frames := 5, cells := 0, slots := 0, locals := 107 } : Room) s m args below meth c H locs 0 0 (MQ below (QcZ G M0 r) args s 0 0 (PA G)) (F0 m 38 ls [])) (fun q => (q = r)) ?_ 200 z q hq hex
    clear hq hex q z
    intro z x hf hK hz2 hz3 H locs ls hW hS hl
    have J22 : ∀ (x3 : Int) (t0 : Int), fL_areReached_j119 M0 x1 x3 t0 = some x → inR x3 → inR t0 →  ∀ (H : Heap) (locs : List Loc) (ls : Array Slot), Wd G M0 s H → va_S (PA G) s.heap H locs → lv_has ls 6 [(0, .ref (gA G (0))), (1, .int (i3 (x1))), (3, .int (i3 (x3)))] → W p l e ({ frames := 5, cells := 0, slots := 0, locals := 107 } : Room) s m args below meth c H locs 0 0 (MQ below (QcZ G M0 r) args s 0 0 (PA G)) (F0 m 119 ls [.int (i3 (t0))]) := by
      intro x3 t0 hf hx3 ht0 H locs ls hW hS hl
      unfold fL_areReached_j119 at hf
      refine lv_istore_n (lv' := [(2, .int (i3 (t0))), (0, .ref (gA G (0))), (1, .int (i3 (x1))), (3, .int (i3 (x3)))]) hx hb dL_areReached_119 rfl hl (by decide) rfl (fun ls hl => ?_)
      obtain ⟨hg23, hf⟩ := gd_el hf
      refine k_iinc (lv' := [(3, .int (i3 (x3 + 1))), (2, .int (i3 (t0))), (0, .ref (gA G (0))), (1, .int (i3 (x1)))]) hx hb dL_areReached_120 hl (k := 3) rfl (by decide) rfl (fun ls hl => ?_)
      refine lv_goto (tgt := 38) hx hb dL_areReached_123 (by decide) ?_
      obtain rfl := some_el hf
      exact hK ht0 hg23 _ _ _ hW hS (lv_sub hl [2, 3, 1, 0] rfl)
    unfold fL_areReached_l38 at hf
    refine lv_iload_n hx hb dL_areReached_38 rfl (lv_at hl 2 rfl) ?_
    refine k_if_eq (tgt := 126) hx hb hz2 dL_areReached_39 (by decide) (fun hc8 => ?_) (fun hc8 => ?_)
    · rw [if_pos hc8] at hf
      refine lv_iload_n hx hb dL_areReached_126 rfl (lv_at hl 2 rfl) ?_
      obtain ⟨hg9, hf⟩ := gz_el hf
      obtain rfl := some_el hf
      obtain rfl : z.1 = r := hK
      exact k_retz hx hb hr hlocks hW hS rfl hg9 dL_areReached_127
    · rw [if_neg hc8] at hf
      refine lv_iload_n hx hb dL_areReached_42 rfl (lv_at hl 3 rfl) ?_
      refine k_bipush hx hb dL_areReached_43 (by decide +kernel) ?_
      refine k_icmp_ge (tgt := 126) hx hb hz3 (show inR (9) by decide) dL_areReached_45 (by decide) (fun hc10 => ?_) (fun hc10 => ?_)
      · rw [if_neg hc10] at hf
        refine lv_iload_n hx hb dL_areReached_126 rfl (lv_at hl 2 rfl) ?_
        obtain ⟨hg11, hf⟩ := gz_el hf
        obtain rfl := some_el hf
        obtain rfl : z.1 = r := hK
        exact k_retz hx hb hr hlocks hW hS rfl hg11 dL_areReached_127
      · rw [if_pos hc10] at hf
        refine lv_iload_n hx hb dL_areReached_48 rfl (lv_at hl 1 rfl) ?_
        refine k_if_le (tgt := 126) hx hb hx1 dL_areReached_49 (by decide) (fun hc12 => ?_) (fun hc12 => ?_)
        · rw [if_neg hc12] at hf
          refine lv_iload_n hx hb dL_areReached_126 rfl (lv_at hl 2 rfl) ?_
          obtain ⟨hg13, hf⟩ := gz_el hf
          obtain rfl := some_el hf
          obtain rfl : z.1 = r := hK
          exact k_retz hx hb hr hlocks hW hS rfl hg13 dL_areReached_127
        · rw [if_pos hc12] at hf
          refine k_const hx hb dL_areReached_52 ?_
          refine lv_iload_n hx hb dL_areReached_53 rfl (lv_at hl 1 rfl) ?_
          refine k_const hx hb dL_areReached_54 ?_
          refine k_sub hx hb dL_areReached_55 ?_
          refine lv_iload_n hx hb dL_areReached_56 rfl (lv_at hl 3 rfl) ?_
          refine k_mul hx hb dL_areReached_57 ?_
          refine k_bipush hx hb dL_areReached_58 (by decide +kernel) ?_
          obtain ⟨hg14, hf⟩ := gd_el hf
          obtain ⟨hg15, hf⟩ := gq_el hf
          refine k_div hx hb dL_areReached_60 hg14 (show inR (8) by decide) hg15 ?_
          refine k_add hx hb dL_areReached_61 ?_
          obtain ⟨hg16, hf⟩ := gd_el hf
          refine lv_istore (lv' := [(4, .int (i3 (1 + (((x1 - 1) * z.2) / 8)))), (0, .ref (gA G (0))), (1, .int (i3 (x1))), (2, .int (i3 (z.1))), (3, .int (i3 (z.2)))]) hx hb dL_areReached_62 hl (by decide) rfl (fun ls hl => ?_)
          refine lv_aload_n hx hb dL_areReached_64 rfl (lv_at hl 1 rfl) ?_
          refine lv_iload hx hb dL_areReached_65 (lv_at hl 0 rfl) ?_
          obtain ⟨q17, hq17, hf⟩ := bind_el hf
          refine k_cVi (As := [.int (i3 (1 + (((x1 - 1) * z.2) / 8)))]) (rest := []) ⟨hx, hb, hml, hown, hts⟩ (mG_reach l G M0 (1 + (((x1 - 1) * z.2) / 8)) hg16 q17 hq17) (cwV 1 hts (gbV (inB_22 _ (List.mem_of_getElem? (i := 8) rfl)) (inB_22 _ (List.mem_of_getElem? (i := 9) rfl)) (inB_22 _ (List.mem_of_getElem? (i := 10) rfl)) (inB_1 _ (List.mem_of_getElem? (i := 2) rfl)) (inB_22 _ (List.mem_of_getElem? (i := 11) rfl))) rfl rfl rfl (by decide +kernel) ⟨Nat.le_of_ble_eq_true rfl, Nat.le_of_ble_eq_true rfl⟩) (rv_G hW) hW hS rfl hl.1 rfl (lv_room (Nat.le_of_ble_eq_true rfl)) dL_areReached_67 ⟨Nat.zero_le _, Nat.zero_le _⟩ (fun hv18 H locs hW hS => ?_)
          refine lv_istore (lv' := [(5, .int (i3 (q17))), (4, .int (i3 (1 + (((x1 - 1) * z.2) / 8)))), (0, .ref (gA G (0))), (1, .int (i3 (x1))), (2, .int (i3 (z.1))), (3, .int (i3 (z.2)))]) hx hb dL_areReached_70 hl (by decide) rfl (fun ls hl => ?_)
          refine lv_iload hx hb dL_areReached_72 (lv_at hl 0 rfl) ?_
          refine lv_aload_n hx hb dL_areReached_74 rfl (lv_at hl 2 rfl) ?_
          refine lv_iload hx hb dL_areReached_75 (lv_at hl 1 rfl) ?_
          obtain ⟨q19, hq19, hf⟩ := bind_el hf
          refine k_cVi (As := [.int (i3 (1 + (((x1 - 1) * z.2) / 8)))]) (rest := [.int (i3 (q17))]) ⟨hx, hb, hml, hown, hts⟩ (mG_reachAgain l G M0 (1 + (((x1 - 1) * z.2) / 8)) hg16 q19 hq19) (cwV 1 hts (gbV (inB_22 _ (List.mem_of_getElem? (i := 12) rfl)) (inB_22 _ (List.mem_of_getElem? (i := 13) rfl)) (inB_22 _ (List.mem_of_getElem? (i := 14) rfl)) (inB_1 _ (List.mem_of_getElem? (i := 2) rfl)) (inB_22 _ (List.mem_of_getElem? (i := 15) rfl))) rfl rfl rfl (by decide +kernel) ⟨Nat.le_of_ble_eq_true rfl, Nat.le_of_ble_eq_true rfl⟩) (rv_G hW) hW hS rfl hl.1 rfl (lv_room (Nat.le_of_ble_eq_true rfl)) dL_areReached_77 ⟨Nat.zero_le _, Nat.zero_le _⟩ (fun hv20 H locs hW hS => ?_)
          refine k_icmp_ne (tgt := 118) hx hb hv18 hv20 dL_areReached_80 (by decide) (fun hc21 => ?_) (fun hc21 => ?_)
          · rw [if_neg hc21] at hf
            refine k_const hx hb dL_areReached_118 ?_
            exact J22 (z.2) (0) hf hz3 (show inR (0) by decide) _ _ _ hW hS (lv_sub hl [2, 3, 5] rfl)
          · rw [if_pos hc21] at hf
            refine lv_aload_n hx hb dL_areReached_83 rfl (lv_at hl 2 rfl) ?_
            refine k_const hx hb dL_areReached_84 ?_
            refine lv_iload hx hb dL_areReached_85 (lv_at hl 0 rfl) ?_
            obtain ⟨q24, hq24, hf⟩ := bind_el hf
            refine k_cVi (As := [.int (i3 (0)), .int (i3 (q17))]) (rest := []) ⟨hx, hb, hml, hown, hts⟩ (mG_sum l G M0 0 (show inR (0) by decide) q17 hv18 q24 hq24) (cwV 2 hts (gbV (inB_22 _ (List.mem_of_getElem? (i := 16) rfl)) (inB_22 _ (List.mem_of_getElem? (i := 17) rfl)) (inB_22 _ (List.mem_of_getElem? (i := 18) rfl)) (inB_1 _ (List.mem_of_getElem? (i := 2) rfl)) (inB_22 _ (List.mem_of_getElem? (i := 19) rfl))) rfl rfl rfl (by decide +kernel) ⟨Nat.le_of_ble_eq_true rfl, Nat.le_of_ble_eq_true rfl⟩) (rv_G hW) hW hS rfl hl.1 rfl (lv_room (Nat.le_of_ble_eq_true rfl)) dL_areReached_87 ⟨Nat.zero_le _, Nat.zero_le _⟩ (fun hv25 H locs hW hS => ?_)
            refine lv_iload hx hb dL_areReached_90 (lv_at hl 1 rfl) ?_
            refine k_icmp_lt (tgt := 118) hx hb hv25 hg16 dL_areReached_92 (by decide) (fun hc26 => ?_) (fun hc26 => ?_)
            · rw [if_pos hc26] at hf
              refine k_const hx hb dL_areReached_118 ?_
              exact J22 (z.2) (0) hf hz3 (show inR (0) by decide) _ _ _ hW hS (lv_sub hl [2, 3, 5] rfl)
            · rw [if_neg hc26] at hf
              refine lv_iload hx hb dL_areReached_95 (lv_at hl 0 rfl) ?_
              refine k_if_eq (tgt := 114) hx hb hv18 dL_areReached_97 (by decide) (fun hc27 => ?_) (fun hc27 => ?_)
              · rw [if_pos hc27] at hf
                refine k_const hx hb dL_areReached_114 ?_
                refine lv_goto (tgt := 119) hx hb dL_areReached_115 (by decide) ?_
                exact J22 (z.2) (1) hf hz3 (show inR (1) by decide) _ _ _ hW hS (lv_sub hl [2, 3, 5] rfl)
              · rw [if_neg hc27] at hf
                refine lv_aload_n hx hb dL_areReached_100 rfl (lv_at hl 2 rfl) ?_
                refine k_const hx hb dL_areReached_101 ?_
                refine lv_iload hx hb dL_areReached_102 (lv_at hl 0 rfl) ?_
                refine k_const hx hb dL_areReached_104 ?_
                refine k_sub hx hb dL_areReached_105 ?_
                obtain ⟨hg28, hf⟩ := gd_el hf
                obtain ⟨q29, hq29, hf⟩ := bind_el hf
                refine k_cVi (As := [.int (i3 (0)), .int (i3 (q17 - 1))]) (rest := []) ⟨hx, hb, hml, hown, hts⟩ (mG_sum l G M0 0 (show inR (0) by decide) (q17 - 1) hg28 q29 hq29) (cwV 2 hts (gbV (inB_22 _ (List.mem_of_getElem? (i := 16) rfl)) (inB_22 _ (List.mem_of_getElem? (i := 17) rfl)) (inB_22 _ (List.mem_of_getElem? (i := 18) rfl)) (inB_1 _ (List.mem_of_getElem? (i := 2) rfl)) (inB_22 _ (List.mem_of_getElem? (i := 19) rfl))) rfl rfl rfl (by decide +kernel) ⟨Nat.le_of_ble_eq_true rfl, Nat.le_of_ble_eq_true rfl⟩) (rv_G hW) hW hS rfl hl.1 rfl (lv_room (Nat.le_of_ble_eq_true rfl)) dL_areReached_106 ⟨Nat.zero_le _, Nat.zero_le _⟩ (fun hv30 H locs hW hS => ?_)
                refine lv_iload hx hb dL_areReached_109 (lv_at hl 1 rfl) ?_
                refine k_icmp_ge (tgt := 118) hx hb hv30 hg16 dL_areReached_111 (by decide) (fun hc31 => ?_) (fun hc31 => ?_)
                · rw [if_neg hc31] at hf
                  refine k_const hx hb dL_areReached_118 ?_
                  exact J22 (z.2) (0) hf hz3 (show inR (0) by decide) _ _ _ hW hS (lv_sub hl [2, 3, 5] rfl)
                · rw [if_pos hc31] at hf
                  refine k_const hx hb dL_areReached_114 ?_
                  refine lv_goto (tgt := 119) hx hb dL_areReached_115 (by decide) ?_
                  exact J22 (z.2) (1) hf hz3 (show inR (1) by decide) _ _ _ hW hS (lv_sub hl [2, 3, 5] rfl)
  have J7 : ∀ (x1 : Int) (t0 : Int), fL_areReached_j35 M0 x1 t0 = some r → inR x1 → inR t0 →  ∀ (H : Heap) (locs : List Loc) (ls : Array Slot), Wd G M0 s H → va_S (PA G) s.heap H locs → lv_has ls 6 [(0, .ref (gA G (0))), (1, .int (i3 (x1)))] → W p l e ({ frames := 5, cells := 0, slots := 0, locals := 107 } : Room) s m args below meth c H locs 0 0 (MQ below (QcZ G M0 r) args s 0 0 (PA G)) (F0 m 35 ls [.int (i3 (t0))]) := by
    intro x1 t0 hf hx1 ht0 H locs ls hW hS hl
    unfold fL_areReached_j35 at hf
    refine lv_istore_n (lv' := [(2, .int (i3 (t0))), (0, .ref (gA G (0))), (1, .int (i3 (x1)))]) hx hb dL_areReached_35 rfl hl (by decide) rfl (fun ls hl => ?_)
    refine k_const hx hb dL_areReached_36 ?_
    refine lv_istore_n (lv' := [(3, .int (i3 (1))), (2, .int (i3 (t0))), (0, .ref (gA G (0))), (1, .int (i3 (x1)))]) hx hb dL_areReached_37 rfl hl (by decide) rfl (fun ls hl => ?_)
    exact L32 (x1) hx1 (t0, 1) r hf rfl ht0 (show inR (1) by decide) _ _ _ hW hS (lv_sub hl [2, 3, 1, 0] rfl)
  refine lv_aload_n hx hb dL_areReached_0 rfl (lv_at hl 0 rfl) ?_
  refine k_const hx hb dL_areReached_1 ?_
  obtain ⟨q1, hq1, hf⟩ := bind_el hf
  refine k_cVi (As := [.int (i3 (3))]) (rest := []) ⟨hx, hb, hml, hown, hts⟩ (mG_account l G M0 3 (show inR (3) by decide) q1 hq1) (cwV 1 hts (gbV (inB_8 _ (List.mem_of_getElem? (i := 2) rfl)) (inB_8 _ (List.mem_of_getElem? (i := 3) rfl)) (inB_8 _ (List.mem_of_getElem? (i := 4) rfl)) (inB_1 _ (List.mem_of_getElem? (i := 2) rfl)) (inB_8 _ (List.mem_of_getElem? (i := 5) rfl))) rfl rfl rfl (by decide +kernel) ⟨Nat.le_of_ble_eq_true rfl, Nat.le_of_ble_eq_true rfl⟩) (rv_G hW) hW hS rfl hl.1 rfl (lv_room (Nat.le_of_ble_eq_true rfl)) dL_areReached_2 ⟨Nat.zero_le _, Nat.zero_le _⟩ (fun hv2 H locs hW hS => ?_)
  refine lv_istore_n (lv' := [(1, .int (i3 (q1))), (0, .ref (gA G (0)))]) hx hb dL_areReached_5 rfl hl (by decide) rfl (fun ls hl => ?_)
  refine lv_aload_n hx hb dL_areReached_6 rfl (lv_at hl 1 rfl) ?_
  refine lv_iload_n hx hb dL_areReached_7 rfl (lv_at hl 0 rfl) ?_
  refine k_const hx hb dL_areReached_8 ?_
  refine k_add hx hb dL_areReached_9 ?_
  obtain ⟨hg3, hf⟩ := gd_el hf
  obtain ⟨q4, hq4, hf⟩ := bind_el hf
  refine k_cVi (As := [.int (i3 (q1 + 1))]) (rest := []) ⟨hx, hb, hml, hown, hts⟩ (mG_reach l G M0 (q1 + 1) hg3 q4 hq4) (cwV 1 hts (gbV (inB_22 _ (List.mem_of_getElem? (i := 8) rfl)) (inB_22 _ (List.mem_of_getElem? (i := 9) rfl)) (inB_22 _ (List.mem_of_getElem? (i := 10) rfl)) (inB_1 _ (List.mem_of_getElem? (i := 2) rfl)) (inB_22 _ (List.mem_of_getElem? (i := 11) rfl))) rfl rfl rfl (by decide +kernel) ⟨Nat.le_of_ble_eq_true rfl, Nat.le_of_ble_eq_true rfl⟩) (rv_G hW) hW hS rfl hl.1 rfl (lv_room (Nat.le_of_ble_eq_true rfl)) dL_areReached_10 ⟨Nat.zero_le _, Nat.zero_le _⟩ (fun hv5 H locs hW hS => ?_)
  refine k_bipush hx hb dL_areReached_13 (by decide +kernel) ?_
  refine k_icmp_ne (tgt := 34) hx hb hv5 (show inR (-15) by decide) dL_areReached_15 (by decide) (fun hc6 => ?_) (fun hc6 => ?_)
  · rw [if_neg hc6] at hf
    refine k_const hx hb dL_areReached_34 ?_
    exact J7 (q1) (0) hf hv2 (show inR (0) by decide) _ _ _ hW hS (lv_sub hl [1, 0] rfl)
  · rw [if_pos hc6] at hf
    refine lv_aload_n hx hb dL_areReached_18 rfl (lv_at hl 1 rfl) ?_
    refine lv_iload_n hx hb dL_areReached_19 rfl (lv_at hl 0 rfl) ?_
    refine k_const hx hb dL_areReached_20 ?_
    refine k_add hx hb dL_areReached_21 ?_
    obtain ⟨hg33, hf⟩ := gd_el hf
    obtain ⟨q34, hq34, hf⟩ := bind_el hf
    refine k_cVi (As := [.int (i3 (q1 + 1))]) (rest := []) ⟨hx, hb, hml, hown, hts⟩ (mG_reachAgain l G M0 (q1 + 1) hg33 q34 hq34) (cwV 1 hts (gbV (inB_22 _ (List.mem_of_getElem? (i := 12) rfl)) (inB_22 _ (List.mem_of_getElem? (i := 13) rfl)) (inB_22 _ (List.mem_of_getElem? (i := 14) rfl)) (inB_1 _ (List.mem_of_getElem? (i := 2) rfl)) (inB_22 _ (List.mem_of_getElem? (i := 15) rfl))) rfl rfl rfl (by decide +kernel) ⟨Nat.le_of_ble_eq_true rfl, Nat.le_of_ble_eq_true rfl⟩) (rv_G hW) hW hS rfl hl.1 rfl (lv_room (Nat.le_of_ble_eq_true rfl)) dL_areReached_22 ⟨Nat.zero_le _, Nat.zero_le _⟩ (fun hv35 H locs hW hS => ?_)
    refine k_bipush hx hb dL_areReached_25 (by decide +kernel) ?_
    refine k_icmp_ne (tgt := 34) hx hb hv35 (show inR (-15) by decide) dL_areReached_27 (by decide) (fun hc36 => ?_) (fun hc36 => ?_)
    · rw [if_neg hc36] at hf
      refine k_const hx hb dL_areReached_34 ?_
      exact J7 (q1) (0) hf hv2 (show inR (0) by decide) _ _ _ hW hS (lv_sub hl [1, 0] rfl)
    · rw [if_pos hc36] at hf
      refine k_const hx hb dL_areReached_30 ?_
      refine lv_goto (tgt := 35) hx hb dL_areReached_31 (by decide) ?_
      exact J7 (q1) (1) hf hv2 (show inR (1) by decide) _ _ _ hW hS (lv_sub hl [1, 0] rfl)
set_option maxHeartbeats 4000000 in
set_option maxRecDepth 100000 in
theorem mL_cell (l : Launch) (G : gG) (M0 : MemG) (x1 : Int) (hx1 : inR x1) (r : Int) (hf : fL_cell G M0 x1 = some r) : Met l yL_cell (wb yL_cell cL_cell 2 (some .int)) ({ frames := 0, cells := 0, slots := 0, locals := 0 } : Room) (PcG G M0 [.ref (gA G (89)), .int (i3 (x1))]) (QcI G M0 r) 0 0 (PA G) := by
  refine Met.ofW (cc := cL_cell) (maxL := 2) (ret := (some .int)) (by decide) rfl ?_
  intro p e s m args below meth c s₁ B hml hv0
  obtain ⟨hav, hW⟩ := hv0
  have hx := B.exec
  have hb := B.bytes
  have hr := B.returns
  have hts := atoms_spec (ws := (wb yL_cell cL_cell 2 (some .int))) B.pre
  have hown : s.vm.findClass RL = some m.cls := findClass_of_methodNamed B.named
  have hlocks := B.notSynchronized
  have hW : Wd G M0 s s.heap := hW
  have hS : va_S (PA G) s.heap s.heap [] := va_S.rf
  have hl := lv_entry [.ref (gA G (89)), .int (i3 (x1))] (n := 2) (Nat.le_of_ble_eq_true rfl)
  have hent := lg_entry_eq m [.ref (gA G (89)), .int (i3 (x1))] 2
  rw [← hav] at hent
  rw [hent]
  clear hent
  generalize (lg_sl [.ref (gA G (89)), .int (i3 (x1))] ++ List.replicate (2 - (lg_sl [.ref (gA G (89)), .int (i3 (x1))]).length) Slot.unset).toArray = ls at hl ⊢
  have hl : lv_has ls 2 [(0, .ref (gA G (89))), (1, .int (i3 (x1)))] := hl
  unfold fL_cell at hf
  show W p l e ({ frames := 0, cells := 0, slots := 0, locals := 0 } : Room) s m args below meth c s.heap [] 0 0 (MQ below (QcI G M0 r) args s 0 0 (PA G)) (F0 m 0 ls [])
  refine lv_aload_n hx hb dL_cell_0 rfl (lv_at hl 0 rfl) ?_
  refine k_tlen (v := (gL G : Nat)) hx hb hW.S.2.2.2.1 rfl dL_cell_1 ?_
  refine k_if_ne (tgt := 13) hx hb hW.X.1 dL_cell_2 (by decide) (fun hc1 => ?_) (fun hc1 => ?_)
  · rw [if_neg hc1] at hf
    refine lv_aload_n hx hb dL_cell_13 rfl (lv_at hl 0 rfl) ?_
    refine lv_iload_n hx hb dL_cell_14 rfl (lv_at hl 1 rfl) ?_
    refine lv_ldc (v := i3 65535) hx hb hown (hts _ (List.mem_cons_of_mem _ (inB_11 _ (List.mem_of_getElem? (i := 4) rfl)))) dL_cell_15 ?_
    refine k_and hx hb dL_cell_17 ?_
    refine lv_aload_n hx hb dL_cell_18 rfl (lv_at hl 0 rfl) ?_
    refine k_tlen (v := (gL G : Nat)) hx hb hW.S.2.2.2.1 rfl dL_cell_19 ?_
    obtain ⟨hg2, hf⟩ := gq_el hf
    refine k_rem hx hb dL_cell_20 (inR_toInt _) hW.X.1 hg2 ?_
    obtain ⟨hg3, hf⟩ := gx_el hf
    refine k_ti (f := gXs G) hx hb hW.S.2.2.2.1 (inR_mod hW.X.1 hg2.2) hg3.1 hg3.2 dL_cell_21 ?_
    obtain rfl := some_el hf
    exact k_ret hx hb hr hlocks hW hS rfl (hW.X.2 _) dL_cell_22
  · rw [if_pos hc1] at hf
    refine k_sipush hx hb dL_cell_5 (by decide +kernel) ?_
    refine lv_iload_n hx hb dL_cell_8 rfl (lv_at hl 1 rfl) ?_
    refine k_mul hx hb dL_cell_9 ?_
    refine lv_goto (tgt := 22) hx hb dL_cell_10 (by decide) ?_
    obtain ⟨hg4, hf⟩ := gd_el hf
    obtain rfl := some_el hf
    exact k_ret hx hb hr hlocks hW hS rfl hg4 dL_cell_22
set_option maxHeartbeats 4000000 in
set_option maxRecDepth 100000 in
theorem mL_digest (l : Launch) (G : gG) (M0 : MemG)  (r : Int64) (hf : fL_digest M0 = some r) : Met l yL_digest (wb yL_digest cL_digest 4 (some .long)) ({ frames := 5, cells := 0, slots := 0, locals := 107 } : Room) (PcG G M0 [.ref (gA G (0))]) (QcL G M0 r) 0 0 (PA G) := by
  refine Met.ofW (cc := cL_digest) (maxL := 4) (ret := (some .long)) (by decide) rfl ?_
  intro p e s m args below meth c s₁ B hml hv0
  obtain ⟨hav, hW⟩ := hv0
  have hx := B.exec
  have hb := B.bytes
  have hr := B.returns
  have hts := atoms_spec (ws := (wb yL_digest cL_digest 4 (some .long))) B.pre
  have hown : s.vm.findClass RL = some m.cls := findClass_of_methodNamed B.named
  have hlocks := B.notSynchronized
  have hW : Wd G M0 s s.heap := hW
  have hS : va_S (PA G) s.heap s.heap [] := va_S.rf
  have hl := lv_entry [.ref (gA G (0))] (n := 4) (Nat.le_of_ble_eq_true rfl)
  have hent := lg_entry_eq m [.ref (gA G (0))] 4
  rw [← hav] at hent
  rw [hent]
  clear hent
  generalize (lg_sl [.ref (gA G (0))] ++ List.replicate (4 - (lg_sl [.ref (gA G (0))]).length) Slot.unset).toArray = ls at hl ⊢
  have hl : lv_has ls 4 [(0, .ref (gA G (0)))] := hl
  unfold fL_digest at hf
  show W p l e ({ frames := 5, cells := 0, slots := 0, locals := 107 } : Room) s m args below meth c s.heap [] 0 0 (MQ below (QcL G M0 r) args s 0 0 (PA G)) (F0 m 0 ls [])
  have L5 : ∀ (z : (Int64 × Int)) (q : (Int64)), loopN (fL_digest_l6 M0) 200 z = some q → (∀ (H : Heap) (locs : List Loc) (ls : Array Slot), Wd G (M0) s H → va_S (PA G) s.heap H locs → lv_has ls 4 [(0, .ref (gA G (0))), (1, .long (q))] → W p l e ({ frames := 5, cells := 0, slots := 0, locals := 107 } : Room) s m args below meth c H locs 0 0 (MQ below (QcL G M0 r) args s 0 0 (PA G)) (F0 m 31 ls [])) → (inR (z.2) → ∀ (H : Heap) (locs : List Loc) (ls : Array Slot), Wd G (M0) s H → va_S (PA G) s.heap H locs → lv_has ls 4 [(0, .ref (gA G (0))), (1, .long (z.1)), (3, .int (i3 (z.2)))] → W p l e ({ frames := 5, cells := 0, slots := 0, locals := 107 } : Room) s m args below meth c H locs 0 0 (MQ below (QcL G M0 r) args s 0 0 (PA G)) (F0 m 6 ls [])) := by
    intro z q hq hex
    refine loop_rule (fL_digest_l6 M0) (fun z => inR (z.2) → ∀ (H : Heap) (locs : List Loc) (ls : Array Slot), Wd G (M0) s H → va_S (PA G) s.heap H locs → lv_has ls 4 [(0, .ref (gA G (0))), (1, .long (z.1)), (3, .int (i3 (z.2)))] → W p l e ({ frames := 5, cells := 0, slots := 0, locals := 107 } : Room) s m args below meth c H locs 0 0 (MQ below (QcL G M0 r) args s 0 0 (PA G)) (F0 m 6 ls [])) (fun q => (∀ (H : Heap) (locs : List Loc) (ls : Array Slot), Wd G (M0) s H → va_S (PA G) s.heap H locs → lv_has ls 4 [(0, .ref (gA G (0))), (1, .long (q))] → W p l e ({ frames := 5, cells := 0, slots := 0, locals := 107 } : Room) s m args below meth c H locs 0 0 (MQ below (QcL G M0 r) args s 0 0 (PA G)) (F0 m 31 ls []))) ?_ 200 z q hq hex
    clear hq hex q z
    intro z x hf hK hz3 H locs ls hW hS hl
    unfold fL_digest_l6 at hf
    refine lv_iload_n hx hb dL_digest_6 rfl (lv_at hl 2 rfl) ?_
    refine k_bipush hx hb dL_digest_7 (by decide +kernel) ?_
    refine k_icmp_ge (tgt := 31) hx hb hz3 (show inR (16) by decide) dL_digest_9 (by decide) (fun hc1 => ?_) (fun hc1 => ?_)
    · rw [if_neg hc1] at hf
      obtain rfl := some_el hf
      exact hK  _ _ _ hW hS (lv_sub hl [0, 1] rfl)
    · rw [if_pos hc1] at hf
      refine lv_ldc2 (v := 31) hx hb hown (hts _ (List.mem_cons_of_mem _ (inB_8 _ (List.mem_of_getElem? (i := 1) rfl)))) dL_digest_12 ?_
      refine lv_lload_n hx hb dL_digest_15 rfl (lv_at hl 1 rfl) ?_
      refine lv_lmul hx hb dL_digest_16 ?_
      refine lv_aload_n hx hb dL_digest_17 rfl (lv_at hl 0 rfl) ?_
      refine lv_iload_n hx hb dL_digest_18 rfl (lv_at hl 2 rfl) ?_
      obtain ⟨q2, hq2, hf⟩ := bind_el hf
      refine k_cVi (As := [.int (i3 (z.2))]) (rest := [.long (31 * z.1)]) ⟨hx, hb, hml, hown, hts⟩ (mG_account l G M0 z.2 hz3 q2 hq2) (cwV 1 hts (gbV (inB_8 _ (List.mem_of_getElem? (i := 2) rfl)) (inB_8 _ (List.mem_of_getElem? (i := 3) rfl)) (inB_8 _ (List.mem_of_getElem? (i := 4) rfl)) (inB_1 _ (List.mem_of_getElem? (i := 2) rfl)) (inB_8 _ (List.mem_of_getElem? (i := 5) rfl))) rfl rfl rfl (by decide +kernel) ⟨Nat.le_of_ble_eq_true rfl, Nat.le_of_ble_eq_true rfl⟩) (rv_G hW) hW hS rfl hl.1 rfl (lv_room (Nat.le_of_ble_eq_true rfl)) dL_digest_19 ⟨Nat.zero_le _, Nat.zero_le _⟩ (fun hv3 H locs hW hS => ?_)
      refine lv_i2l hx hb dL_digest_22 rfl ?_
      refine lv_ladd hx hb dL_digest_23 ?_
      refine lv_lstore_n (lv' := [(1, .long ((31 * z.1) + ((i3 q2).toInt64))), (0, .ref (gA G (0))), (3, .int (i3 (z.2)))]) hx hb dL_digest_24 rfl hl (by decide) rfl (fun ls hl => ?_)
      obtain ⟨hg4, hf⟩ := gd_el hf
      refine k_iinc (lv' := [(3, .int (i3 (z.2 + 1))), (1, .long ((31 * z.1) + ((i3 q2).toInt64))), (0, .ref (gA G (0)))]) hx hb dL_digest_25 hl (k := 2) rfl (by decide) rfl (fun ls hl => ?_)
      refine lv_goto (tgt := 6) hx hb dL_digest_28 (by decide) ?_
      obtain rfl := some_el hf
      exact hK hg4 _ _ _ hW hS (lv_sub hl [2, 1, 0] rfl)
  have L13 : ∀ (z : (Int64 × Int)) (q : (Int64)), loopN (fL_digest_l33 M0) 200 z = some q → (∀ (H : Heap) (locs : List Loc) (ls : Array Slot), Wd G (M0) s H → va_S (PA G) s.heap H locs → lv_has ls 4 [(0, .ref (gA G (0))), (1, .long (q))] → W p l e ({ frames := 5, cells := 0, slots := 0, locals := 107 } : Room) s m args below meth c H locs 0 0 (MQ below (QcL G M0 r) args s 0 0 (PA G)) (F0 m 63 ls [])) → (inR (z.2) → ∀ (H : Heap) (locs : List Loc) (ls : Array Slot), Wd G (M0) s H → va_S (PA G) s.heap H locs → lv_has ls 4 [(0, .ref (gA G (0))), (1, .long (z.1)), (3, .int (i3 (z.2)))] → W p l e ({ frames := 5, cells := 0, slots := 0, locals := 107 } : Room) s m args below meth c H locs 0 0 (MQ below (QcL G M0 r) args s 0 0 (PA G)) (F0 m 33 ls [])) := by
    intro z q hq hex
    refine loop_rule (fL_digest_l33 M0) (fun z => inR (z.2) → ∀ (H : Heap) (locs : List Loc) (ls : Array Slot), Wd G (M0) s H → va_S (PA G) s.heap H locs → lv_has ls 4 [(0, .ref (gA G (0))), (1, .long (z.1)), (3, .int (i3 (z.2)))] → W p l e ({ frames := 5, cells := 0, slots := 0, locals := 107 } : Room) s m args below meth c H locs 0 0 (MQ below (QcL G M0 r) args s 0 0 (PA G)) (F0 m 33 ls [])) (fun q => (∀ (H : Heap) (locs : List Loc) (ls : Array Slot), Wd G (M0) s H → va_S (PA G) s.heap H locs → lv_has ls 4 [(0, .ref (gA G (0))), (1, .long (q))] → W p l e ({ frames := 5, cells := 0, slots := 0, locals := 107 } : Room) s m args below meth c H locs 0 0 (MQ below (QcL G M0 r) args s 0 0 (PA G)) (F0 m 63 ls []))) ?_ 200 z q hq hex
    clear hq hex q z
    intro z x hf hK hz3 H locs ls hW hS hl
    unfold fL_digest_l33 at hf
    refine lv_iload_n hx hb dL_digest_33 rfl (lv_at hl 2 rfl) ?_
    refine k_bipush hx hb dL_digest_34 (by decide +kernel) ?_
    refine k_icmp_ge (tgt := 63) hx hb hz3 (show inR (96) by decide) dL_digest_36 (by decide) (fun hc7 => ?_) (fun hc7 => ?_)
    · rw [if_neg hc7] at hf
      obtain rfl := some_el hf
      exact hK  _ _ _ hW hS (lv_sub hl [0, 1] rfl)
    · rw [if_pos hc7] at hf
      refine lv_ldc2 (v := 31) hx hb hown (hts _ (List.mem_cons_of_mem _ (inB_8 _ (List.mem_of_getElem? (i := 1) rfl)))) dL_digest_39 ?_
      refine lv_lload_n hx hb dL_digest_42 rfl (lv_at hl 1 rfl) ?_
      refine lv_lmul hx hb dL_digest_43 ?_
      refine lv_aload_n hx hb dL_digest_44 rfl (lv_at hl 0 rfl) ?_
      refine lv_iload_n hx hb dL_digest_45 rfl (lv_at hl 2 rfl) ?_
      refine k_const hx hb dL_digest_46 ?_
      obtain ⟨hg8, hf⟩ := gq_el hf
      refine k_div hx hb dL_digest_47 hz3 (show inR (3) by decide) hg8 ?_
      refine lv_iload_n hx hb dL_digest_48 rfl (lv_at hl 2 rfl) ?_
      refine k_const hx hb dL_digest_49 ?_
      obtain ⟨hg9, hf⟩ := gq_el hf
      refine k_rem hx hb dL_digest_50 hz3 (show inR (3) by decide) hg9 ?_
      obtain ⟨q10, hq10, hf⟩ := bind_el hf
      refine k_cVi (As := [.int (i3 (z.2 / 3)), .int (i3 (z.2 % 3))]) (rest := [.long (31 * z.1)]) ⟨hx, hb, hml, hown, hts⟩ (mG_bayOf l G M0 (z.2 / 3) (inR_div hz3 hg8.1 hg8.2) (z.2 % 3) (inR_mod (show inR (3) by decide) hg9.2) q10 hq10) (cwV 2 hts (gbV (inB_9 _ (List.mem_of_getElem? (i := 17) rfl)) (inB_9 _ (List.mem_of_getElem? (i := 18) rfl)) (inB_9 _ (List.mem_of_getElem? (i := 19) rfl)) (inB_1 _ (List.mem_of_getElem? (i := 2) rfl)) (inB_9 _ (List.mem_of_getElem? (i := 20) rfl))) rfl rfl rfl (by decide +kernel) ⟨Nat.le_of_ble_eq_true rfl, Nat.le_of_ble_eq_true rfl⟩) (rv_G hW) hW hS rfl hl.1 rfl (lv_room (Nat.le_of_ble_eq_true rfl)) dL_digest_51 ⟨Nat.zero_le _, Nat.zero_le _⟩ (fun hv11 H locs hW hS => ?_)
      refine lv_i2l hx hb dL_digest_54 rfl ?_
      refine lv_ladd hx hb dL_digest_55 ?_
      refine lv_lstore_n (lv' := [(1, .long ((31 * z.1) + ((i3 q10).toInt64))), (0, .ref (gA G (0))), (3, .int (i3 (z.2)))]) hx hb dL_digest_56 rfl hl (by decide) rfl (fun ls hl => ?_)
      obtain ⟨hg12, hf⟩ := gd_el hf
      refine k_iinc (lv' := [(3, .int (i3 (z.2 + 1))), (1, .long ((31 * z.1) + ((i3 q10).toInt64))), (0, .ref (gA G (0)))]) hx hb dL_digest_57 hl (k := 2) rfl (by decide) rfl (fun ls hl => ?_)
      refine lv_goto (tgt := 33) hx hb dL_digest_60 (by decide) ?_
      obtain rfl := some_el hf
      exact hK hg12 _ _ _ hW hS (lv_sub hl [2, 1, 0] rfl)
  have L19 : ∀ (z : (Int64 × Int)) (q : (Int64)), loopN (fL_digest_l65 M0) 200 z = some q → (∀ (H : Heap) (locs : List Loc) (ls : Array Slot), Wd G (M0) s H → va_S (PA G) s.heap H locs → lv_has ls 4 [(1, .long (q))] → W p l e ({ frames := 5, cells := 0, slots := 0, locals := 107 } : Room) s m args below meth c H locs 0 0 (MQ below (QcL G M0 r) args s 0 0 (PA G)) (F0 m 91 ls [])) → (inR (z.2) → ∀ (H : Heap) (locs : List Loc) (ls : Array Slot), Wd G (M0) s H → va_S (PA G) s.heap H locs → lv_has ls 4 [(0, .ref (gA G (0))), (1, .long (z.1)), (3, .int (i3 (z.2)))] → W p l e ({ frames := 5, cells := 0, slots := 0, locals := 107 } : Room) s m args below meth c H locs 0 0 (MQ below (QcL G M0 r) args s 0 0 (PA G)) (F0 m 65 ls [])) := by
    intro z q hq hex
    refine loop_rule (fL_digest_l65 M0) (fun z => inR (z.2) → ∀ (H : Heap) (locs : List Loc) (ls : Array Slot), Wd G (M0) s H → va_S (PA G) s.heap H locs → lv_has ls 4 [(0, .ref (gA G (0))), (1, .long (z.1)), (3, .int (i3 (z.2)))] → W p l e ({ frames := 5, cells := 0, slots := 0, locals := 107 } : Room) s m args below meth c H locs 0 0 (MQ below (QcL G M0 r) args s 0 0 (PA G)) (F0 m 65 ls [])) (fun q => (∀ (H : Heap) (locs : List Loc) (ls : Array Slot), Wd G (M0) s H → va_S (PA G) s.heap H locs → lv_has ls 4 [(1, .long (q))] → W p l e ({ frames := 5, cells := 0, slots := 0, locals := 107 } : Room) s m args below meth c H locs 0 0 (MQ below (QcL G M0 r) args s 0 0 (PA G)) (F0 m 91 ls []))) ?_ 200 z q hq hex
    clear hq hex q z
    intro z x hf hK hz3 H locs ls hW hS hl
    unfold fL_digest_l65 at hf
    refine lv_iload_n hx hb dL_digest_65 rfl (lv_at hl 2 rfl) ?_
    refine k_bipush hx hb dL_digest_66 (by decide +kernel) ?_
    refine k_icmp_ge (tgt := 91) hx hb hz3 (show inR (33) by decide) dL_digest_68 (by decide) (fun hc15 => ?_) (fun hc15 => ?_)
    · rw [if_neg hc15] at hf
      obtain rfl := some_el hf
      exact hK  _ _ _ hW hS (lv_sub hl [1] rfl)
    · rw [if_pos hc15] at hf
      refine lv_ldc2 (v := 31) hx hb hown (hts _ (List.mem_cons_of_mem _ (inB_8 _ (List.mem_of_getElem? (i := 1) rfl)))) dL_digest_71 ?_
      refine lv_lload_n hx hb dL_digest_74 rfl (lv_at hl 1 rfl) ?_
      refine lv_lmul hx hb dL_digest_75 ?_
      refine lv_aload_n hx hb dL_digest_76 rfl (lv_at hl 0 rfl) ?_
      refine lv_iload_n hx hb dL_digest_77 rfl (lv_at hl 2 rfl) ?_
      refine k_const hx hb dL_digest_78 ?_
      obtain ⟨q16, hq16, hf⟩ := bind_el hf
      refine k_cVi (As := [.int (i3 (z.2)), .int (i3 (3))]) (rest := [.long (31 * z.1)]) ⟨hx, hb, hml, hown, hts⟩ (mG_rungOf l G M0 z.2 hz3 3 (show inR (3) by decide) q16 hq16) (cwV 2 hts (gbV (inB_10 _ (List.mem_of_getElem? (i := 9) rfl)) (inB_10 _ (List.mem_of_getElem? (i := 10) rfl)) (inB_10 _ (List.mem_of_getElem? (i := 11) rfl)) (inB_1 _ (List.mem_of_getElem? (i := 2) rfl)) (inB_10 _ (List.mem_of_getElem? (i := 12) rfl))) rfl rfl rfl (by decide +kernel) ⟨Nat.le_of_ble_eq_true rfl, Nat.le_of_ble_eq_true rfl⟩) (rv_G hW) hW hS rfl hl.1 rfl (lv_room (Nat.le_of_ble_eq_true rfl)) dL_digest_79 ⟨Nat.zero_le _, Nat.zero_le _⟩ (fun hv17 H locs hW hS => ?_)
      refine lv_i2l hx hb dL_digest_82 rfl ?_
      refine lv_ladd hx hb dL_digest_83 ?_
      refine lv_lstore_n (lv' := [(1, .long ((31 * z.1) + ((i3 q16).toInt64))), (0, .ref (gA G (0))), (3, .int (i3 (z.2)))]) hx hb dL_digest_84 rfl hl (by decide) rfl (fun ls hl => ?_)
      obtain ⟨hg18, hf⟩ := gd_el hf
      refine k_iinc (lv' := [(3, .int (i3 (z.2 + 1))), (1, .long ((31 * z.1) + ((i3 q16).toInt64))), (0, .ref (gA G (0)))]) hx hb dL_digest_85 hl (k := 2) rfl (by decide) rfl (fun ls hl => ?_)
      refine lv_goto (tgt := 65) hx hb dL_digest_88 (by decide) ?_
      obtain rfl := some_el hf
      exact hK hg18 _ _ _ hW hS (lv_sub hl [2, 1, 0] rfl)
  refine lv_ldc2 (v := 7) hx hb hown (hts _ (List.mem_cons_of_mem _ (inB_8 _ (List.mem_of_getElem? (i := 0) rfl)))) dL_digest_0 ?_
  refine lv_lstore_n (lv' := [(1, .long (7)), (0, .ref (gA G (0)))]) hx hb dL_digest_3 rfl hl (by decide) rfl (fun ls hl => ?_)
  refine k_const hx hb dL_digest_4 ?_
  refine lv_istore_n (lv' := [(3, .int (i3 (0))), (1, .long (7)), (0, .ref (gA G (0)))]) hx hb dL_digest_5 rfl hl (by decide) rfl (fun ls hl => ?_)
  obtain ⟨q6, hq6, hf⟩ := bind_el hf
  refine L5  (7, 0) q6 hq6 ?_ (show inR (0) by decide) _ _ _ hW hS (lv_sub hl [2, 1, 0] rfl)
  intro  H locs ls hW hS hl
  refine k_const hx hb dL_digest_31 ?_
  refine lv_istore_n (lv' := [(3, .int (i3 (0))), (0, .ref (gA G (0))), (1, .long (q6))]) hx hb dL_digest_32 rfl hl (by decide) rfl (fun ls hl => ?_)
  obtain ⟨q14, hq14, hf⟩ := bind_el hf
  refine L13  (q6, 0) q14 hq14 ?_ (show inR (0) by decide) _ _ _ hW hS (lv_sub hl [1, 2, 0] rfl)
  intro  H locs ls hW hS hl
  refine k_const hx hb dL_digest_63 ?_
  refine lv_istore_n (lv' := [(3, .int (i3 (1))), (0, .ref (gA G (0))), (1, .long (q14))]) hx hb dL_digest_64 rfl hl (by decide) rfl (fun ls hl => ?_)
  obtain ⟨q20, hq20, hf⟩ := bind_el hf
  refine L19  (q14, 1) q20 hq20 ?_ (show inR (1) by decide) _ _ _ hW hS (lv_sub hl [1, 2, 0] rfl)
  intro  H locs ls hW hS hl
  refine lv_lload_n hx hb dL_digest_91 rfl (lv_at hl 0 rfl) ?_
  obtain rfl := some_el hf
  exact k_retl hx hb hr hlocks hW hS rfl dL_digest_92
set_option maxHeartbeats 4000000 in
set_option maxRecDepth 100000 in
theorem mL_keeps (l : Launch) (G : gG) (M0 : MemG) (x0 : Int) (hx0 : inR x0) (r : Int) (hf : fL_keeps x0 = r) : Met l yL_keeps (wb yL_keeps cL_keeps 1 (some .int)) ({ frames := 0, cells := 0, slots := 0, locals := 0 } : Room) (PcG G M0 [.int (i3 (x0))]) (QcI G M0 r) 0 0 (PA G) := by
  refine Met.ofW (cc := cL_keeps) (maxL := 1) (ret := (some .int)) (by decide) rfl ?_
  intro p e s m args below meth c s₁ B hml hv0
  obtain ⟨hav, hW⟩ := hv0
  have hx := B.exec
  have hb := B.bytes
  have hr := B.returns
  have hts := atoms_spec (ws := (wb yL_keeps cL_keeps 1 (some .int))) B.pre
  have hown : s.vm.findClass RL = some m.cls := findClass_of_methodNamed B.named
  have hlocks := B.notSynchronized
  have hW : Wd G M0 s s.heap := hW
  have hS : va_S (PA G) s.heap s.heap [] := va_S.rf
  have hl := lv_entry [.int (i3 (x0))] (n := 1) (Nat.le_of_ble_eq_true rfl)
  have hent := lg_entry_eq m [.int (i3 (x0))] 1
  rw [← hav] at hent
  rw [hent]
  clear hent
  generalize (lg_sl [.int (i3 (x0))] ++ List.replicate (1 - (lg_sl [.int (i3 (x0))]).length) Slot.unset).toArray = ls at hl ⊢
  have hl : lv_has ls 1 [(0, .int (i3 (x0)))] := hl
  unfold fL_keeps at hf
  show W p l e ({ frames := 0, cells := 0, slots := 0, locals := 0 } : Room) s m args below meth c s.heap [] 0 0 (MQ below (QcI G M0 r) args s 0 0 (PA G)) (F0 m 0 ls [])
  refine lv_iload_n hx hb dL_keeps_0 rfl (lv_at hl 0 rfl) ?_
  refine k_if_ne (tgt := 9) hx hb hx0 dL_keeps_1 (by decide) (fun hc1 => ?_) (fun hc1 => ?_)
  · rw [if_neg hc1] at hf
    refine lv_iload_n hx hb dL_keeps_9 rfl (lv_at hl 0 rfl) ?_
    refine k_const hx hb dL_keeps_10 ?_
    refine k_icmp_ne (tgt := 19) hx hb hx0 (show inR (1) by decide) dL_keeps_11 (by decide) (fun hc2 => ?_) (fun hc2 => ?_)
    · rw [if_neg hc2] at hf
      refine lv_iload_n hx hb dL_keeps_19 rfl (lv_at hl 0 rfl) ?_
      refine k_const hx hb dL_keeps_20 ?_
      refine k_icmp_ne (tgt := 29) hx hb hx0 (show inR (2) by decide) dL_keeps_21 (by decide) (fun hc3 => ?_) (fun hc3 => ?_)
      · rw [if_neg hc3] at hf
        refine k_bipush hx hb dL_keeps_29 (by decide +kernel) ?_
        subst hf
        exact k_ret hx hb hr hlocks hW hS rfl (show inR (12) by decide) dL_keeps_31
      · rw [if_pos hc3] at hf
        refine k_bipush hx hb dL_keeps_24 (by decide +kernel) ?_
        refine lv_goto (tgt := 31) hx hb dL_keeps_26 (by decide) ?_
        subst hf
        exact k_ret hx hb hr hlocks hW hS rfl (show inR (10) by decide) dL_keeps_31
    · rw [if_pos hc2] at hf
      refine k_bipush hx hb dL_keeps_14 (by decide +kernel) ?_
      refine lv_goto (tgt := 31) hx hb dL_keeps_16 (by decide) ?_
      subst hf
      exact k_ret hx hb hr hlocks hW hS rfl (show inR (15) by decide) dL_keeps_31
  · rw [if_pos hc1] at hf
    refine k_bipush hx hb dL_keeps_4 (by decide +kernel) ?_
    refine lv_goto (tgt := 31) hx hb dL_keeps_6 (by decide) ?_
    subst hf
    exact k_ret hx hb hr hlocks hW hS rfl (show inR (20) by decide) dL_keeps_31
set_option maxHeartbeats 4000000 in
set_option maxRecDepth 100000 in
theorem mL_isBay (l : Launch) (G : gG) (M0 : MemG) (x1 : Int) (hx1 : inR x1) (r : MemG × Int) (hf : fL_isBay M0 x1 = some r) : Met l yL_isBay (wb yL_isBay cL_isBay 11 (some .boolean)) ({ frames := 11, cells := 0, slots := 0, locals := 266 } : Room) (PcG G M0 [.ref (gA G (0)), .int (i3 (x1))]) (QcZ G r.1 r.2) 0 0 (PA G) := by
  refine Met.ofW (cc := cL_isBay) (maxL := 11) (ret := (some .boolean)) (by decide) rfl ?_
  intro p e s m args below meth c s₁ B hml hv0
  obtain ⟨hav, hW⟩ := hv0
  have hx := B.exec
  have hb := B.bytes
  have hr := B.returns
  have hts := atoms_spec (ws := (wb yL_isBay cL_isBay 11 (some .boolean))) B.pre
  have hown : s.vm.findClass RL = some m.cls := findClass_of_methodNamed B.named
  have hlocks := B.notSynchronized
  have hW : Wd G M0 s s.heap := hW
  have hS : va_S (PA G) s.heap s.heap [] := va_S.rf
  have hl := lv_entry [.ref (gA G (0)), .int (i3 (x1))] (n := 11) (Nat.le_of_ble_eq_true rfl)
  have hent := lg_entry_eq m [.ref (gA G (0)), .int (i3 (x1))] 11
  rw [← hav] at hent
  rw [hent]
  clear hent
  generalize (lg_sl [.ref (gA G (0)), .int (i3 (x1))] ++ List.replicate (11 - (lg_sl [.ref (gA G (0)), .int (i3 (x1))]).length) Slot.unset).toArray = ls at hl ⊢
  have hl : lv_has ls 11 [(0, .ref (gA G (0))), (1, .int (i3 (x1)))] := hl
  unfold fL_isBay at hf
  show W p l e ({ frames := 11, cells := 0, slots := 0, locals := 266 } : Room) s m args below meth c s.heap [] 0 0 (MQ below (QcZ G r.1 r.2) args s 0 0 (PA G)) (F0 m 0 ls [])
  have L27 : ∀ (M : MemG) (x1 : Int) (hx1 : inR x1) (x3 : Int) (hx3 : inR x3) (x6 : Int) (hx6 : inR x6), ∀ (z : (Int × Int × Int)) (q : (Int × Int)), loopN (fL_isBay_l127 M x1 x3 x6) 200 z = some q → (inR (q.1) → inR (q.2) → ∀ (H : Heap) (locs : List Loc) (ls : Array Slot), Wd G (M) s H → va_S (PA G) s.heap H locs → lv_has ls 11 [(0, .ref (gA G (0))), (1, .int (i3 (x1))), (3, .int (i3 (x3))), (6, .int (i3 (x6))), (7, .int (i3 (q.1))), (8, .int (i3 (q.2)))] → W p l e ({ frames := 11, cells := 0, slots := 0, locals := 266 } : Room) s m args below meth c H locs 0 0 (MQ below (QcZ G r.1 r.2) args s 0 0 (PA G)) (F0 m 191 ls [])) → (inR (z.1) → inR (z.2.1) → inR (z.2.2) → ∀ (H : Heap) (locs : List Loc) (ls : Array Slot), Wd G (M) s H → va_S (PA G) s.heap H locs → lv_has ls 11 [(0, .ref (gA G (0))), (1, .int (i3 (x1))), (3, .int (i3 (x3))), (6, .int (i3 (x6))), (7, .int (i3 (z.1))), (8, .int (i3 (z.2.1))), (9, .int (i3 (z.2.2)))] → W p l e ({ frames := 11, cells := 0, slots := 0, locals := 266 } : Room) s m args below meth c H locs 0 0 (MQ below (QcZ G r.1 r.2) args s 0 0 (PA G)) (F0 m 127 ls [])) := by
    intro M x1 hx1 x3 hx3 x6 hx6 z q hq hex
    refine loop_rule (fL_isBay_l127 M x1 x3 x6) (fun z => inR (z.1) → inR (z.2.1) → inR (z.2.2) → ∀ (H : Heap) (locs : List Loc) (ls : Array Slot), Wd G (M) s H → va_S (PA G) s.heap H locs → lv_has ls 11 [(0, .ref (gA G (0))), (1, .int (i3 (x1))), (3, .int (i3 (x3))), (6, .int (i3 (x6))), (7, .int (i3 (z.1))), (8, .int (i3 (z.2.1))), (9, .int (i3 (z.2.2)))] → W p l e ({ frames := 11, cells := 0, slots := 0, locals := 266 } : Room) s m args below meth c H locs 0 0 (MQ below (QcZ G r.1 r.2) args s 0 0 (PA G)) (F0 m 127 ls [])) (fun q => (inR (q.1) → inR (q.2) → ∀ (H : Heap) (locs : List Loc) (ls : Array Slot), Wd G (M) s H → va_S (PA G) s.heap H locs → lv_has ls 11 [(0, .ref (gA G (0))), (1, .int (i3 (x1))), (3, .int (i3 (x3))), (6, .int (i3 (x6))), (7, .int (i3 (q.1))), (8, .int (i3 (q.2)))] → W p l e ({ frames := 11, cells := 0, slots := 0, locals := 266 } : Room) s m args below meth c H locs 0 0 (MQ below (QcZ G r.1 r.2) args s 0 0 (PA G)) (F0 m 191 ls []))) ?_ 200 z q hq hex
    clear hq hex q z
    intro z x hf hK hz7 hz8 hz9 H locs ls hW hS hl
    have J19 : ∀ (x7 : Int) (x8 : Int) (x9 : Int), fL_isBay_j185 M x1 x3 x6 x7 x8 x9 = some x → inR x7 → inR x8 → inR x9 →  ∀ (H : Heap) (locs : List Loc) (ls : Array Slot), Wd G M s H → va_S (PA G) s.heap H locs → lv_has ls 11 [(0, .ref (gA G (0))), (1, .int (i3 (x1))), (3, .int (i3 (x3))), (6, .int (i3 (x6))), (7, .int (i3 (x7))), (8, .int (i3 (x8))), (9, .int (i3 (x9)))] → W p l e ({ frames := 11, cells := 0, slots := 0, locals := 266 } : Room) s m args below meth c H locs 0 0 (MQ below (QcZ G r.1 r.2) args s 0 0 (PA G)) (F0 m 185 ls []) := by
      intro x7 x8 x9 hf hx7 hx8 hx9 H locs ls hW hS hl
      unfold fL_isBay_j185 at hf
      obtain ⟨hg20, hf⟩ := gd_el hf
      refine k_iinc (lv' := [(9, .int (i3 (x9 + 1))), (0, .ref (gA G (0))), (1, .int (i3 (x1))), (3, .int (i3 (x3))), (6, .int (i3 (x6))), (7, .int (i3 (x7))), (8, .int (i3 (x8)))]) hx hb dL_isBay_185 hl (k := 6) rfl (by decide) rfl (fun ls hl => ?_)
      refine lv_goto (tgt := 127) hx hb dL_isBay_188 (by decide) ?_
      obtain rfl := some_el hf
      exact hK hx7 hx8 hg20 _ _ _ hW hS (lv_sub hl [1, 2, 3, 4, 5, 6, 0] rfl)
    have J26 : ∀ (x7 : Int) (x9 : Int) (t0 : Int) (t1 : Int), fL_isBay_j182 M x1 x3 x6 x7 x9 t0 t1 = some x → inR x7 → inR x9 → inR t0 → inR t1 →  ∀ (H : Heap) (locs : List Loc) (ls : Array Slot), Wd G M s H → va_S (PA G) s.heap H locs → lv_has ls 11 [(0, .ref (gA G (0))), (1, .int (i3 (x1))), (3, .int (i3 (x3))), (6, .int (i3 (x6))), (7, .int (i3 (x7))), (9, .int (i3 (x9)))] → W p l e ({ frames := 11, cells := 0, slots := 0, locals := 266 } : Room) s m args below meth c H locs 0 0 (MQ below (QcZ G r.1 r.2) args s 0 0 (PA G)) (F0 m 182 ls [.int (i3 (t1)), .int (i3 (t0))]) := by
      intro x7 x9 t0 t1 hf hx7 hx9 ht0 ht1 H locs ls hW hS hl
      unfold fL_isBay_j182 at hf
      refine k_or hx hb dL_isBay_182 ?_
      refine lv_istore (lv' := [(8, .int (i3 (orI t0 t1))), (0, .ref (gA G (0))), (1, .int (i3 (x1))), (3, .int (i3 (x3))), (6, .int (i3 (x6))), (7, .int (i3 (x7))), (9, .int (i3 (x9)))]) hx hb dL_isBay_183 hl (by decide) rfl (fun ls hl => ?_)
      exact J19 (x7) (orI t0 t1) (x9) hf hx7 (inR_toInt _) hx9 _ _ _ hW hS (lv_sub hl [1, 2, 3, 4, 5, 0, 6] rfl)
    unfold fL_isBay_l127 at hf
    refine lv_iload hx hb dL_isBay_127 (lv_at hl 6 rfl) ?_
    refine k_bipush hx hb dL_isBay_129 (by decide +kernel) ?_
    refine k_icmp_ge (tgt := 191) hx hb hz9 (show inR (33) by decide) dL_isBay_131 (by decide) (fun hc13 => ?_) (fun hc13 => ?_)
    · rw [if_neg hc13] at hf
      obtain rfl := some_el hf
      exact hK hz7 hz8 _ _ _ hW hS (lv_sub hl [0, 1, 2, 3, 4, 5] rfl)
    · rw [if_pos hc13] at hf
      refine lv_aload_n hx hb dL_isBay_134 rfl (lv_at hl 0 rfl) ?_
      refine lv_iload hx hb dL_isBay_135 (lv_at hl 6 rfl) ?_
      refine k_const hx hb dL_isBay_137 ?_
      obtain ⟨q14, hq14, hf⟩ := bind_el hf
      refine k_cVi (As := [.int (i3 (z.2.2)), .int (i3 (0))]) (rest := []) ⟨hx, hb, hml, hown, hts⟩ (mG_rungOf l G M z.2.2 hz9 0 (show inR (0) by decide) q14 hq14) (cwV 2 hts (gbV (inB_10 _ (List.mem_of_getElem? (i := 9) rfl)) (inB_10 _ (List.mem_of_getElem? (i := 10) rfl)) (inB_10 _ (List.mem_of_getElem? (i := 11) rfl)) (inB_1 _ (List.mem_of_getElem? (i := 2) rfl)) (inB_10 _ (List.mem_of_getElem? (i := 12) rfl))) rfl rfl rfl (by decide +kernel) ⟨Nat.le_of_ble_eq_true rfl, Nat.le_of_ble_eq_true rfl⟩) (rv_G hW) hW hS rfl hl.1 rfl (lv_room (Nat.le_of_ble_eq_true rfl)) dL_isBay_138 ⟨Nat.zero_le _, Nat.zero_le _⟩ (fun hv15 H locs hW hS => ?_)
      refine lv_istore (lv' := [(10, .int (i3 (q14))), (0, .ref (gA G (0))), (1, .int (i3 (x1))), (3, .int (i3 (x3))), (6, .int (i3 (x6))), (7, .int (i3 (z.1))), (8, .int (i3 (z.2.1))), (9, .int (i3 (z.2.2)))]) hx hb dL_isBay_141 hl (by decide) rfl (fun ls hl => ?_)
      refine lv_aload_n hx hb dL_isBay_143 rfl (lv_at hl 1 rfl) ?_
      refine lv_iload hx hb dL_isBay_144 (lv_at hl 7 rfl) ?_
      refine k_const hx hb dL_isBay_146 ?_
      obtain ⟨q16, hq16, hf⟩ := bind_el hf
      refine k_cVi (As := [.int (i3 (z.2.2)), .int (i3 (4))]) (rest := []) ⟨hx, hb, hml, hown, hts⟩ (mG_rungOf l G M z.2.2 hz9 4 (show inR (4) by decide) q16 hq16) (cwV 2 hts (gbV (inB_10 _ (List.mem_of_getElem? (i := 9) rfl)) (inB_10 _ (List.mem_of_getElem? (i := 10) rfl)) (inB_10 _ (List.mem_of_getElem? (i := 11) rfl)) (inB_1 _ (List.mem_of_getElem? (i := 2) rfl)) (inB_10 _ (List.mem_of_getElem? (i := 12) rfl))) rfl rfl rfl (by decide +kernel) ⟨Nat.le_of_ble_eq_true rfl, Nat.le_of_ble_eq_true rfl⟩) (rv_G hW) hW hS rfl hl.1 rfl (lv_room (Nat.le_of_ble_eq_true rfl)) dL_isBay_147 ⟨Nat.zero_le _, Nat.zero_le _⟩ (fun hv17 H locs hW hS => ?_)
      refine lv_iload_n hx hb dL_isBay_150 rfl (lv_at hl 2 rfl) ?_
      refine k_icmp_gt (tgt := 185) hx hb hv17 hx1 dL_isBay_151 (by decide) (fun hc18 => ?_) (fun hc18 => ?_)
      · rw [if_pos hc18] at hf
        exact J19 (z.1) (z.2.1) (z.2.2) hf hz7 hz8 hz9 _ _ _ hW hS (lv_sub hl [1, 2, 3, 4, 5, 6, 7] rfl)
      · rw [if_neg hc18] at hf
        refine lv_iload_n hx hb dL_isBay_154 rfl (lv_at hl 2 rfl) ?_
        refine lv_iload hx hb dL_isBay_155 (lv_at hl 7 rfl) ?_
        refine k_icmp_ge (tgt := 185) hx hb hx1 hz9 dL_isBay_157 (by decide) (fun hc21 => ?_) (fun hc21 => ?_)
        · rw [if_neg hc21] at hf
          exact J19 (z.1) (z.2.1) (z.2.2) hf hz7 hz8 hz9 _ _ _ hW hS (lv_sub hl [1, 2, 3, 4, 5, 6, 7] rfl)
        · rw [if_pos hc21] at hf
          obtain ⟨hg22, hf⟩ := gd_el hf
          refine k_iinc (lv' := [(7, .int (i3 (z.1 + 1))), (10, .int (i3 (q14))), (0, .ref (gA G (0))), (1, .int (i3 (x1))), (3, .int (i3 (x3))), (6, .int (i3 (x6))), (8, .int (i3 (z.2.1))), (9, .int (i3 (z.2.2)))]) hx hb dL_isBay_160 hl (k := 5) rfl (by decide) rfl (fun ls hl => ?_)
          refine lv_iload hx hb dL_isBay_163 (lv_at hl 6 rfl) ?_
          refine lv_aload_n hx hb dL_isBay_165 rfl (lv_at hl 2 rfl) ?_
          refine lv_iload hx hb dL_isBay_166 (lv_at hl 7 rfl) ?_
          refine k_const hx hb dL_isBay_168 ?_
          obtain ⟨q23, hq23, hf⟩ := bind_el hf
          refine k_cVi (As := [.int (i3 (z.2.2)), .int (i3 (3))]) (rest := [.int (i3 (z.2.1))]) ⟨hx, hb, hml, hown, hts⟩ (mG_rungOf l G M z.2.2 hz9 3 (show inR (3) by decide) q23 hq23) (cwV 2 hts (gbV (inB_10 _ (List.mem_of_getElem? (i := 9) rfl)) (inB_10 _ (List.mem_of_getElem? (i := 10) rfl)) (inB_10 _ (List.mem_of_getElem? (i := 11) rfl)) (inB_1 _ (List.mem_of_getElem? (i := 2) rfl)) (inB_10 _ (List.mem_of_getElem? (i := 12) rfl))) rfl rfl rfl (by decide +kernel) ⟨Nat.le_of_ble_eq_true rfl, Nat.le_of_ble_eq_true rfl⟩) (rv_G hW) hW hS rfl hl.1 rfl (lv_room (Nat.le_of_ble_eq_true rfl)) dL_isBay_169 ⟨Nat.zero_le _, Nat.zero_le _⟩ (fun hv24 H locs hW hS => ?_)
          refine k_const hx hb dL_isBay_172 ?_
          refine k_icmp_ne (tgt := 181) hx hb hv24 (show inR (1) by decide) dL_isBay_173 (by decide) (fun hc25 => ?_) (fun hc25 => ?_)
          · rw [if_neg hc25] at hf
            refine k_const hx hb dL_isBay_181 ?_
            exact J26 (z.1 + 1) (z.2.2) (z.2.1) (0) hf hg22 hz9 hz8 (show inR (0) by decide) _ _ _ hW hS (lv_sub hl [2, 3, 4, 5, 0, 7] rfl)
          · rw [if_pos hc25] at hf
            refine lv_iload hx hb dL_isBay_176 (lv_at hl 1 rfl) ?_
            refine lv_goto (tgt := 182) hx hb dL_isBay_178 (by decide) ?_
            exact J26 (z.1 + 1) (z.2.2) (z.2.1) (q14) hf hg22 hz9 hz8 hv15 _ _ _ hW hS (lv_sub hl [2, 3, 4, 5, 0, 7] rfl)
  have J12 : ∀ (M : MemG) (x1 : Int) (x3 : Int) (t0 : Int), fL_isBay_j116 M x1 x3 t0 = some r → inR x1 → inR x3 → inR t0 →  ∀ (H : Heap) (locs : List Loc) (ls : Array Slot), Wd G M s H → va_S (PA G) s.heap H locs → lv_has ls 11 [(0, .ref (gA G (0))), (1, .int (i3 (x1))), (3, .int (i3 (x3)))] → W p l e ({ frames := 11, cells := 0, slots := 0, locals := 266 } : Room) s m args below meth c H locs 0 0 (MQ below (QcZ G r.1 r.2) args s 0 0 (PA G)) (F0 m 116 ls [.int (i3 (t0))]) := by
    intro M x1 x3 t0 hf hx1 hx3 ht0 H locs ls hW hS hl
    unfold fL_isBay_j116 at hf
    refine lv_istore (lv' := [(6, .int (i3 (t0))), (0, .ref (gA G (0))), (1, .int (i3 (x1))), (3, .int (i3 (x3)))]) hx hb dL_isBay_116 hl (by decide) rfl (fun ls hl => ?_)
    refine k_const hx hb dL_isBay_118 ?_
    refine lv_istore (lv' := [(7, .int (i3 (0))), (6, .int (i3 (t0))), (0, .ref (gA G (0))), (1, .int (i3 (x1))), (3, .int (i3 (x3)))]) hx hb dL_isBay_119 hl (by decide) rfl (fun ls hl => ?_)
    refine k_const hx hb dL_isBay_121 ?_
    refine lv_istore (lv' := [(8, .int (i3 (0))), (7, .int (i3 (0))), (6, .int (i3 (t0))), (0, .ref (gA G (0))), (1, .int (i3 (x1))), (3, .int (i3 (x3)))]) hx hb dL_isBay_122 hl (by decide) rfl (fun ls hl => ?_)
    refine k_const hx hb dL_isBay_124 ?_
    refine lv_istore (lv' := [(9, .int (i3 (1))), (8, .int (i3 (0))), (7, .int (i3 (0))), (6, .int (i3 (t0))), (0, .ref (gA G (0))), (1, .int (i3 (x1))), (3, .int (i3 (x3)))]) hx hb dL_isBay_125 hl (by decide) rfl (fun ls hl => ?_)
    obtain ⟨q28, hq28, hf⟩ := bind_el hf
    refine L27 (M) (x1) hx1 (x3) hx3 (t0) ht0 (0, 0, 1) q28 hq28 ?_ (show inR (0) by decide) (show inR (0) by decide) (show inR (1) by decide) _ _ _ hW hS (lv_sub hl [4, 5, 6, 3, 2, 1, 0] rfl)
    intro hv29 hv30 H locs ls hW hS hl
    refine lv_iload hx hb dL_isBay_191 (lv_at hl 3 rfl) ?_
    refine k_if_eq (tgt := 291) hx hb ht0 dL_isBay_193 (by decide) (fun hc31 => ?_) (fun hc31 => ?_)
    · rw [if_pos hc31] at hf
      refine k_const hx hb dL_isBay_291 ?_
      obtain rfl := some_el hf
      exact k_retz hx hb hr hlocks hW hS rfl (show (0 : Int) = 0 ∨ (0 : Int) = 1 by decide) dL_isBay_292
    · rw [if_neg hc31] at hf
      refine lv_iload hx hb dL_isBay_196 (lv_at hl 4 rfl) ?_
      refine lv_aload_n hx hb dL_isBay_198 rfl (lv_at hl 0 rfl) ?_
      refine lv_iload_n hx hb dL_isBay_199 rfl (lv_at hl 1 rfl) ?_
      refine k_const hx hb dL_isBay_200 ?_
      obtain ⟨q32, hq32, hf⟩ := bind_el hf
      refine k_cVi (As := [.int (i3 (x1)), .int (i3 (4))]) (rest := [.int (i3 (q28.1))]) ⟨hx, hb, hml, hown, hts⟩ (mG_bayOf l G M x1 hx1 4 (show inR (4) by decide) q32 hq32) (cwV 2 hts (gbV (inB_9 _ (List.mem_of_getElem? (i := 17) rfl)) (inB_9 _ (List.mem_of_getElem? (i := 18) rfl)) (inB_9 _ (List.mem_of_getElem? (i := 19) rfl)) (inB_1 _ (List.mem_of_getElem? (i := 2) rfl)) (inB_9 _ (List.mem_of_getElem? (i := 20) rfl))) rfl rfl rfl (by decide +kernel) ⟨Nat.le_of_ble_eq_true rfl, Nat.le_of_ble_eq_true rfl⟩) (rv_G hW) hW hS rfl hl.1 rfl (lv_room (Nat.le_of_ble_eq_true rfl)) dL_isBay_201 ⟨Nat.zero_le _, Nat.zero_le _⟩ (fun hv33 H locs hW hS => ?_)
      refine k_icmp_ne (tgt := 291) hx hb hv29 hv33 dL_isBay_204 (by decide) (fun hc34 => ?_) (fun hc34 => ?_)
      · rw [if_neg hc34] at hf
        refine k_const hx hb dL_isBay_291 ?_
        obtain rfl := some_el hf
        exact k_retz hx hb hr hlocks hW hS rfl (show (0 : Int) = 0 ∨ (0 : Int) = 1 by decide) dL_isBay_292
      · rw [if_pos hc34] at hf
        refine lv_iload hx hb dL_isBay_207 (lv_at hl 5 rfl) ?_
        refine lv_aload_n hx hb dL_isBay_209 rfl (lv_at hl 0 rfl) ?_
        refine lv_iload_n hx hb dL_isBay_210 rfl (lv_at hl 1 rfl) ?_
        refine k_const hx hb dL_isBay_211 ?_
        obtain ⟨q35, hq35, hf⟩ := bind_el hf
        refine k_cVi (As := [.int (i3 (x1)), .int (i3 (5))]) (rest := [.int (i3 (q28.2))]) ⟨hx, hb, hml, hown, hts⟩ (mG_bayOf l G M x1 hx1 5 (show inR (5) by decide) q35 hq35) (cwV 2 hts (gbV (inB_9 _ (List.mem_of_getElem? (i := 17) rfl)) (inB_9 _ (List.mem_of_getElem? (i := 18) rfl)) (inB_9 _ (List.mem_of_getElem? (i := 19) rfl)) (inB_1 _ (List.mem_of_getElem? (i := 2) rfl)) (inB_9 _ (List.mem_of_getElem? (i := 20) rfl))) rfl rfl rfl (by decide +kernel) ⟨Nat.le_of_ble_eq_true rfl, Nat.le_of_ble_eq_true rfl⟩) (rv_G hW) hW hS rfl hl.1 rfl (lv_room (Nat.le_of_ble_eq_true rfl)) dL_isBay_212 ⟨Nat.zero_le _, Nat.zero_le _⟩ (fun hv36 H locs hW hS => ?_)
        refine k_icmp_ne (tgt := 291) hx hb hv30 hv36 dL_isBay_215 (by decide) (fun hc37 => ?_) (fun hc37 => ?_)
        · rw [if_neg hc37] at hf
          refine k_const hx hb dL_isBay_291 ?_
          obtain rfl := some_el hf
          exact k_retz hx hb hr hlocks hW hS rfl (show (0 : Int) = 0 ∨ (0 : Int) = 1 by decide) dL_isBay_292
        · rw [if_pos hc37] at hf
          refine lv_aload_n hx hb dL_isBay_218 rfl (lv_at hl 0 rfl) ?_
          refine lv_iload_n hx hb dL_isBay_219 rfl (lv_at hl 1 rfl) ?_
          obtain ⟨q38, hq38, hf⟩ := bind_el hf
          refine k_cVi (As := [.int (i3 (x1))]) (rest := []) ⟨hx, hb, hml, hown, hts⟩ (mG_steps l G M x1 hx1 q38 hq38) (cwV 1 hts (gbV (inB_23 _ (List.mem_of_getElem? (i := 11) rfl)) (inB_23 _ (List.mem_of_getElem? (i := 12) rfl)) (inB_23 _ (List.mem_of_getElem? (i := 13) rfl)) (inB_1 _ (List.mem_of_getElem? (i := 2) rfl)) (inB_23 _ (List.mem_of_getElem? (i := 14) rfl))) rfl rfl rfl (by decide +kernel) ⟨Nat.le_of_ble_eq_true rfl, Nat.le_of_ble_eq_true rfl⟩) (rv_G hW) hW hS rfl hl.1 rfl (lv_room (Nat.le_of_ble_eq_true rfl)) dL_isBay_220 ⟨Nat.zero_le _, Nat.zero_le _⟩ (fun hv39 H locs hW hS => ?_)
          refine lv_aload_n hx hb dL_isBay_223 rfl (lv_at hl 0 rfl) ?_
          refine lv_iload_n hx hb dL_isBay_224 rfl (lv_at hl 1 rfl) ?_
          obtain ⟨q40, hq40, hf⟩ := bind_el hf
          refine k_cVi (As := [.int (i3 (x1))]) (rest := [.int (i3 (q38))]) ⟨hx, hb, hml, hown, hts⟩ (mG_stepsAgain l G M x1 hx1 q40 hq40) (cwV 1 hts (gbV (inB_23 _ (List.mem_of_getElem? (i := 18) rfl)) (inB_23 _ (List.mem_of_getElem? (i := 19) rfl)) (inB_23 _ (List.mem_of_getElem? (i := 20) rfl)) (inB_1 _ (List.mem_of_getElem? (i := 2) rfl)) (inB_23 _ (List.mem_of_getElem? (i := 21) rfl))) rfl rfl rfl (by decide +kernel) ⟨Nat.le_of_ble_eq_true rfl, Nat.le_of_ble_eq_true rfl⟩) (rv_G hW) hW hS rfl hl.1 rfl (lv_room (Nat.le_of_ble_eq_true rfl)) dL_isBay_225 ⟨Nat.zero_le _, Nat.zero_le _⟩ (fun hv41 H locs hW hS => ?_)
          refine k_icmp_ne (tgt := 291) hx hb hv39 hv41 dL_isBay_228 (by decide) (fun hc42 => ?_) (fun hc42 => ?_)
          · rw [if_neg hc42] at hf
            refine k_const hx hb dL_isBay_291 ?_
            obtain rfl := some_el hf
            exact k_retz hx hb hr hlocks hW hS rfl (show (0 : Int) = 0 ∨ (0 : Int) = 1 by decide) dL_isBay_292
          · rw [if_pos hc42] at hf
            refine lv_aload_n hx hb dL_isBay_231 rfl (lv_at hl 0 rfl) ?_
            refine lv_iload_n hx hb dL_isBay_232 rfl (lv_at hl 1 rfl) ?_
            obtain ⟨q43, hq43, hf⟩ := bind_el hf
            refine k_cVi (As := [.int (i3 (x1))]) (rest := []) ⟨hx, hb, hml, hown, hts⟩ (mG_steps l G q40.1 x1 hx1 q43 hq43) (cwV 1 hts (gbV (inB_23 _ (List.mem_of_getElem? (i := 11) rfl)) (inB_23 _ (List.mem_of_getElem? (i := 12) rfl)) (inB_23 _ (List.mem_of_getElem? (i := 13) rfl)) (inB_1 _ (List.mem_of_getElem? (i := 2) rfl)) (inB_23 _ (List.mem_of_getElem? (i := 14) rfl))) rfl rfl rfl (by decide +kernel) ⟨Nat.le_of_ble_eq_true rfl, Nat.le_of_ble_eq_true rfl⟩) (rv_G hW) hW hS rfl hl.1 rfl (lv_room (Nat.le_of_ble_eq_true rfl)) dL_isBay_233 ⟨Nat.zero_le _, Nat.zero_le _⟩ (fun hv44 H locs hW hS => ?_)
            refine lv_iload_n hx hb dL_isBay_236 rfl (lv_at hl 1 rfl) ?_
            refine k_const hx hb dL_isBay_237 ?_
            refine k_add hx hb dL_isBay_238 ?_
            obtain ⟨hg45, hf⟩ := gd_el hf
            obtain ⟨q46, hq46, hf⟩ := bind_el hf
            refine k_cSi (As := [.int (i3 (x1 + 1))]) (rest := [.int (i3 (q43))]) ⟨hx, hb, hml, hown, hts⟩ (mI_bitCount_0f7a4 l G q40.1 (x1 + 1) hg45 q46 hq46) (va_cwS 1 hts (gbS (inB_24 _ (List.mem_of_getElem? (i := 8) rfl)) (inB_24 _ (List.mem_of_getElem? (i := 9) rfl)) (inB_24 _ (List.mem_of_getElem? (i := 10) rfl)) (inB_24 _ (List.mem_of_getElem? (i := 11) rfl))) rfl rfl rfl (by decide +kernel) ⟨Nat.le_of_ble_eq_true rfl, Nat.le_of_ble_eq_true rfl⟩) hW hS rfl hl.1 rfl (lv_room (Nat.le_of_ble_eq_true rfl)) dL_isBay_239 ⟨Nat.zero_le _, Nat.zero_le _⟩ (fun hv47 H locs hW hS => ?_)
            refine k_icmp_lt (tgt := 291) hx hb hv44 hv47 dL_isBay_242 (by decide) (fun hc48 => ?_) (fun hc48 => ?_)
            · rw [if_pos hc48] at hf
              refine k_const hx hb dL_isBay_291 ?_
              obtain rfl := some_el hf
              exact k_retz hx hb hr hlocks hW hS rfl (show (0 : Int) = 0 ∨ (0 : Int) = 1 by decide) dL_isBay_292
            · rw [if_neg hc48] at hf
              refine lv_aload_n hx hb dL_isBay_245 rfl (lv_at hl 0 rfl) ?_
              refine k_const hx hb dL_isBay_246 ?_
              refine lv_iload_n hx hb dL_isBay_247 rfl (lv_at hl 1 rfl) ?_
              obtain ⟨q49, hq49, hf⟩ := bind_el hf
              refine k_cVi (As := [.int (i3 (0)), .int (i3 (x1))]) (rest := []) ⟨hx, hb, hml, hown, hts⟩ (mG_sum l G q40.1 0 (show inR (0) by decide) x1 hx1 q49 hq49) (cwV 2 hts (gbV (inB_22 _ (List.mem_of_getElem? (i := 16) rfl)) (inB_22 _ (List.mem_of_getElem? (i := 17) rfl)) (inB_22 _ (List.mem_of_getElem? (i := 18) rfl)) (inB_1 _ (List.mem_of_getElem? (i := 2) rfl)) (inB_22 _ (List.mem_of_getElem? (i := 19) rfl))) rfl rfl rfl (by decide +kernel) ⟨Nat.le_of_ble_eq_true rfl, Nat.le_of_ble_eq_true rfl⟩) (rv_G hW) hW hS rfl hl.1 rfl (lv_room (Nat.le_of_ble_eq_true rfl)) dL_isBay_248 ⟨Nat.zero_le _, Nat.zero_le _⟩ (fun hv50 H locs hW hS => ?_)
              refine lv_aload_n hx hb dL_isBay_251 rfl (lv_at hl 0 rfl) ?_
              refine k_const hx hb dL_isBay_252 ?_
              refine lv_iload_n hx hb dL_isBay_253 rfl (lv_at hl 1 rfl) ?_
              obtain ⟨q51, hq51, hf⟩ := bind_el hf
              refine k_cVi (As := [.int (i3 (0)), .int (i3 (x1))]) (rest := [.int (i3 (q49))]) ⟨hx, hb, hml, hown, hts⟩ (mG_sumAgain l G q40.1 0 (show inR (0) by decide) x1 hx1 q51 hq51) (cwV 2 hts (gbV (inB_24 _ (List.mem_of_getElem? (i := 15) rfl)) (inB_24 _ (List.mem_of_getElem? (i := 16) rfl)) (inB_24 _ (List.mem_of_getElem? (i := 17) rfl)) (inB_1 _ (List.mem_of_getElem? (i := 2) rfl)) (inB_24 _ (List.mem_of_getElem? (i := 18) rfl))) rfl rfl rfl (by decide +kernel) ⟨Nat.le_of_ble_eq_true rfl, Nat.le_of_ble_eq_true rfl⟩) (rv_G hW) hW hS rfl hl.1 rfl (lv_room (Nat.le_of_ble_eq_true rfl)) dL_isBay_254 ⟨Nat.zero_le _, Nat.zero_le _⟩ (fun hv52 H locs hW hS => ?_)
              refine k_icmp_ne (tgt := 291) hx hb hv50 hv52 dL_isBay_257 (by decide) (fun hc53 => ?_) (fun hc53 => ?_)
              · rw [if_neg hc53] at hf
                refine k_const hx hb dL_isBay_291 ?_
                obtain rfl := some_el hf
                exact k_retz hx hb hr hlocks hW hS rfl (show (0 : Int) = 0 ∨ (0 : Int) = 1 by decide) dL_isBay_292
              · rw [if_pos hc53] at hf
                refine lv_aload_n hx hb dL_isBay_260 rfl (lv_at hl 0 rfl) ?_
                refine lv_iload_n hx hb dL_isBay_261 rfl (lv_at hl 1 rfl) ?_
                refine lv_iload_n hx hb dL_isBay_262 rfl (lv_at hl 1 rfl) ?_
                obtain ⟨q54, hq54, hf⟩ := bind_el hf
                refine k_cVi (As := [.int (i3 (x1)), .int (i3 (x1))]) (rest := []) ⟨hx, hb, hml, hown, hts⟩ (mG_sum l G q40.1 x1 hx1 x1 hx1 q54 hq54) (cwV 2 hts (gbV (inB_22 _ (List.mem_of_getElem? (i := 16) rfl)) (inB_22 _ (List.mem_of_getElem? (i := 17) rfl)) (inB_22 _ (List.mem_of_getElem? (i := 18) rfl)) (inB_1 _ (List.mem_of_getElem? (i := 2) rfl)) (inB_22 _ (List.mem_of_getElem? (i := 19) rfl))) rfl rfl rfl (by decide +kernel) ⟨Nat.le_of_ble_eq_true rfl, Nat.le_of_ble_eq_true rfl⟩) (rv_G hW) hW hS rfl hl.1 rfl (lv_room (Nat.le_of_ble_eq_true rfl)) dL_isBay_263 ⟨Nat.zero_le _, Nat.zero_le _⟩ (fun hv55 H locs hW hS => ?_)
                refine lv_iload_n hx hb dL_isBay_266 rfl (lv_at hl 2 rfl) ?_
                refine k_icmp_ne (tgt := 291) hx hb hv55 hx3 dL_isBay_267 (by decide) (fun hc56 => ?_) (fun hc56 => ?_)
                · rw [if_neg hc56] at hf
                  refine k_const hx hb dL_isBay_291 ?_
                  obtain rfl := some_el hf
                  exact k_retz hx hb hr hlocks hW hS rfl (show (0 : Int) = 0 ∨ (0 : Int) = 1 by decide) dL_isBay_292
                · rw [if_pos hc56] at hf
                  refine lv_aload_n hx hb dL_isBay_270 rfl (lv_at hl 0 rfl) ?_
                  refine lv_iload_n hx hb dL_isBay_271 rfl (lv_at hl 1 rfl) ?_
                  refine k_bipush hx hb dL_isBay_272 (by decide +kernel) ?_
                  obtain ⟨q57, hq57, hf⟩ := bind_el hf
                  refine k_cVi (As := [.int (i3 (x1)), .int (i3 (31))]) (rest := []) ⟨hx, hb, hml, hown, hts⟩ (mG_sum l G q40.1 x1 hx1 31 (show inR (31) by decide) q57 hq57) (cwV 2 hts (gbV (inB_22 _ (List.mem_of_getElem? (i := 16) rfl)) (inB_22 _ (List.mem_of_getElem? (i := 17) rfl)) (inB_22 _ (List.mem_of_getElem? (i := 18) rfl)) (inB_1 _ (List.mem_of_getElem? (i := 2) rfl)) (inB_22 _ (List.mem_of_getElem? (i := 19) rfl))) rfl rfl rfl (by decide +kernel) ⟨Nat.le_of_ble_eq_true rfl, Nat.le_of_ble_eq_true rfl⟩) (rv_G hW) hW hS rfl hl.1 rfl (lv_room (Nat.le_of_ble_eq_true rfl)) dL_isBay_274 ⟨Nat.zero_le _, Nat.zero_le _⟩ (fun hv58 H locs hW hS => ?_)
                  refine lv_aload_n hx hb dL_isBay_277 rfl (lv_at hl 0 rfl) ?_
                  refine lv_iload_n hx hb dL_isBay_278 rfl (lv_at hl 1 rfl) ?_
                  refine k_bipush hx hb dL_isBay_279 (by decide +kernel) ?_
                  obtain ⟨q59, hq59, hf⟩ := bind_el hf
                  refine k_cVi (As := [.int (i3 (x1)), .int (i3 (31))]) (rest := [.int (i3 (q57))]) ⟨hx, hb, hml, hown, hts⟩ (mG_sumAgain l G q40.1 x1 hx1 31 (show inR (31) by decide) q59 hq59) (cwV 2 hts (gbV (inB_24 _ (List.mem_of_getElem? (i := 15) rfl)) (inB_24 _ (List.mem_of_getElem? (i := 16) rfl)) (inB_24 _ (List.mem_of_getElem? (i := 17) rfl)) (inB_1 _ (List.mem_of_getElem? (i := 2) rfl)) (inB_24 _ (List.mem_of_getElem? (i := 18) rfl))) rfl rfl rfl (by decide +kernel) ⟨Nat.le_of_ble_eq_true rfl, Nat.le_of_ble_eq_true rfl⟩) (rv_G hW) hW hS rfl hl.1 rfl (lv_room (Nat.le_of_ble_eq_true rfl)) dL_isBay_281 ⟨Nat.zero_le _, Nat.zero_le _⟩ (fun hv60 H locs hW hS => ?_)
                  refine k_icmp_ne (tgt := 291) hx hb hv58 hv60 dL_isBay_284 (by decide) (fun hc61 => ?_) (fun hc61 => ?_)
                  · rw [if_neg hc61] at hf
                    refine k_const hx hb dL_isBay_291 ?_
                    obtain rfl := some_el hf
                    exact k_retz hx hb hr hlocks hW hS rfl (show (0 : Int) = 0 ∨ (0 : Int) = 1 by decide) dL_isBay_292
                  · rw [if_pos hc61] at hf
                    refine k_const hx hb dL_isBay_287 ?_
                    refine lv_goto (tgt := 292) hx hb dL_isBay_288 (by decide) ?_
                    obtain rfl := some_el hf
                    exact k_retz hx hb hr hlocks hW hS rfl (show (1 : Int) = 0 ∨ (1 : Int) = 1 by decide) dL_isBay_292
  have J70 : ∀ (M : MemG) (x1 : Int) (x3 : Int) (t0 : Int) (t1 : Int), fL_isBay_j108 M x1 x3 t0 t1 = some r → inR x1 → inR x3 → inR t0 → inR t1 →  ∀ (H : Heap) (locs : List Loc) (ls : Array Slot), Wd G M s H → va_S (PA G) s.heap H locs → lv_has ls 11 [(0, .ref (gA G (0))), (1, .int (i3 (x1))), (3, .int (i3 (x3)))] → W p l e ({ frames := 11, cells := 0, slots := 0, locals := 266 } : Room) s m args below meth c H locs 0 0 (MQ below (QcZ G r.1 r.2) args s 0 0 (PA G)) (F0 m 108 ls [.int (i3 (t1)), .int (i3 (t0))]) := by
    intro M x1 x3 t0 t1 hf hx1 hx3 ht0 ht1 H locs ls hW hS hl
    unfold fL_isBay_j108 at hf
    refine k_icmp_ne (tgt := 115) hx hb ht0 ht1 dL_isBay_108 (by decide) (fun hc71 => ?_) (fun hc71 => ?_)
    · rw [if_neg hc71] at hf
      refine k_const hx hb dL_isBay_115 ?_
      exact J12 (M) (x1) (x3) (0) hf hx1 hx3 (show inR (0) by decide) _ _ _ hW hS (lv_sub hl [0, 1, 2] rfl)
    · rw [if_pos hc71] at hf
      refine k_const hx hb dL_isBay_111 ?_
      refine lv_goto (tgt := 116) hx hb dL_isBay_112 (by decide) ?_
      exact J12 (M) (x1) (x3) (1) hf hx1 hx3 (show inR (1) by decide) _ _ _ hW hS (lv_sub hl [0, 1, 2] rfl)
  have J66 : ∀ (M : MemG) (x1 : Int) (x2 : Int) (x3 : Int) (x4 : Int) (x5 : Int), fL_isBay_j75 M x1 x2 x3 x4 x5 = some r → inR x1 → inR x2 → inR x3 → inR x4 → inR x5 →  ∀ (H : Heap) (locs : List Loc) (ls : Array Slot), Wd G M s H → va_S (PA G) s.heap H locs → lv_has ls 11 [(0, .ref (gA G (0))), (1, .int (i3 (x1))), (2, .int (i3 (x2))), (3, .int (i3 (x3))), (4, .int (i3 (x4))), (5, .int (i3 (x5)))] → W p l e ({ frames := 11, cells := 0, slots := 0, locals := 266 } : Room) s m args below meth c H locs 0 0 (MQ below (QcZ G r.1 r.2) args s 0 0 (PA G)) (F0 m 75 ls []) := by
    intro M x1 x2 x3 x4 x5 hf hx1 hx2 hx3 hx4 hx5 H locs ls hW hS hl
    unfold fL_isBay_j75 at hf
    refine lv_aload_n hx hb dL_isBay_75 rfl (lv_at hl 0 rfl) ?_
    refine lv_iload_n hx hb dL_isBay_76 rfl (lv_at hl 1 rfl) ?_
    refine k_const hx hb dL_isBay_77 ?_
    obtain ⟨q67, hq67, hf⟩ := bind_el hf
    refine k_cVi (As := [.int (i3 (x1)), .int (i3 (3))]) (rest := []) ⟨hx, hb, hml, hown, hts⟩ (mG_bayOf l G M x1 hx1 3 (show inR (3) by decide) q67 hq67) (cwV 2 hts (gbV (inB_9 _ (List.mem_of_getElem? (i := 17) rfl)) (inB_9 _ (List.mem_of_getElem? (i := 18) rfl)) (inB_9 _ (List.mem_of_getElem? (i := 19) rfl)) (inB_1 _ (List.mem_of_getElem? (i := 2) rfl)) (inB_9 _ (List.mem_of_getElem? (i := 20) rfl))) rfl rfl rfl (by decide +kernel) ⟨Nat.le_of_ble_eq_true rfl, Nat.le_of_ble_eq_true rfl⟩) (rv_G hW) hW hS rfl hl.1 rfl (lv_room (Nat.le_of_ble_eq_true rfl)) dL_isBay_78 ⟨Nat.zero_le _, Nat.zero_le _⟩ (fun hv68 H locs hW hS => ?_)
    refine lv_iload hx hb dL_isBay_81 (lv_at hl 5 rfl) ?_
    refine k_if_ne (tgt := 107) hx hb hx5 dL_isBay_83 (by decide) (fun hc69 => ?_) (fun hc69 => ?_)
    · rw [if_neg hc69] at hf
      refine k_const hx hb dL_isBay_107 ?_
      exact J70 (M) (x1) (x3) (q67) (0) hf hx1 hx3 hv68 (show inR (0) by decide) _ _ _ hW hS (lv_sub hl [0, 1, 3] rfl)
    · rw [if_pos hc69] at hf
      refine lv_iload hx hb dL_isBay_86 (lv_at hl 4 rfl) ?_
      refine k_const hx hb dL_isBay_88 ?_
      refine k_add hx hb dL_isBay_89 ?_
      refine lv_iload_n hx hb dL_isBay_90 rfl (lv_at hl 2 rfl) ?_
      refine k_cSi (As := [.int (i3 (x2))]) (rest := [.int (i3 (x4 + 1)), .int (i3 (q67))]) ⟨hx, hb, hml, hown, hts⟩ (mL_keeps l G M x2 hx2 _ rfl) (va_cwS 1 hts (gbS (inB_23 _ (List.mem_of_getElem? (i := 8) rfl)) (inB_23 _ (List.mem_of_getElem? (i := 9) rfl)) (inB_7 _ (List.mem_of_getElem? (i := 22) rfl)) (inB_23 _ (List.mem_of_getElem? (i := 10) rfl))) rfl rfl rfl (by decide +kernel) ⟨Nat.le_of_ble_eq_true rfl, Nat.le_of_ble_eq_true rfl⟩) hW hS rfl hl.1 rfl (lv_room (Nat.le_of_ble_eq_true rfl)) dL_isBay_91 ⟨Nat.zero_le _, Nat.zero_le _⟩ (fun hv72 H locs hW hS => ?_)
      obtain ⟨hg73, hf⟩ := gd_el hf
      refine k_icmp_le (tgt := 107) hx hb hg73 hv72 dL_isBay_94 (by decide) (fun hc74 => ?_) (fun hc74 => ?_)
      · rw [if_neg hc74] at hf
        refine k_const hx hb dL_isBay_107 ?_
        exact J70 (M) (x1) (x3) (q67) (0) hf hx1 hx3 hv68 (show inR (0) by decide) _ _ _ hW hS (lv_sub hl [0, 1, 3] rfl)
      · rw [if_pos hc74] at hf
        refine lv_iload_n hx hb dL_isBay_97 rfl (lv_at hl 3 rfl) ?_
        refine k_bipush hx hb dL_isBay_98 (by decide +kernel) ?_
        refine k_add hx hb dL_isBay_100 ?_
        refine k_bipush hx hb dL_isBay_101 (by decide +kernel) ?_
        obtain ⟨hg75, hf⟩ := gd_el hf
        obtain ⟨hg76, hf⟩ := gq_el hf
        refine k_div hx hb dL_isBay_103 hg75 (show inR (10) by decide) hg76 ?_
        refine lv_goto (tgt := 108) hx hb dL_isBay_104 (by decide) ?_
        exact J70 (M) (x1) (x3) (q67) ((x3 + 9) / 10) hf hx1 hx3 hv68 (inR_div hg75 hg76.1 hg76.2) _ _ _ hW hS (lv_sub hl [0, 1, 3] rfl)
  have J10 : ∀ (M : MemG) (x1 : Int) (x2 : Int) (x3 : Int) (x4 : Int) (x5 : Int) (t0 : Int), fL_isBay_j44 M x1 x2 x3 x4 x5 t0 = some r → inR x1 → inR x2 → inR x3 → inR x4 → inR x5 → inR t0 →  ∀ (H : Heap) (locs : List Loc) (ls : Array Slot), Wd G M s H → va_S (PA G) s.heap H locs → lv_has ls 11 [(0, .ref (gA G (0))), (1, .int (i3 (x1))), (2, .int (i3 (x2))), (3, .int (i3 (x3))), (4, .int (i3 (x4))), (5, .int (i3 (x5)))] → W p l e ({ frames := 11, cells := 0, slots := 0, locals := 266 } : Room) s m args below meth c H locs 0 0 (MQ below (QcZ G r.1 r.2) args s 0 0 (PA G)) (F0 m 44 ls [.int (i3 (t0))]) := by
    intro M x1 x2 x3 x4 x5 t0 hf hx1 hx2 hx3 hx4 hx5 ht0 H locs ls hW hS hl
    unfold fL_isBay_j44 at hf
    refine lv_iload hx hb dL_isBay_44 (lv_at hl 5 rfl) ?_
    refine k_icmp_ne (tgt := 115) hx hb ht0 hx5 dL_isBay_46 (by decide) (fun hc11 => ?_) (fun hc11 => ?_)
    · rw [if_neg hc11] at hf
      refine k_const hx hb dL_isBay_115 ?_
      exact J12 (M) (x1) (x3) (0) hf hx1 hx3 (show inR (0) by decide) _ _ _ hW hS (lv_sub hl [0, 1, 3] rfl)
    · rw [if_pos hc11] at hf
      refine lv_iload_n hx hb dL_isBay_49 rfl (lv_at hl 3 rfl) ?_
      refine k_if_lt (tgt := 115) hx hb hx3 dL_isBay_50 (by decide) (fun hc62 => ?_) (fun hc62 => ?_)
      · rw [if_pos hc62] at hf
        refine k_const hx hb dL_isBay_115 ?_
        exact J12 (M) (x1) (x3) (0) hf hx1 hx3 (show inR (0) by decide) _ _ _ hW hS (lv_sub hl [0, 1, 3] rfl)
      · rw [if_neg hc62] at hf
        refine lv_iload_n hx hb dL_isBay_53 rfl (lv_at hl 3 rfl) ?_
        refine k_sipush hx hb dL_isBay_54 (by decide +kernel) ?_
        refine k_icmp_gt (tgt := 115) hx hb hx3 (show inR (200) by decide) dL_isBay_57 (by decide) (fun hc63 => ?_) (fun hc63 => ?_)
        · rw [if_pos hc63] at hf
          refine k_const hx hb dL_isBay_115 ?_
          exact J12 (M) (x1) (x3) (0) hf hx1 hx3 (show inR (0) by decide) _ _ _ hW hS (lv_sub hl [0, 1, 3] rfl)
        · rw [if_neg hc63] at hf
          refine lv_iload hx hb dL_isBay_60 (lv_at hl 4 rfl) ?_
          refine k_if_lt (tgt := 115) hx hb hx4 dL_isBay_62 (by decide) (fun hc64 => ?_) (fun hc64 => ?_)
          · rw [if_pos hc64] at hf
            refine k_const hx hb dL_isBay_115 ?_
            exact J12 (M) (x1) (x3) (0) hf hx1 hx3 (show inR (0) by decide) _ _ _ hW hS (lv_sub hl [0, 1, 3] rfl)
          · rw [if_neg hc64] at hf
            refine lv_iload hx hb dL_isBay_65 (lv_at hl 5 rfl) ?_
            refine k_if_eq (tgt := 75) hx hb hx5 dL_isBay_67 (by decide) (fun hc65 => ?_) (fun hc65 => ?_)
            · rw [if_pos hc65] at hf
              exact J66 (M) (x1) (x2) (x3) (x4) (x5) hf hx1 hx2 hx3 hx4 hx5 _ _ _ hW hS (lv_sub hl [0, 1, 2, 3, 4, 5] rfl)
            · rw [if_neg hc65] at hf
              refine lv_iload hx hb dL_isBay_70 (lv_at hl 4 rfl) ?_
              refine k_if_ne (tgt := 115) hx hb hx4 dL_isBay_72 (by decide) (fun hc77 => ?_) (fun hc77 => ?_)
              · rw [if_neg hc77] at hf
                refine k_const hx hb dL_isBay_115 ?_
                exact J12 (M) (x1) (x3) (0) hf hx1 hx3 (show inR (0) by decide) _ _ _ hW hS (lv_sub hl [0, 1, 3] rfl)
              · rw [if_pos hc77] at hf
                exact J66 (M) (x1) (x2) (x3) (x4) (x5) hf hx1 hx2 hx3 hx4 hx5 _ _ _ hW hS (lv_sub hl [0, 1, 2, 3, 4, 5] rfl)
  have J8 : ∀ (M : MemG) (x1 : Int) (x2 : Int) (x3 : Int) (x4 : Int) (t0 : Int), fL_isBay_j31 M x1 x2 x3 x4 t0 = some r → inR x1 → inR x2 → inR x3 → inR x4 → inR t0 →  ∀ (H : Heap) (locs : List Loc) (ls : Array Slot), Wd G M s H → va_S (PA G) s.heap H locs → lv_has ls 11 [(0, .ref (gA G (0))), (1, .int (i3 (x1))), (2, .int (i3 (x2))), (3, .int (i3 (x3))), (4, .int (i3 (x4)))] → W p l e ({ frames := 11, cells := 0, slots := 0, locals := 266 } : Room) s m args below meth c H locs 0 0 (MQ below (QcZ G r.1 r.2) args s 0 0 (PA G)) (F0 m 31 ls [.int (i3 (t0))]) := by
    intro M x1 x2 x3 x4 t0 hf hx1 hx2 hx3 hx4 ht0 H locs ls hW hS hl
    unfold fL_isBay_j31 at hf
    refine lv_istore (lv' := [(5, .int (i3 (t0))), (0, .ref (gA G (0))), (1, .int (i3 (x1))), (2, .int (i3 (x2))), (3, .int (i3 (x3))), (4, .int (i3 (x4)))]) hx hb dL_isBay_31 hl (by decide) rfl (fun ls hl => ?_)
    refine lv_iload_n hx hb dL_isBay_33 rfl (lv_at hl 3 rfl) ?_
    refine k_bipush hx hb dL_isBay_34 (by decide +kernel) ?_
    refine k_icmp_ne (tgt := 43) hx hb hx2 (show inR (-15) by decide) dL_isBay_36 (by decide) (fun hc9 => ?_) (fun hc9 => ?_)
    · rw [if_neg hc9] at hf
      refine k_const hx hb dL_isBay_43 ?_
      exact J10 (M) (x1) (x2) (x3) (x4) (t0) (0) hf hx1 hx2 hx3 hx4 ht0 (show inR (0) by decide) _ _ _ hW hS (lv_sub hl [1, 2, 3, 4, 5, 0] rfl)
    · rw [if_pos hc9] at hf
      refine k_const hx hb dL_isBay_39 ?_
      refine lv_goto (tgt := 44) hx hb dL_isBay_40 (by decide) ?_
      exact J10 (M) (x1) (x2) (x3) (x4) (t0) (1) hf hx1 hx2 hx3 hx4 ht0 (show inR (1) by decide) _ _ _ hW hS (lv_sub hl [1, 2, 3, 4, 5, 0] rfl)
  refine lv_aload_n hx hb dL_isBay_0 rfl (lv_at hl 0 rfl) ?_
  refine lv_iload_n hx hb dL_isBay_1 rfl (lv_at hl 1 rfl) ?_
  refine k_const hx hb dL_isBay_2 ?_
  obtain ⟨q1, hq1, hf⟩ := bind_el hf
  refine k_cVi (As := [.int (i3 (x1)), .int (i3 (0))]) (rest := []) ⟨hx, hb, hml, hown, hts⟩ (mG_bayOf l G M0 x1 hx1 0 (show inR (0) by decide) q1 hq1) (cwV 2 hts (gbV (inB_9 _ (List.mem_of_getElem? (i := 17) rfl)) (inB_9 _ (List.mem_of_getElem? (i := 18) rfl)) (inB_9 _ (List.mem_of_getElem? (i := 19) rfl)) (inB_1 _ (List.mem_of_getElem? (i := 2) rfl)) (inB_9 _ (List.mem_of_getElem? (i := 20) rfl))) rfl rfl rfl (by decide +kernel) ⟨Nat.le_of_ble_eq_true rfl, Nat.le_of_ble_eq_true rfl⟩) (rv_G hW) hW hS rfl hl.1 rfl (lv_room (Nat.le_of_ble_eq_true rfl)) dL_isBay_3 ⟨Nat.zero_le _, Nat.zero_le _⟩ (fun hv2 H locs hW hS => ?_)
  refine lv_istore_n (lv' := [(2, .int (i3 (q1))), (0, .ref (gA G (0))), (1, .int (i3 (x1)))]) hx hb dL_isBay_6 rfl hl (by decide) rfl (fun ls hl => ?_)
  refine lv_aload_n hx hb dL_isBay_7 rfl (lv_at hl 1 rfl) ?_
  refine lv_iload_n hx hb dL_isBay_8 rfl (lv_at hl 2 rfl) ?_
  refine k_const hx hb dL_isBay_9 ?_
  obtain ⟨q3, hq3, hf⟩ := bind_el hf
  refine k_cVi (As := [.int (i3 (x1)), .int (i3 (1))]) (rest := []) ⟨hx, hb, hml, hown, hts⟩ (mG_bayOf l G M0 x1 hx1 1 (show inR (1) by decide) q3 hq3) (cwV 2 hts (gbV (inB_9 _ (List.mem_of_getElem? (i := 17) rfl)) (inB_9 _ (List.mem_of_getElem? (i := 18) rfl)) (inB_9 _ (List.mem_of_getElem? (i := 19) rfl)) (inB_1 _ (List.mem_of_getElem? (i := 2) rfl)) (inB_9 _ (List.mem_of_getElem? (i := 20) rfl))) rfl rfl rfl (by decide +kernel) ⟨Nat.le_of_ble_eq_true rfl, Nat.le_of_ble_eq_true rfl⟩) (rv_G hW) hW hS rfl hl.1 rfl (lv_room (Nat.le_of_ble_eq_true rfl)) dL_isBay_10 ⟨Nat.zero_le _, Nat.zero_le _⟩ (fun hv4 H locs hW hS => ?_)
  refine lv_istore_n (lv' := [(3, .int (i3 (q3))), (2, .int (i3 (q1))), (0, .ref (gA G (0))), (1, .int (i3 (x1)))]) hx hb dL_isBay_13 rfl hl (by decide) rfl (fun ls hl => ?_)
  refine lv_aload_n hx hb dL_isBay_14 rfl (lv_at hl 2 rfl) ?_
  refine lv_iload_n hx hb dL_isBay_15 rfl (lv_at hl 3 rfl) ?_
  refine k_const hx hb dL_isBay_16 ?_
  obtain ⟨q5, hq5, hf⟩ := bind_el hf
  refine k_cVi (As := [.int (i3 (x1)), .int (i3 (2))]) (rest := []) ⟨hx, hb, hml, hown, hts⟩ (mG_bayOf l G M0 x1 hx1 2 (show inR (2) by decide) q5 hq5) (cwV 2 hts (gbV (inB_9 _ (List.mem_of_getElem? (i := 17) rfl)) (inB_9 _ (List.mem_of_getElem? (i := 18) rfl)) (inB_9 _ (List.mem_of_getElem? (i := 19) rfl)) (inB_1 _ (List.mem_of_getElem? (i := 2) rfl)) (inB_9 _ (List.mem_of_getElem? (i := 20) rfl))) rfl rfl rfl (by decide +kernel) ⟨Nat.le_of_ble_eq_true rfl, Nat.le_of_ble_eq_true rfl⟩) (rv_G hW) hW hS rfl hl.1 rfl (lv_room (Nat.le_of_ble_eq_true rfl)) dL_isBay_17 ⟨Nat.zero_le _, Nat.zero_le _⟩ (fun hv6 H locs hW hS => ?_)
  refine lv_istore (lv' := [(4, .int (i3 (q5))), (3, .int (i3 (q3))), (2, .int (i3 (q1))), (0, .ref (gA G (0))), (1, .int (i3 (x1)))]) hx hb dL_isBay_20 hl (by decide) rfl (fun ls hl => ?_)
  refine lv_iload_n hx hb dL_isBay_22 rfl (lv_at hl 1 rfl) ?_
  refine k_if_ne (tgt := 30) hx hb hv4 dL_isBay_23 (by decide) (fun hc7 => ?_) (fun hc7 => ?_)
  · rw [if_neg hc7] at hf
    refine k_const hx hb dL_isBay_30 ?_
    exact J8 (M0) (x1) (q1) (q3) (q5) (0) hf hx1 hv2 hv4 hv6 (show inR (0) by decide) _ _ _ hW hS (lv_sub hl [3, 4, 2, 1, 0] rfl)
  · rw [if_pos hc7] at hf
    refine k_const hx hb dL_isBay_26 ?_
    refine lv_goto (tgt := 31) hx hb dL_isBay_27 (by decide) ?_
    exact J8 (M0) (x1) (q1) (q3) (q5) (1) hf hx1 hv2 hv4 hv6 (show inR (1) by decide) _ _ _ hW hS (lv_sub hl [3, 4, 2, 1, 0] rfl)
set_option maxHeartbeats 4000000 in
set_option maxRecDepth 100000 in
theorem mL_isRung (l : Launch) (G : gG) (M0 : MemG) (x1 : Int) (hx1 : inR x1) (r : MemG × Int) (hf : fL_isRung M0 x1 = some r) : Met l yL_isRung (wb yL_isRung cL_isRung 6 (some .boolean)) ({ frames := 4, cells := 0, slots := 0, locals := 88 } : Room) (PcG G M0 [.ref (gA G (0)), .int (i3 (x1))]) (QcZ G r.1 r.2) 0 0 (PA G) := by
  refine Met.ofW (cc := cL_isRung) (maxL := 6) (ret := (some .boolean)) (by decide) rfl ?_
  intro p e s m args below meth c s₁ B hml hv0
  obtain ⟨hav, hW⟩ := hv0
  have hx := B.exec
  have hb := B.bytes
  have hr := B.returns
  have hts := atoms_spec (ws := (wb yL_isRung cL_isRung 6 (some .boolean))) B.pre
  have hown : s.vm.findClass RL = some m.cls := findClass_of_methodNamed B.named
  have hlocks := B.notSynchronized
  have hW : Wd G M0 s s.heap := hW
  have hS : va_S (PA G) s.heap s.heap [] := va_S.rf
  have hl := lv_entry [.ref (gA G (0)), .int (i3 (x1))] (n := 6) (Nat.le_of_ble_eq_true rfl)
  have hent := lg_entry_eq m [.ref (gA G (0)), .int (i3 (x1))] 6
  rw [← hav] at hent
  rw [hent]
  clear hent
  generalize (lg_sl [.ref (gA G (0)), .int (i3 (x1))] ++ List.replicate (6 - (lg_sl [.ref (gA G (0)), .int (i3 (x1))]).length) Slot.unset).toArray = ls at hl ⊢
  have hl : lv_has ls 6 [(0, .ref (gA G (0))), (1, .int (i3 (x1)))] := hl
  unfold fL_isRung at hf
  show W p l e ({ frames := 4, cells := 0, slots := 0, locals := 88 } : Room) s m args below meth c s.heap [] 0 0 (MQ below (QcZ G r.1 r.2) args s 0 0 (PA G)) (F0 m 0 ls [])
  have J42 : ∀ (M : MemG) (t0 : Int) (t1 : Int) (t2 : Int), fL_isRung_j165 M t0 t1 t2 = some r → inR t0 → inR t1 → inR t2 →  ∀ (H : Heap) (locs : List Loc) (ls : Array Slot), Wd G M s H → va_S (PA G) s.heap H locs → lv_has ls 6 [] → W p l e ({ frames := 4, cells := 0, slots := 0, locals := 88 } : Room) s m args below meth c H locs 0 0 (MQ below (QcZ G r.1 r.2) args s 0 0 (PA G)) (F0 m 165 ls [.int (i3 (t2)), .int (i3 (t1)), .int (i3 (t0))]) := by
    intro M t0 t1 t2 hf ht0 ht1 ht2 H locs ls hW hS hl
    unfold fL_isRung_j165 at hf
    refine k_add hx hb dL_isRung_165 ?_
    obtain ⟨hg43, hf⟩ := gd_el hf
    refine k_icmp_ne (tgt := 173) hx hb ht0 hg43 dL_isRung_166 (by decide) (fun hc44 => ?_) (fun hc44 => ?_)
    · rw [if_neg hc44] at hf
      refine k_const hx hb dL_isRung_173 ?_
      obtain rfl := some_el hf
      exact k_retz hx hb hr hlocks hW hS rfl (show (0 : Int) = 0 ∨ (0 : Int) = 1 by decide) dL_isRung_174
    · rw [if_pos hc44] at hf
      refine k_const hx hb dL_isRung_169 ?_
      refine lv_goto (tgt := 174) hx hb dL_isRung_170 (by decide) ?_
      obtain rfl := some_el hf
      exact k_retz hx hb hr hlocks hW hS rfl (show (1 : Int) = 0 ∨ (1 : Int) = 1 by decide) dL_isRung_174
  have J34 : ∀ (M : MemG) (x1 : Int) (x4 : Int) (x5 : Int) (t0 : Int), fL_isRung_j128 M x1 x4 x5 t0 = some r → inR x1 → inR x4 → inR x5 → inR t0 →  ∀ (H : Heap) (locs : List Loc) (ls : Array Slot), Wd G M s H → va_S (PA G) s.heap H locs → lv_has ls 6 [(0, .ref (gA G (0))), (1, .int (i3 (x1))), (4, .int (i3 (x4))), (5, .int (i3 (x5)))] → W p l e ({ frames := 4, cells := 0, slots := 0, locals := 88 } : Room) s m args below meth c H locs 0 0 (MQ below (QcZ G r.1 r.2) args s 0 0 (PA G)) (F0 m 128 ls [.int (i3 (t0))]) := by
    intro M x1 x4 x5 t0 hf hx1 hx4 hx5 ht0 H locs ls hW hS hl
    unfold fL_isRung_j128 at hf
    refine lv_iload hx hb dL_isRung_128 (lv_at hl 2 rfl) ?_
    refine k_icmp_ne (tgt := 173) hx hb ht0 hx4 dL_isRung_130 (by decide) (fun hc35 => ?_) (fun hc35 => ?_)
    · rw [if_neg hc35] at hf
      refine k_const hx hb dL_isRung_173 ?_
      obtain rfl := some_el hf
      exact k_retz hx hb hr hlocks hW hS rfl (show (0 : Int) = 0 ∨ (0 : Int) = 1 by decide) dL_isRung_174
    · rw [if_pos hc35] at hf
      refine lv_aload_n hx hb dL_isRung_133 rfl (lv_at hl 0 rfl) ?_
      refine lv_iload hx hb dL_isRung_134 (lv_at hl 3 rfl) ?_
      obtain ⟨q36, hq36, hf⟩ := bind_el hf
      refine k_cVi (As := [.int (i3 (x5))]) (rest := []) ⟨hx, hb, hml, hown, hts⟩ (mG_character l G M x5 hx5 q36 hq36) (cwV 1 hts (gbV (inB_25 _ (List.mem_of_getElem? (i := 19) rfl)) (inB_25 _ (List.mem_of_getElem? (i := 20) rfl)) (inB_25 _ (List.mem_of_getElem? (i := 21) rfl)) (inB_1 _ (List.mem_of_getElem? (i := 2) rfl)) (inB_25 _ (List.mem_of_getElem? (i := 22) rfl))) rfl rfl rfl (by decide +kernel) ⟨Nat.le_of_ble_eq_true rfl, Nat.le_of_ble_eq_true rfl⟩) (rv_G hW) hW hS rfl hl.1 rfl (lv_room (Nat.le_of_ble_eq_true rfl)) dL_isRung_136 ⟨Nat.zero_le _, Nat.zero_le _⟩ (fun hv37 H locs hW hS => ?_)
      refine k_bipush hx hb dL_isRung_139 (by decide +kernel) ?_
      refine k_icmp_ne (tgt := 173) hx hb hv37 (show inR (-11) by decide) dL_isRung_141 (by decide) (fun hc38 => ?_) (fun hc38 => ?_)
      · rw [if_neg hc38] at hf
        refine k_const hx hb dL_isRung_173 ?_
        obtain rfl := some_el hf
        exact k_retz hx hb hr hlocks hW hS rfl (show (0 : Int) = 0 ∨ (0 : Int) = 1 by decide) dL_isRung_174
      · rw [if_pos hc38] at hf
        refine lv_aload_n hx hb dL_isRung_144 rfl (lv_at hl 0 rfl) ?_
        refine k_const hx hb dL_isRung_145 ?_
        obtain ⟨q39, hq39, hf⟩ := bind_el hf
        refine k_cVi (As := [.int (i3 (0))]) (rest := []) ⟨hx, hb, hml, hown, hts⟩ (mG_character l G M 0 (show inR (0) by decide) q39 hq39) (cwV 1 hts (gbV (inB_25 _ (List.mem_of_getElem? (i := 19) rfl)) (inB_25 _ (List.mem_of_getElem? (i := 20) rfl)) (inB_25 _ (List.mem_of_getElem? (i := 21) rfl)) (inB_1 _ (List.mem_of_getElem? (i := 2) rfl)) (inB_25 _ (List.mem_of_getElem? (i := 22) rfl))) rfl rfl rfl (by decide +kernel) ⟨Nat.le_of_ble_eq_true rfl, Nat.le_of_ble_eq_true rfl⟩) (rv_G hW) hW hS rfl hl.1 rfl (lv_room (Nat.le_of_ble_eq_true rfl)) dL_isRung_146 ⟨Nat.zero_le _, Nat.zero_le _⟩ (fun hv40 H locs hW hS => ?_)
        refine k_bipush hx hb dL_isRung_149 (by decide +kernel) ?_
        refine lv_iload_n hx hb dL_isRung_151 rfl (lv_at hl 1 rfl) ?_
        refine k_bipush hx hb dL_isRung_152 (by decide +kernel) ?_
        refine k_icmp_le (tgt := 164) hx hb hx1 (show inR (9) by decide) dL_isRung_154 (by decide) (fun hc41 => ?_) (fun hc41 => ?_)
        · rw [if_neg hc41] at hf
          refine lv_iload_n hx hb dL_isRung_164 rfl (lv_at hl 1 rfl) ?_
          exact J42 (M) (q39) (48) (x1) hf hv40 (show inR (48) by decide) hx1 _ _ _ hW hS (lv_sub hl [] rfl)
        · rw [if_pos hc41] at hf
          refine lv_iload_n hx hb dL_isRung_157 rfl (lv_at hl 1 rfl) ?_
          refine k_bipush hx hb dL_isRung_158 (by decide +kernel) ?_
          obtain ⟨hg45, hf⟩ := gq_el hf
          refine k_div hx hb dL_isRung_160 hx1 (show inR (10) by decide) hg45 ?_
          refine lv_goto (tgt := 165) hx hb dL_isRung_161 (by decide) ?_
          exact J42 (M) (q39) (48) (x1 / 10) hf hv40 (show inR (48) by decide) (inR_div hx1 hg45.1 hg45.2) _ _ _ hW hS (lv_sub hl [] rfl)
  have J29 : ∀ (M : MemG) (x1 : Int) (x4 : Int) (x5 : Int), fL_isRung_j110 M x1 x4 x5 = some r → inR x1 → inR x4 → inR x5 →  ∀ (H : Heap) (locs : List Loc) (ls : Array Slot), Wd G M s H → va_S (PA G) s.heap H locs → lv_has ls 6 [(0, .ref (gA G (0))), (1, .int (i3 (x1))), (4, .int (i3 (x4))), (5, .int (i3 (x5)))] → W p l e ({ frames := 4, cells := 0, slots := 0, locals := 88 } : Room) s m args below meth c H locs 0 0 (MQ below (QcZ G r.1 r.2) args s 0 0 (PA G)) (F0 m 110 ls []) := by
    intro M x1 x4 x5 hf hx1 hx4 hx5 H locs ls hW hS hl
    unfold fL_isRung_j110 at hf
    refine lv_aload_n hx hb dL_isRung_110 rfl (lv_at hl 0 rfl) ?_
    refine lv_iload hx hb dL_isRung_111 (lv_at hl 3 rfl) ?_
    refine k_const hx hb dL_isRung_113 ?_
    refine k_sub hx hb dL_isRung_114 ?_
    obtain ⟨hg30, hf⟩ := gd_el hf
    obtain ⟨q31, hq31, hf⟩ := bind_el hf
    refine k_cVi (As := [.int (i3 (x5 - 1))]) (rest := []) ⟨hx, hb, hml, hown, hts⟩ (mG_character l G M (x5 - 1) hg30 q31 hq31) (cwV 1 hts (gbV (inB_25 _ (List.mem_of_getElem? (i := 19) rfl)) (inB_25 _ (List.mem_of_getElem? (i := 20) rfl)) (inB_25 _ (List.mem_of_getElem? (i := 21) rfl)) (inB_1 _ (List.mem_of_getElem? (i := 2) rfl)) (inB_25 _ (List.mem_of_getElem? (i := 22) rfl))) rfl rfl rfl (by decide +kernel) ⟨Nat.le_of_ble_eq_true rfl, Nat.le_of_ble_eq_true rfl⟩) (rv_G hW) hW hS rfl hl.1 rfl (lv_room (Nat.le_of_ble_eq_true rfl)) dL_isRung_115 ⟨Nat.zero_le _, Nat.zero_le _⟩ (fun hv32 H locs hW hS => ?_)
    refine k_bipush hx hb dL_isRung_118 (by decide +kernel) ?_
    refine k_icmp_ne (tgt := 127) hx hb hv32 (show inR (33) by decide) dL_isRung_120 (by decide) (fun hc33 => ?_) (fun hc33 => ?_)
    · rw [if_neg hc33] at hf
      refine k_const hx hb dL_isRung_127 ?_
      exact J34 (M) (x1) (x4) (x5) (0) hf hx1 hx4 hx5 (show inR (0) by decide) _ _ _ hW hS (lv_sub hl [0, 1, 2, 3] rfl)
    · rw [if_pos hc33] at hf
      refine k_const hx hb dL_isRung_123 ?_
      refine lv_goto (tgt := 128) hx hb dL_isRung_124 (by decide) ?_
      exact J34 (M) (x1) (x4) (x5) (1) hf hx1 hx4 hx5 (show inR (1) by decide) _ _ _ hW hS (lv_sub hl [0, 1, 2, 3] rfl)
  have J8 : ∀ (M : MemG) (x1 : Int) (x2 : Int) (x3 : Int) (t0 : Int), fL_isRung_j31 M x1 x2 x3 t0 = some r → inR x1 → inR x2 → inR x3 → inR t0 →  ∀ (H : Heap) (locs : List Loc) (ls : Array Slot), Wd G M s H → va_S (PA G) s.heap H locs → lv_has ls 6 [(0, .ref (gA G (0))), (1, .int (i3 (x1))), (2, .int (i3 (x2))), (3, .int (i3 (x3)))] → W p l e ({ frames := 4, cells := 0, slots := 0, locals := 88 } : Room) s m args below meth c H locs 0 0 (MQ below (QcZ G r.1 r.2) args s 0 0 (PA G)) (F0 m 31 ls [.int (i3 (t0))]) := by
    intro M x1 x2 x3 t0 hf hx1 hx2 hx3 ht0 H locs ls hW hS hl
    unfold fL_isRung_j31 at hf
    refine lv_istore (lv' := [(4, .int (i3 (t0))), (0, .ref (gA G (0))), (1, .int (i3 (x1))), (2, .int (i3 (x2))), (3, .int (i3 (x3)))]) hx hb dL_isRung_31 hl (by decide) rfl (fun ls hl => ?_)
    refine lv_aload_n hx hb dL_isRung_33 rfl (lv_at hl 1 rfl) ?_
    refine lv_iload_n hx hb dL_isRung_34 rfl (lv_at hl 2 rfl) ?_
    obtain ⟨q9, hq9, hf⟩ := bind_el hf
    refine k_cVi (As := [.int (i3 (x1))]) (rest := []) ⟨hx, hb, hml, hown, hts⟩ (mG_tellRung l G M x1 hx1 q9 hq9) (cwV 1 hts (gbV (inB_24 _ (List.mem_of_getElem? (i := 22) rfl)) (inB_24 _ (List.mem_of_getElem? (i := 23) rfl)) (inB_25 _ (List.mem_of_getElem? (i := 0) rfl)) (inB_1 _ (List.mem_of_getElem? (i := 2) rfl)) (inB_25 _ (List.mem_of_getElem? (i := 1) rfl))) rfl rfl rfl (by decide +kernel) ⟨Nat.le_of_ble_eq_true rfl, Nat.le_of_ble_eq_true rfl⟩) (rv_G hW) hW hS rfl hl.1 rfl (lv_room (Nat.le_of_ble_eq_true rfl)) dL_isRung_35 ⟨Nat.zero_le _, Nat.zero_le _⟩ (fun hv10 H locs hW hS => ?_)
    refine lv_istore (lv' := [(5, .int (i3 (q9.2))), (4, .int (i3 (t0))), (0, .ref (gA G (0))), (1, .int (i3 (x1))), (2, .int (i3 (x2))), (3, .int (i3 (x3)))]) hx hb dL_isRung_38 hl (by decide) rfl (fun ls hl => ?_)
    refine lv_aload_n hx hb dL_isRung_40 rfl (lv_at hl 2 rfl) ?_
    refine lv_iload_n hx hb dL_isRung_41 rfl (lv_at hl 3 rfl) ?_
    refine k_const hx hb dL_isRung_42 ?_
    obtain ⟨q11, hq11, hf⟩ := bind_el hf
    refine k_cVi (As := [.int (i3 (x1)), .int (i3 (0))]) (rest := []) ⟨hx, hb, hml, hown, hts⟩ (mG_rungOf l G q9.1 x1 hx1 0 (show inR (0) by decide) q11 hq11) (cwV 2 hts (gbV (inB_10 _ (List.mem_of_getElem? (i := 9) rfl)) (inB_10 _ (List.mem_of_getElem? (i := 10) rfl)) (inB_10 _ (List.mem_of_getElem? (i := 11) rfl)) (inB_1 _ (List.mem_of_getElem? (i := 2) rfl)) (inB_10 _ (List.mem_of_getElem? (i := 12) rfl))) rfl rfl rfl (by decide +kernel) ⟨Nat.le_of_ble_eq_true rfl, Nat.le_of_ble_eq_true rfl⟩) (rv_G hW) hW hS rfl hl.1 rfl (lv_room (Nat.le_of_ble_eq_true rfl)) dL_isRung_43 ⟨Nat.zero_le _, Nat.zero_le _⟩ (fun hv12 H locs hW hS => ?_)
    refine lv_iload_n hx hb dL_isRung_46 rfl (lv_at hl 4 rfl) ?_
    refine k_icmp_ne (tgt := 173) hx hb hv12 hx2 dL_isRung_47 (by decide) (fun hc13 => ?_) (fun hc13 => ?_)
    · rw [if_neg hc13] at hf
      refine k_const hx hb dL_isRung_173 ?_
      obtain rfl := some_el hf
      exact k_retz hx hb hr hlocks hW hS rfl (show (0 : Int) = 0 ∨ (0 : Int) = 1 by decide) dL_isRung_174
    · rw [if_pos hc13] at hf
      refine lv_aload_n hx hb dL_isRung_50 rfl (lv_at hl 2 rfl) ?_
      refine lv_iload_n hx hb dL_isRung_51 rfl (lv_at hl 3 rfl) ?_
      refine k_const hx hb dL_isRung_52 ?_
      obtain ⟨q14, hq14, hf⟩ := bind_el hf
      refine k_cVi (As := [.int (i3 (x1)), .int (i3 (1))]) (rest := []) ⟨hx, hb, hml, hown, hts⟩ (mG_rungOf l G q9.1 x1 hx1 1 (show inR (1) by decide) q14 hq14) (cwV 2 hts (gbV (inB_10 _ (List.mem_of_getElem? (i := 9) rfl)) (inB_10 _ (List.mem_of_getElem? (i := 10) rfl)) (inB_10 _ (List.mem_of_getElem? (i := 11) rfl)) (inB_1 _ (List.mem_of_getElem? (i := 2) rfl)) (inB_10 _ (List.mem_of_getElem? (i := 12) rfl))) rfl rfl rfl (by decide +kernel) ⟨Nat.le_of_ble_eq_true rfl, Nat.le_of_ble_eq_true rfl⟩) (rv_G hW) hW hS rfl hl.1 rfl (lv_room (Nat.le_of_ble_eq_true rfl)) dL_isRung_53 ⟨Nat.zero_le _, Nat.zero_le _⟩ (fun hv15 H locs hW hS => ?_)
      refine lv_iload_n hx hb dL_isRung_56 rfl (lv_at hl 5 rfl) ?_
      refine k_icmp_ne (tgt := 173) hx hb hv15 hx3 dL_isRung_57 (by decide) (fun hc16 => ?_) (fun hc16 => ?_)
      · rw [if_neg hc16] at hf
        refine k_const hx hb dL_isRung_173 ?_
        obtain rfl := some_el hf
        exact k_retz hx hb hr hlocks hW hS rfl (show (0 : Int) = 0 ∨ (0 : Int) = 1 by decide) dL_isRung_174
      · rw [if_pos hc16] at hf
        refine lv_aload_n hx hb dL_isRung_60 rfl (lv_at hl 2 rfl) ?_
        refine lv_iload_n hx hb dL_isRung_61 rfl (lv_at hl 3 rfl) ?_
        refine k_const hx hb dL_isRung_62 ?_
        obtain ⟨q17, hq17, hf⟩ := bind_el hf
        refine k_cVi (As := [.int (i3 (x1)), .int (i3 (2))]) (rest := []) ⟨hx, hb, hml, hown, hts⟩ (mG_rungOf l G q9.1 x1 hx1 2 (show inR (2) by decide) q17 hq17) (cwV 2 hts (gbV (inB_10 _ (List.mem_of_getElem? (i := 9) rfl)) (inB_10 _ (List.mem_of_getElem? (i := 10) rfl)) (inB_10 _ (List.mem_of_getElem? (i := 11) rfl)) (inB_1 _ (List.mem_of_getElem? (i := 2) rfl)) (inB_10 _ (List.mem_of_getElem? (i := 12) rfl))) rfl rfl rfl (by decide +kernel) ⟨Nat.le_of_ble_eq_true rfl, Nat.le_of_ble_eq_true rfl⟩) (rv_G hW) hW hS rfl hl.1 rfl (lv_room (Nat.le_of_ble_eq_true rfl)) dL_isRung_63 ⟨Nat.zero_le _, Nat.zero_le _⟩ (fun hv18 H locs hW hS => ?_)
        refine k_bipush hx hb dL_isRung_66 (by decide +kernel) ?_
        refine lv_iload_n hx hb dL_isRung_68 rfl (lv_at hl 4 rfl) ?_
        refine k_mul hx hb dL_isRung_69 ?_
        obtain ⟨hg19, hf⟩ := gd_el hf
        refine k_icmp_ne (tgt := 173) hx hb hv18 hg19 dL_isRung_70 (by decide) (fun hc20 => ?_) (fun hc20 => ?_)
        · rw [if_neg hc20] at hf
          refine k_const hx hb dL_isRung_173 ?_
          obtain rfl := some_el hf
          exact k_retz hx hb hr hlocks hW hS rfl (show (0 : Int) = 0 ∨ (0 : Int) = 1 by decide) dL_isRung_174
        · rw [if_pos hc20] at hf
          refine lv_aload_n hx hb dL_isRung_73 rfl (lv_at hl 2 rfl) ?_
          refine lv_iload_n hx hb dL_isRung_74 rfl (lv_at hl 3 rfl) ?_
          refine k_const hx hb dL_isRung_75 ?_
          obtain ⟨q21, hq21, hf⟩ := bind_el hf
          refine k_cVi (As := [.int (i3 (x1)), .int (i3 (4))]) (rest := []) ⟨hx, hb, hml, hown, hts⟩ (mG_rungOf l G q9.1 x1 hx1 4 (show inR (4) by decide) q21 hq21) (cwV 2 hts (gbV (inB_10 _ (List.mem_of_getElem? (i := 9) rfl)) (inB_10 _ (List.mem_of_getElem? (i := 10) rfl)) (inB_10 _ (List.mem_of_getElem? (i := 11) rfl)) (inB_1 _ (List.mem_of_getElem? (i := 2) rfl)) (inB_10 _ (List.mem_of_getElem? (i := 12) rfl))) rfl rfl rfl (by decide +kernel) ⟨Nat.le_of_ble_eq_true rfl, Nat.le_of_ble_eq_true rfl⟩) (rv_G hW) hW hS rfl hl.1 rfl (lv_room (Nat.le_of_ble_eq_true rfl)) dL_isRung_76 ⟨Nat.zero_le _, Nat.zero_le _⟩ (fun hv22 H locs hW hS => ?_)
          refine lv_iload_n hx hb dL_isRung_79 rfl (lv_at hl 3 rfl) ?_
          refine lv_iload_n hx hb dL_isRung_80 rfl (lv_at hl 4 rfl) ?_
          refine k_sub hx hb dL_isRung_81 ?_
          obtain ⟨hg23, hf⟩ := gd_el hf
          refine k_icmp_ne (tgt := 173) hx hb hv22 hg23 dL_isRung_82 (by decide) (fun hc24 => ?_) (fun hc24 => ?_)
          · rw [if_neg hc24] at hf
            refine k_const hx hb dL_isRung_173 ?_
            obtain rfl := some_el hf
            exact k_retz hx hb hr hlocks hW hS rfl (show (0 : Int) = 0 ∨ (0 : Int) = 1 by decide) dL_isRung_174
          · rw [if_pos hc24] at hf
            refine k_const hx hb dL_isRung_85 ?_
            refine lv_aload_n hx hb dL_isRung_86 rfl (lv_at hl 2 rfl) ?_
            refine lv_iload_n hx hb dL_isRung_87 rfl (lv_at hl 3 rfl) ?_
            refine k_const hx hb dL_isRung_88 ?_
            obtain ⟨q25, hq25, hf⟩ := bind_el hf
            refine k_cVi (As := [.int (i3 (x1)), .int (i3 (5))]) (rest := [.int (i3 (1))]) ⟨hx, hb, hml, hown, hts⟩ (mG_rungOf l G q9.1 x1 hx1 5 (show inR (5) by decide) q25 hq25) (cwV 2 hts (gbV (inB_10 _ (List.mem_of_getElem? (i := 9) rfl)) (inB_10 _ (List.mem_of_getElem? (i := 10) rfl)) (inB_10 _ (List.mem_of_getElem? (i := 11) rfl)) (inB_1 _ (List.mem_of_getElem? (i := 2) rfl)) (inB_10 _ (List.mem_of_getElem? (i := 12) rfl))) rfl rfl rfl (by decide +kernel) ⟨Nat.le_of_ble_eq_true rfl, Nat.le_of_ble_eq_true rfl⟩) (rv_G hW) hW hS rfl hl.1 rfl (lv_room (Nat.le_of_ble_eq_true rfl)) dL_isRung_89 ⟨Nat.zero_le _, Nat.zero_le _⟩ (fun hv26 H locs hW hS => ?_)
            refine k_shl hx hb dL_isRung_92 ?_
            refine lv_iload_n hx hb dL_isRung_93 rfl (lv_at hl 4 rfl) ?_
            refine k_icmp_ne (tgt := 173) hx hb (inR_toInt _) hx2 dL_isRung_94 (by decide) (fun hc27 => ?_) (fun hc27 => ?_)
            · rw [if_neg hc27] at hf
              refine k_const hx hb dL_isRung_173 ?_
              obtain rfl := some_el hf
              exact k_retz hx hb hr hlocks hW hS rfl (show (0 : Int) = 0 ∨ (0 : Int) = 1 by decide) dL_isRung_174
            · rw [if_pos hc27] at hf
              refine lv_iload hx hb dL_isRung_97 (lv_at hl 1 rfl) ?_
              refine k_if_ne (tgt := 110) hx hb ht0 dL_isRung_99 (by decide) (fun hc28 => ?_) (fun hc28 => ?_)
              · rw [if_neg hc28] at hf
                exact J29 (q9.1) (x1) (t0) (q9.2) hf hx1 ht0 hv10 _ _ _ hW hS (lv_sub hl [2, 3, 1, 0] rfl)
              · rw [if_pos hc28] at hf
                refine lv_iload_n hx hb dL_isRung_102 rfl (lv_at hl 5 rfl) ?_
                refine k_bipush hx hb dL_isRung_103 (by decide +kernel) ?_
                refine lv_iload_n hx hb dL_isRung_105 rfl (lv_at hl 4 rfl) ?_
                refine k_mul hx hb dL_isRung_106 ?_
                obtain ⟨hg46, hf⟩ := gd_el hf
                refine k_icmp_gt (tgt := 173) hx hb hx3 hg46 dL_isRung_107 (by decide) (fun hc47 => ?_) (fun hc47 => ?_)
                · rw [if_pos hc47] at hf
                  refine k_const hx hb dL_isRung_173 ?_
                  obtain rfl := some_el hf
                  exact k_retz hx hb hr hlocks hW hS rfl (show (0 : Int) = 0 ∨ (0 : Int) = 1 by decide) dL_isRung_174
                · rw [if_neg hc47] at hf
                  exact J29 (q9.1) (x1) (t0) (q9.2) hf hx1 ht0 hv10 _ _ _ hW hS (lv_sub hl [2, 3, 1, 0] rfl)
  refine lv_iload_n hx hb dL_isRung_0 rfl (lv_at hl 1 rfl) ?_
  refine lv_iload_n hx hb dL_isRung_1 rfl (lv_at hl 1 rfl) ?_
  refine k_neg hx hb dL_isRung_2 ?_
  refine k_and hx hb dL_isRung_3 ?_
  refine lv_istore_n (lv' := [(2, .int (i3 (andI x1 (-x1)))), (0, .ref (gA G (0))), (1, .int (i3 (x1)))]) hx hb dL_isRung_4 rfl hl (by decide) rfl (fun ls hl => ?_)
  refine lv_aload_n hx hb dL_isRung_5 rfl (lv_at hl 1 rfl) ?_
  refine lv_iload_n hx hb dL_isRung_6 rfl (lv_at hl 2 rfl) ?_
  refine lv_iload_n hx hb dL_isRung_7 rfl (lv_at hl 0 rfl) ?_
  refine k_sub hx hb dL_isRung_8 ?_
  refine lv_iload_n hx hb dL_isRung_9 rfl (lv_at hl 2 rfl) ?_
  refine k_const hx hb dL_isRung_10 ?_
  refine k_sub hx hb dL_isRung_11 ?_
  obtain ⟨hg1, hf⟩ := gd_el hf
  obtain ⟨hg2, hf⟩ := gd_el hf
  obtain ⟨q3, hq3, hf⟩ := bind_el hf
  refine k_cVi (As := [.int (i3 (x1 - (andI x1 (-x1)))), .int (i3 (x1 - 1))]) (rest := []) ⟨hx, hb, hml, hown, hts⟩ (mG_sumAgain l G M0 (x1 - (andI x1 (-x1))) hg1 (x1 - 1) hg2 q3 hq3) (cwV 2 hts (gbV (inB_24 _ (List.mem_of_getElem? (i := 15) rfl)) (inB_24 _ (List.mem_of_getElem? (i := 16) rfl)) (inB_24 _ (List.mem_of_getElem? (i := 17) rfl)) (inB_1 _ (List.mem_of_getElem? (i := 2) rfl)) (inB_24 _ (List.mem_of_getElem? (i := 18) rfl))) rfl rfl rfl (by decide +kernel) ⟨Nat.le_of_ble_eq_true rfl, Nat.le_of_ble_eq_true rfl⟩) (rv_G hW) hW hS rfl hl.1 rfl (lv_room (Nat.le_of_ble_eq_true rfl)) dL_isRung_12 ⟨Nat.zero_le _, Nat.zero_le _⟩ (fun hv4 H locs hW hS => ?_)
  refine lv_istore_n (lv' := [(3, .int (i3 (q3))), (2, .int (i3 (andI x1 (-x1)))), (0, .ref (gA G (0))), (1, .int (i3 (x1)))]) hx hb dL_isRung_15 rfl hl (by decide) rfl (fun ls hl => ?_)
  refine lv_aload_n hx hb dL_isRung_16 rfl (lv_at hl 2 rfl) ?_
  refine lv_iload_n hx hb dL_isRung_17 rfl (lv_at hl 3 rfl) ?_
  refine k_const hx hb dL_isRung_18 ?_
  obtain ⟨q5, hq5, hf⟩ := bind_el hf
  refine k_cVi (As := [.int (i3 (x1)), .int (i3 (3))]) (rest := []) ⟨hx, hb, hml, hown, hts⟩ (mG_rungOf l G M0 x1 hx1 3 (show inR (3) by decide) q5 hq5) (cwV 2 hts (gbV (inB_10 _ (List.mem_of_getElem? (i := 9) rfl)) (inB_10 _ (List.mem_of_getElem? (i := 10) rfl)) (inB_10 _ (List.mem_of_getElem? (i := 11) rfl)) (inB_1 _ (List.mem_of_getElem? (i := 2) rfl)) (inB_10 _ (List.mem_of_getElem? (i := 12) rfl))) rfl rfl rfl (by decide +kernel) ⟨Nat.le_of_ble_eq_true rfl, Nat.le_of_ble_eq_true rfl⟩) (rv_G hW) hW hS rfl hl.1 rfl (lv_room (Nat.le_of_ble_eq_true rfl)) dL_isRung_19 ⟨Nat.zero_le _, Nat.zero_le _⟩ (fun hv6 H locs hW hS => ?_)
  refine k_const hx hb dL_isRung_22 ?_
  refine k_icmp_ne (tgt := 30) hx hb hv6 (show inR (1) by decide) dL_isRung_23 (by decide) (fun hc7 => ?_) (fun hc7 => ?_)
  · rw [if_neg hc7] at hf
    refine k_const hx hb dL_isRung_30 ?_
    exact J8 (M0) (x1) (andI x1 (-x1)) (q3) (0) hf hx1 (inR_toInt _) hv4 (show inR (0) by decide) _ _ _ hW hS (lv_sub hl [2, 3, 1, 0] rfl)
  · rw [if_pos hc7] at hf
    refine k_const hx hb dL_isRung_26 ?_
    refine lv_goto (tgt := 31) hx hb dL_isRung_27 (by decide) ?_
    exact J8 (M0) (x1) (andI x1 (-x1)) (q3) (1) hf hx1 (inR_toInt _) hv4 (show inR (1) by decide) _ _ _ hW hS (lv_sub hl [2, 3, 1, 0] rfl)
set_option maxHeartbeats 4000000 in
set_option maxRecDepth 100000 in
theorem mL_isFit (l : Launch) (G : gG) (M0 : MemG)  (r : MemG × Int) (hf : fL_isFit M0 = some r) : Met l yL_isFit (wb yL_isFit cL_isFit 7 (some .boolean)) ({ frames := 12, cells := 0, slots := 0, locals := 296 } : Room) (PcG G M0 [.ref (gA G (0))]) (QcZ G r.1 r.2) 0 0 (PA G) := by
  refine Met.ofW (cc := cL_isFit) (maxL := 7) (ret := (some .boolean)) (by decide) rfl ?_
  intro p e s m args below meth c s₁ B hml hv0
  obtain ⟨hav, hW⟩ := hv0
  have hx := B.exec
  have hb := B.bytes
  have hr := B.returns
  have hts := atoms_spec (ws := (wb yL_isFit cL_isFit 7 (some .boolean))) B.pre
  have hown : s.vm.findClass RL = some m.cls := findClass_of_methodNamed B.named
  have hlocks := B.notSynchronized
  have hW : Wd G M0 s s.heap := hW
  have hS : va_S (PA G) s.heap s.heap [] := va_S.rf
  have hl := lv_entry [.ref (gA G (0))] (n := 7) (Nat.le_of_ble_eq_true rfl)
  have hent := lg_entry_eq m [.ref (gA G (0))] 7
  rw [← hav] at hent
  rw [hent]
  clear hent
  generalize (lg_sl [.ref (gA G (0))] ++ List.replicate (7 - (lg_sl [.ref (gA G (0))]).length) Slot.unset).toArray = ls at hl ⊢
  have hl : lv_has ls 7 [(0, .ref (gA G (0)))] := hl
  unfold fL_isFit at hf
  show W p l e ({ frames := 12, cells := 0, slots := 0, locals := 296 } : Room) s m args below meth c s.heap [] 0 0 (MQ below (QcZ G r.1 r.2) args s 0 0 (PA G)) (F0 m 0 ls [])
  have L18 : ∀ (x3 : Int) (hx3 : inR x3), ∀ (z : (Int × Int × Int × Int × MemG)) (q : (Int × Int × Int × MemG)), loopN (fL_isFit_l38 x3) 200 z = some q → (inR (q.1) → inR (q.2.1) → inR (q.2.2.1) → ∀ (H : Heap) (locs : List Loc) (ls : Array Slot), Wd G (q.2.2.2) s H → va_S (PA G) s.heap H locs → lv_has ls 7 [(0, .ref (gA G (0))), (1, .int (i3 (q.1))), (2, .int (i3 (q.2.1))), (3, .int (i3 (x3))), (4, .int (i3 (q.2.2.1)))] → W p l e ({ frames := 12, cells := 0, slots := 0, locals := 296 } : Room) s m args below meth c H locs 0 0 (MQ below (QcZ G r.1 r.2) args s 0 0 (PA G)) (F0 m 92 ls [])) → (inR (z.1) → inR (z.2.1) → inR (z.2.2.1) → inR (z.2.2.2.1) → ∀ (H : Heap) (locs : List Loc) (ls : Array Slot), Wd G (z.2.2.2.2) s H → va_S (PA G) s.heap H locs → lv_has ls 7 [(0, .ref (gA G (0))), (1, .int (i3 (z.1))), (2, .int (i3 (z.2.1))), (3, .int (i3 (x3))), (4, .int (i3 (z.2.2.1))), (5, .int (i3 (z.2.2.2.1)))] → W p l e ({ frames := 12, cells := 0, slots := 0, locals := 296 } : Room) s m args below meth c H locs 0 0 (MQ below (QcZ G r.1 r.2) args s 0 0 (PA G)) (F0 m 38 ls [])) := by
    intro x3 hx3 z q hq hex
    refine loop_rule (fL_isFit_l38 x3) (fun z => inR (z.1) → inR (z.2.1) → inR (z.2.2.1) → inR (z.2.2.2.1) → ∀ (H : Heap) (locs : List Loc) (ls : Array Slot), Wd G (z.2.2.2.2) s H → va_S (PA G) s.heap H locs → lv_has ls 7 [(0, .ref (gA G (0))), (1, .int (i3 (z.1))), (2, .int (i3 (z.2.1))), (3, .int (i3 (x3))), (4, .int (i3 (z.2.2.1))), (5, .int (i3 (z.2.2.2.1)))] → W p l e ({ frames := 12, cells := 0, slots := 0, locals := 296 } : Room) s m args below meth c H locs 0 0 (MQ below (QcZ G r.1 r.2) args s 0 0 (PA G)) (F0 m 38 ls [])) (fun q => (inR (q.1) → inR (q.2.1) → inR (q.2.2.1) → ∀ (H : Heap) (locs : List Loc) (ls : Array Slot), Wd G (q.2.2.2) s H → va_S (PA G) s.heap H locs → lv_has ls 7 [(0, .ref (gA G (0))), (1, .int (i3 (q.1))), (2, .int (i3 (q.2.1))), (3, .int (i3 (x3))), (4, .int (i3 (q.2.2.1)))] → W p l e ({ frames := 12, cells := 0, slots := 0, locals := 296 } : Room) s m args below meth c H locs 0 0 (MQ below (QcZ G r.1 r.2) args s 0 0 (PA G)) (F0 m 92 ls []))) ?_ 200 z q hq hex
    clear hq hex q z
    intro z x hf hK hz1 hz2 hz4 hz5 H locs ls hW hS hl
    have J13 : ∀ (M : MemG) (x1 : Int) (x5 : Int) (t0 : Int) (t1 : Int), fL_isFit_j76 M x1 x3 x5 t0 t1 = some x → inR x1 → inR x5 → inR t0 → inR t1 →  ∀ (H : Heap) (locs : List Loc) (ls : Array Slot), Wd G M s H → va_S (PA G) s.heap H locs → lv_has ls 7 [(0, .ref (gA G (0))), (1, .int (i3 (x1))), (3, .int (i3 (x3))), (5, .int (i3 (x5)))] → W p l e ({ frames := 12, cells := 0, slots := 0, locals := 296 } : Room) s m args below meth c H locs 0 0 (MQ below (QcZ G r.1 r.2) args s 0 0 (PA G)) (F0 m 76 ls [.int (i3 (t1)), .int (i3 (t0))]) := by
      intro M x1 x5 t0 t1 hf hx1 hx5 ht0 ht1 H locs ls hW hS hl
      unfold fL_isFit_j76 at hf
      refine k_add hx hb dL_isFit_76 ?_
      obtain ⟨hg14, hf⟩ := gd_el hf
      refine lv_istore_n (lv' := [(2, .int (i3 (t0 + t1))), (0, .ref (gA G (0))), (1, .int (i3 (x1))), (3, .int (i3 (x3))), (5, .int (i3 (x5)))]) hx hb dL_isFit_77 rfl hl (by decide) rfl (fun ls hl => ?_)
      refine lv_aload_n hx hb dL_isFit_78 rfl (lv_at hl 1 rfl) ?_
      refine lv_iload hx hb dL_isFit_79 (lv_at hl 4 rfl) ?_
      obtain ⟨q15, hq15, hf⟩ := bind_el hf
      refine k_cSz (As := [.ref (gA G (0)), .int (i3 (x5))]) (rest := []) ⟨hx, hb, hml, hown, hts⟩ (mL_isBay l G M x5 hx5 q15 hq15) (va_cwS 2 hts (gbS (inB_23 _ (List.mem_of_getElem? (i := 5) rfl)) (inB_23 _ (List.mem_of_getElem? (i := 6) rfl)) (inB_7 _ (List.mem_of_getElem? (i := 22) rfl)) (inB_23 _ (List.mem_of_getElem? (i := 7) rfl))) rfl rfl rfl (by decide +kernel) ⟨Nat.le_of_ble_eq_true rfl, Nat.le_of_ble_eq_true rfl⟩) hW hS rfl hl.1 rfl (lv_room (Nat.le_of_ble_eq_true rfl)) dL_isFit_81 ⟨Nat.zero_le _, Nat.zero_le _⟩ (fun hv16 H locs hW hS => ?_)
      refine lv_istore (lv' := [(4, .int (i3 (q15.2))), (2, .int (i3 (t0 + t1))), (0, .ref (gA G (0))), (1, .int (i3 (x1))), (3, .int (i3 (x3))), (5, .int (i3 (x5)))]) hx hb dL_isFit_84 hl (by decide) rfl (fun ls hl => ?_)
      obtain ⟨hg17, hf⟩ := gd_el hf
      refine k_iinc (lv' := [(5, .int (i3 (x5 + 1))), (4, .int (i3 (q15.2))), (2, .int (i3 (t0 + t1))), (0, .ref (gA G (0))), (1, .int (i3 (x1))), (3, .int (i3 (x3)))]) hx hb dL_isFit_86 hl (k := 5) rfl (by decide) rfl (fun ls hl => ?_)
      refine lv_goto (tgt := 38) hx hb dL_isFit_89 (by decide) ?_
      obtain rfl := some_el hf
      exact hK hx1 hg14 (inR_z hv16) hg17 _ _ _ hW hS (lv_sub hl [3, 4, 2, 5, 1, 0] rfl)
    unfold fL_isFit_l38 at hf
    refine lv_iload hx hb dL_isFit_38 (lv_at hl 4 rfl) ?_
    refine k_if_eq (tgt := 92) hx hb hz4 dL_isFit_40 (by decide) (fun hc5 => ?_) (fun hc5 => ?_)
    · rw [if_pos hc5] at hf
      obtain rfl := some_el hf
      exact hK hz1 hz2 hz4 _ _ _ hW hS (lv_sub hl [0, 1, 2, 3, 4] rfl)
    · rw [if_neg hc5] at hf
      refine lv_iload hx hb dL_isFit_43 (lv_at hl 5 rfl) ?_
      refine k_bipush hx hb dL_isFit_45 (by decide +kernel) ?_
      refine k_icmp_ge (tgt := 92) hx hb hz5 (show inR (32) by decide) dL_isFit_47 (by decide) (fun hc6 => ?_) (fun hc6 => ?_)
      · rw [if_neg hc6] at hf
        obtain rfl := some_el hf
        exact hK hz1 hz2 hz4 _ _ _ hW hS (lv_sub hl [0, 1, 2, 3, 4] rfl)
      · rw [if_pos hc6] at hf
        refine lv_iload_n hx hb dL_isFit_50 rfl (lv_at hl 1 rfl) ?_
        refine lv_aload_n hx hb dL_isFit_51 rfl (lv_at hl 0 rfl) ?_
        refine lv_iload hx hb dL_isFit_52 (lv_at hl 5 rfl) ?_
        refine k_const hx hb dL_isFit_54 ?_
        obtain ⟨q7, hq7, hf⟩ := bind_el hf
        refine k_cVi (As := [.int (i3 (z.2.2.2.1)), .int (i3 (1))]) (rest := [.int (i3 (z.1))]) ⟨hx, hb, hml, hown, hts⟩ (mG_bayOf l G z.2.2.2.2 z.2.2.2.1 hz5 1 (show inR (1) by decide) q7 hq7) (cwV 2 hts (gbV (inB_9 _ (List.mem_of_getElem? (i := 17) rfl)) (inB_9 _ (List.mem_of_getElem? (i := 18) rfl)) (inB_9 _ (List.mem_of_getElem? (i := 19) rfl)) (inB_1 _ (List.mem_of_getElem? (i := 2) rfl)) (inB_9 _ (List.mem_of_getElem? (i := 20) rfl))) rfl rfl rfl (by decide +kernel) ⟨Nat.le_of_ble_eq_true rfl, Nat.le_of_ble_eq_true rfl⟩) (rv_G hW) hW hS rfl hl.1 rfl (lv_room (Nat.le_of_ble_eq_true rfl)) dL_isFit_55 ⟨Nat.zero_le _, Nat.zero_le _⟩ (fun hv8 H locs hW hS => ?_)
        refine k_add hx hb dL_isFit_58 ?_
        obtain ⟨hg9, hf⟩ := gd_el hf
        refine lv_istore_n (lv' := [(1, .int (i3 (z.1 + q7))), (0, .ref (gA G (0))), (2, .int (i3 (z.2.1))), (3, .int (i3 (x3))), (4, .int (i3 (z.2.2.1))), (5, .int (i3 (z.2.2.2.1)))]) hx hb dL_isFit_59 rfl hl (by decide) rfl (fun ls hl => ?_)
        refine lv_iload_n hx hb dL_isFit_60 rfl (lv_at hl 2 rfl) ?_
        refine lv_aload_n hx hb dL_isFit_61 rfl (lv_at hl 1 rfl) ?_
        refine lv_iload hx hb dL_isFit_62 (lv_at hl 5 rfl) ?_
        refine k_const hx hb dL_isFit_64 ?_
        obtain ⟨q10, hq10, hf⟩ := bind_el hf
        refine k_cVi (As := [.int (i3 (z.2.2.2.1)), .int (i3 (1))]) (rest := [.int (i3 (z.2.1))]) ⟨hx, hb, hml, hown, hts⟩ (mG_bayOf l G z.2.2.2.2 z.2.2.2.1 hz5 1 (show inR (1) by decide) q10 hq10) (cwV 2 hts (gbV (inB_9 _ (List.mem_of_getElem? (i := 17) rfl)) (inB_9 _ (List.mem_of_getElem? (i := 18) rfl)) (inB_9 _ (List.mem_of_getElem? (i := 19) rfl)) (inB_1 _ (List.mem_of_getElem? (i := 2) rfl)) (inB_9 _ (List.mem_of_getElem? (i := 20) rfl))) rfl rfl rfl (by decide +kernel) ⟨Nat.le_of_ble_eq_true rfl, Nat.le_of_ble_eq_true rfl⟩) (rv_G hW) hW hS rfl hl.1 rfl (lv_room (Nat.le_of_ble_eq_true rfl)) dL_isFit_65 ⟨Nat.zero_le _, Nat.zero_le _⟩ (fun hv11 H locs hW hS => ?_)
        refine k_if_le (tgt := 75) hx hb hv11 dL_isFit_68 (by decide) (fun hc12 => ?_) (fun hc12 => ?_)
        · rw [if_neg hc12] at hf
          refine k_const hx hb dL_isFit_75 ?_
          exact J13 (z.2.2.2.2) (z.1 + q7) (z.2.2.2.1) (z.2.1) (0) hf hg9 hz5 hz2 (show inR (0) by decide) _ _ _ hW hS (lv_sub hl [1, 0, 3, 5] rfl)
        · rw [if_pos hc12] at hf
          refine k_const hx hb dL_isFit_71 ?_
          refine lv_goto (tgt := 76) hx hb dL_isFit_72 (by decide) ?_
          exact J13 (z.2.2.2.2) (z.1 + q7) (z.2.2.2.1) (z.2.1) (1) hf hg9 hz5 hz2 (show inR (1) by decide) _ _ _ hW hS (lv_sub hl [1, 0, 3, 5] rfl)
  have L31 : ∀ (x1 : Int) (hx1 : inR x1) (x2 : Int) (hx2 : inR x2), ∀ (z : (Int × Int × Int × MemG)) (q : (Int × Int × MemG)), loopN (fL_isFit_l95 x1 x2) 200 z = some q → (inR (q.1) → inR (q.2.1) → ∀ (H : Heap) (locs : List Loc) (ls : Array Slot), Wd G (q.2.2) s H → va_S (PA G) s.heap H locs → lv_has ls 7 [(0, .ref (gA G (0))), (1, .int (i3 (x1))), (2, .int (i3 (x2))), (3, .int (i3 (q.1))), (4, .int (i3 (q.2.1)))] → W p l e ({ frames := 12, cells := 0, slots := 0, locals := 296 } : Room) s m args below meth c H locs 0 0 (MQ below (QcZ G r.1 r.2) args s 0 0 (PA G)) (F0 m 131 ls [])) → (inR (z.1) → inR (z.2.1) → inR (z.2.2.1) → ∀ (H : Heap) (locs : List Loc) (ls : Array Slot), Wd G (z.2.2.2) s H → va_S (PA G) s.heap H locs → lv_has ls 7 [(0, .ref (gA G (0))), (1, .int (i3 (x1))), (2, .int (i3 (x2))), (3, .int (i3 (z.1))), (4, .int (i3 (z.2.1))), (5, .int (i3 (z.2.2.1)))] → W p l e ({ frames := 12, cells := 0, slots := 0, locals := 296 } : Room) s m args below meth c H locs 0 0 (MQ below (QcZ G r.1 r.2) args s 0 0 (PA G)) (F0 m 95 ls [])) := by
    intro x1 hx1 x2 hx2 z q hq hex
    refine loop_rule (fL_isFit_l95 x1 x2) (fun z => inR (z.1) → inR (z.2.1) → inR (z.2.2.1) → ∀ (H : Heap) (locs : List Loc) (ls : Array Slot), Wd G (z.2.2.2) s H → va_S (PA G) s.heap H locs → lv_has ls 7 [(0, .ref (gA G (0))), (1, .int (i3 (x1))), (2, .int (i3 (x2))), (3, .int (i3 (z.1))), (4, .int (i3 (z.2.1))), (5, .int (i3 (z.2.2.1)))] → W p l e ({ frames := 12, cells := 0, slots := 0, locals := 296 } : Room) s m args below meth c H locs 0 0 (MQ below (QcZ G r.1 r.2) args s 0 0 (PA G)) (F0 m 95 ls [])) (fun q => (inR (q.1) → inR (q.2.1) → ∀ (H : Heap) (locs : List Loc) (ls : Array Slot), Wd G (q.2.2) s H → va_S (PA G) s.heap H locs → lv_has ls 7 [(0, .ref (gA G (0))), (1, .int (i3 (x1))), (2, .int (i3 (x2))), (3, .int (i3 (q.1))), (4, .int (i3 (q.2.1)))] → W p l e ({ frames := 12, cells := 0, slots := 0, locals := 296 } : Room) s m args below meth c H locs 0 0 (MQ below (QcZ G r.1 r.2) args s 0 0 (PA G)) (F0 m 131 ls []))) ?_ 200 z q hq hex
    clear hq hex q z
    intro z x hf hK hz3 hz4 hz5 H locs ls hW hS hl
    unfold fL_isFit_l95 at hf
    refine lv_iload hx hb dL_isFit_95 (lv_at hl 4 rfl) ?_
    refine k_if_eq (tgt := 131) hx hb hz4 dL_isFit_97 (by decide) (fun hc23 => ?_) (fun hc23 => ?_)
    · rw [if_pos hc23] at hf
      obtain rfl := some_el hf
      exact hK hz3 hz4 _ _ _ hW hS (lv_sub hl [0, 1, 2, 3, 4] rfl)
    · rw [if_neg hc23] at hf
      refine lv_iload hx hb dL_isFit_100 (lv_at hl 5 rfl) ?_
      refine k_bipush hx hb dL_isFit_102 (by decide +kernel) ?_
      refine k_icmp_ge (tgt := 131) hx hb hz5 (show inR (33) by decide) dL_isFit_104 (by decide) (fun hc24 => ?_) (fun hc24 => ?_)
      · rw [if_neg hc24] at hf
        obtain rfl := some_el hf
        exact hK hz3 hz4 _ _ _ hW hS (lv_sub hl [0, 1, 2, 3, 4] rfl)
      · rw [if_pos hc24] at hf
        refine lv_iload_n hx hb dL_isFit_107 rfl (lv_at hl 3 rfl) ?_
        refine lv_aload_n hx hb dL_isFit_108 rfl (lv_at hl 0 rfl) ?_
        refine lv_iload hx hb dL_isFit_109 (lv_at hl 5 rfl) ?_
        refine k_const hx hb dL_isFit_111 ?_
        obtain ⟨q25, hq25, hf⟩ := bind_el hf
        refine k_cVi (As := [.int (i3 (z.2.2.1)), .int (i3 (3))]) (rest := [.int (i3 (z.1))]) ⟨hx, hb, hml, hown, hts⟩ (mG_rungOf l G z.2.2.2 z.2.2.1 hz5 3 (show inR (3) by decide) q25 hq25) (cwV 2 hts (gbV (inB_10 _ (List.mem_of_getElem? (i := 9) rfl)) (inB_10 _ (List.mem_of_getElem? (i := 10) rfl)) (inB_10 _ (List.mem_of_getElem? (i := 11) rfl)) (inB_1 _ (List.mem_of_getElem? (i := 2) rfl)) (inB_10 _ (List.mem_of_getElem? (i := 12) rfl))) rfl rfl rfl (by decide +kernel) ⟨Nat.le_of_ble_eq_true rfl, Nat.le_of_ble_eq_true rfl⟩) (rv_G hW) hW hS rfl hl.1 rfl (lv_room (Nat.le_of_ble_eq_true rfl)) dL_isFit_112 ⟨Nat.zero_le _, Nat.zero_le _⟩ (fun hv26 H locs hW hS => ?_)
        refine k_add hx hb dL_isFit_115 ?_
        obtain ⟨hg27, hf⟩ := gd_el hf
        refine lv_istore_n (lv' := [(3, .int (i3 (z.1 + q25))), (0, .ref (gA G (0))), (1, .int (i3 (x1))), (2, .int (i3 (x2))), (4, .int (i3 (z.2.1))), (5, .int (i3 (z.2.2.1)))]) hx hb dL_isFit_116 rfl hl (by decide) rfl (fun ls hl => ?_)
        refine lv_aload_n hx hb dL_isFit_117 rfl (lv_at hl 1 rfl) ?_
        refine lv_iload hx hb dL_isFit_118 (lv_at hl 5 rfl) ?_
        obtain ⟨q28, hq28, hf⟩ := bind_el hf
        refine k_cSz (As := [.ref (gA G (0)), .int (i3 (z.2.2.1))]) (rest := []) ⟨hx, hb, hml, hown, hts⟩ (mL_isRung l G z.2.2.2 z.2.2.1 hz5 q28 hq28) (va_cwS 2 hts (gbS (inB_24 _ (List.mem_of_getElem? (i := 19) rfl)) (inB_24 _ (List.mem_of_getElem? (i := 20) rfl)) (inB_7 _ (List.mem_of_getElem? (i := 22) rfl)) (inB_24 _ (List.mem_of_getElem? (i := 21) rfl))) rfl rfl rfl (by decide +kernel) ⟨Nat.le_of_ble_eq_true rfl, Nat.le_of_ble_eq_true rfl⟩) hW hS rfl hl.1 rfl (lv_room (Nat.le_of_ble_eq_true rfl)) dL_isFit_120 ⟨Nat.zero_le _, Nat.zero_le _⟩ (fun hv29 H locs hW hS => ?_)
        refine lv_istore (lv' := [(4, .int (i3 (q28.2))), (3, .int (i3 (z.1 + q25))), (0, .ref (gA G (0))), (1, .int (i3 (x1))), (2, .int (i3 (x2))), (5, .int (i3 (z.2.2.1)))]) hx hb dL_isFit_123 hl (by decide) rfl (fun ls hl => ?_)
        obtain ⟨hg30, hf⟩ := gd_el hf
        refine k_iinc (lv' := [(5, .int (i3 (z.2.2.1 + 1))), (4, .int (i3 (q28.2))), (3, .int (i3 (z.1 + q25))), (0, .ref (gA G (0))), (1, .int (i3 (x1))), (2, .int (i3 (x2)))]) hx hb dL_isFit_125 hl (k := 5) rfl (by decide) rfl (fun ls hl => ?_)
        refine lv_goto (tgt := 95) hx hb dL_isFit_128 (by decide) ?_
        obtain rfl := some_el hf
        exact hK hg27 (inR_z hv29) hg30 _ _ _ hW hS (lv_sub hl [3, 4, 5, 2, 1, 0] rfl)
  have J37 : ∀ (M : MemG) (x1 : Int) (x2 : Int) (x3 : Int) (x4 : Int) (t0 : UInt64), fL_isFit_j144 M x1 x2 x3 x4 t0 = some r → inR x1 → inR x2 → inR x3 → inR x4 →  ∀ (H : Heap) (locs : List Loc) (ls : Array Slot), Wd G M s H → va_S (PA G) s.heap H locs → lv_has ls 7 [(0, .ref (gA G (0))), (1, .int (i3 (x1))), (2, .int (i3 (x2))), (3, .int (i3 (x3))), (4, .int (i3 (x4)))] → W p l e ({ frames := 12, cells := 0, slots := 0, locals := 296 } : Room) s m args below meth c H locs 0 0 (MQ below (QcZ G r.1 r.2) args s 0 0 (PA G)) (F0 m 144 ls [.double (t0)]) := by
    intro M x1 x2 x3 x4 t0 hf hx1 hx2 hx3 hx4 H locs ls hW hS hl
    unfold fL_isFit_j144 at hf
    refine lv_dstore (lv' := [(5, .double (t0)), (0, .ref (gA G (0))), (1, .int (i3 (x1))), (2, .int (i3 (x2))), (3, .int (i3 (x3))), (4, .int (i3 (x4)))]) hx hb dL_isFit_144 hl (by decide) rfl (fun ls hl => ?_)
    refine lv_iload hx hb dL_isFit_146 (lv_at hl 5 rfl) ?_
    refine k_if_eq (tgt := 271) hx hb hx4 dL_isFit_148 (by decide) (fun hc38 => ?_) (fun hc38 => ?_)
    · rw [if_pos hc38] at hf
      refine k_const hx hb dL_isFit_271 ?_
      obtain rfl := some_el hf
      exact k_retz hx hb hr hlocks hW hS rfl (show (0 : Int) = 0 ∨ (0 : Int) = 1 by decide) dL_isFit_272
    · rw [if_neg hc38] at hf
      refine lv_iload_n hx hb dL_isFit_151 rfl (lv_at hl 2 rfl) ?_
      refine lv_aload_n hx hb dL_isFit_152 rfl (lv_at hl 1 rfl) ?_
      refine k_const hx hb dL_isFit_153 ?_
      obtain ⟨q39, hq39, hf⟩ := bind_el hf
      refine k_cVi (As := [.int (i3 (3))]) (rest := [.int (i3 (x1))]) ⟨hx, hb, hml, hown, hts⟩ (mG_account l G M 3 (show inR (3) by decide) q39 hq39) (cwV 1 hts (gbV (inB_8 _ (List.mem_of_getElem? (i := 2) rfl)) (inB_8 _ (List.mem_of_getElem? (i := 3) rfl)) (inB_8 _ (List.mem_of_getElem? (i := 4) rfl)) (inB_1 _ (List.mem_of_getElem? (i := 2) rfl)) (inB_8 _ (List.mem_of_getElem? (i := 5) rfl))) rfl rfl rfl (by decide +kernel) ⟨Nat.le_of_ble_eq_true rfl, Nat.le_of_ble_eq_true rfl⟩) (rv_G hW) hW hS rfl hl.1 rfl (lv_room (Nat.le_of_ble_eq_true rfl)) dL_isFit_154 ⟨Nat.zero_le _, Nat.zero_le _⟩ (fun hv40 H locs hW hS => ?_)
      refine k_icmp_ne (tgt := 271) hx hb hx1 hv40 dL_isFit_157 (by decide) (fun hc41 => ?_) (fun hc41 => ?_)
      · rw [if_neg hc41] at hf
        refine k_const hx hb dL_isFit_271 ?_
        obtain rfl := some_el hf
        exact k_retz hx hb hr hlocks hW hS rfl (show (0 : Int) = 0 ∨ (0 : Int) = 1 by decide) dL_isFit_272
      · rw [if_pos hc41] at hf
        refine lv_iload_n hx hb dL_isFit_160 rfl (lv_at hl 3 rfl) ?_
        refine lv_aload_n hx hb dL_isFit_161 rfl (lv_at hl 1 rfl) ?_
        refine k_const hx hb dL_isFit_162 ?_
        obtain ⟨q42, hq42, hf⟩ := bind_el hf
        refine k_cVi (As := [.int (i3 (2))]) (rest := [.int (i3 (x2))]) ⟨hx, hb, hml, hown, hts⟩ (mG_account l G M 2 (show inR (2) by decide) q42 hq42) (cwV 1 hts (gbV (inB_8 _ (List.mem_of_getElem? (i := 2) rfl)) (inB_8 _ (List.mem_of_getElem? (i := 3) rfl)) (inB_8 _ (List.mem_of_getElem? (i := 4) rfl)) (inB_1 _ (List.mem_of_getElem? (i := 2) rfl)) (inB_8 _ (List.mem_of_getElem? (i := 5) rfl))) rfl rfl rfl (by decide +kernel) ⟨Nat.le_of_ble_eq_true rfl, Nat.le_of_ble_eq_true rfl⟩) (rv_G hW) hW hS rfl hl.1 rfl (lv_room (Nat.le_of_ble_eq_true rfl)) dL_isFit_163 ⟨Nat.zero_le _, Nat.zero_le _⟩ (fun hv43 H locs hW hS => ?_)
        refine k_icmp_ne (tgt := 271) hx hb hx2 hv43 dL_isFit_166 (by decide) (fun hc44 => ?_) (fun hc44 => ?_)
        · rw [if_neg hc44] at hf
          refine k_const hx hb dL_isFit_271 ?_
          obtain rfl := some_el hf
          exact k_retz hx hb hr hlocks hW hS rfl (show (0 : Int) = 0 ∨ (0 : Int) = 1 by decide) dL_isFit_272
        · rw [if_pos hc44] at hf
          refine lv_iload_n hx hb dL_isFit_169 rfl (lv_at hl 4 rfl) ?_
          refine lv_aload_n hx hb dL_isFit_170 rfl (lv_at hl 1 rfl) ?_
          refine k_bipush hx hb dL_isFit_171 (by decide +kernel) ?_
          obtain ⟨q45, hq45, hf⟩ := bind_el hf
          refine k_cVi (As := [.int (i3 (13))]) (rest := [.int (i3 (x3))]) ⟨hx, hb, hml, hown, hts⟩ (mG_account l G M 13 (show inR (13) by decide) q45 hq45) (cwV 1 hts (gbV (inB_8 _ (List.mem_of_getElem? (i := 2) rfl)) (inB_8 _ (List.mem_of_getElem? (i := 3) rfl)) (inB_8 _ (List.mem_of_getElem? (i := 4) rfl)) (inB_1 _ (List.mem_of_getElem? (i := 2) rfl)) (inB_8 _ (List.mem_of_getElem? (i := 5) rfl))) rfl rfl rfl (by decide +kernel) ⟨Nat.le_of_ble_eq_true rfl, Nat.le_of_ble_eq_true rfl⟩) (rv_G hW) hW hS rfl hl.1 rfl (lv_room (Nat.le_of_ble_eq_true rfl)) dL_isFit_173 ⟨Nat.zero_le _, Nat.zero_le _⟩ (fun hv46 H locs hW hS => ?_)
          refine k_icmp_ne (tgt := 271) hx hb hx3 hv46 dL_isFit_176 (by decide) (fun hc47 => ?_) (fun hc47 => ?_)
          · rw [if_neg hc47] at hf
            refine k_const hx hb dL_isFit_271 ?_
            obtain rfl := some_el hf
            exact k_retz hx hb hr hlocks hW hS rfl (show (0 : Int) = 0 ∨ (0 : Int) = 1 by decide) dL_isFit_272
          · rw [if_pos hc47] at hf
            refine lv_iload_n hx hb dL_isFit_179 rfl (lv_at hl 2 rfl) ?_
            refine lv_aload_n hx hb dL_isFit_180 rfl (lv_at hl 1 rfl) ?_
            refine k_const hx hb dL_isFit_181 ?_
            obtain ⟨q48, hq48, hf⟩ := bind_el hf
            refine k_cVi (As := [.int (i3 (4))]) (rest := [.int (i3 (x1))]) ⟨hx, hb, hml, hown, hts⟩ (mG_account l G M 4 (show inR (4) by decide) q48 hq48) (cwV 1 hts (gbV (inB_8 _ (List.mem_of_getElem? (i := 2) rfl)) (inB_8 _ (List.mem_of_getElem? (i := 3) rfl)) (inB_8 _ (List.mem_of_getElem? (i := 4) rfl)) (inB_1 _ (List.mem_of_getElem? (i := 2) rfl)) (inB_8 _ (List.mem_of_getElem? (i := 5) rfl))) rfl rfl rfl (by decide +kernel) ⟨Nat.le_of_ble_eq_true rfl, Nat.le_of_ble_eq_true rfl⟩) (rv_G hW) hW hS rfl hl.1 rfl (lv_room (Nat.le_of_ble_eq_true rfl)) dL_isFit_182 ⟨Nat.zero_le _, Nat.zero_le _⟩ (fun hv49 H locs hW hS => ?_)
            refine lv_aload_n hx hb dL_isFit_185 rfl (lv_at hl 1 rfl) ?_
            refine k_const hx hb dL_isFit_186 ?_
            obtain ⟨q50, hq50, hf⟩ := bind_el hf
            refine k_cVi (As := [.int (i3 (5))]) (rest := [.int (i3 (q48)), .int (i3 (x1))]) ⟨hx, hb, hml, hown, hts⟩ (mG_account l G M 5 (show inR (5) by decide) q50 hq50) (cwV 1 hts (gbV (inB_8 _ (List.mem_of_getElem? (i := 2) rfl)) (inB_8 _ (List.mem_of_getElem? (i := 3) rfl)) (inB_8 _ (List.mem_of_getElem? (i := 4) rfl)) (inB_1 _ (List.mem_of_getElem? (i := 2) rfl)) (inB_8 _ (List.mem_of_getElem? (i := 5) rfl))) rfl rfl rfl (by decide +kernel) ⟨Nat.le_of_ble_eq_true rfl, Nat.le_of_ble_eq_true rfl⟩) (rv_G hW) hW hS rfl hl.1 rfl (lv_room (Nat.le_of_ble_eq_true rfl)) dL_isFit_187 ⟨Nat.zero_le _, Nat.zero_le _⟩ (fun hv51 H locs hW hS => ?_)
            refine k_add hx hb dL_isFit_190 ?_
            refine lv_aload_n hx hb dL_isFit_191 rfl (lv_at hl 1 rfl) ?_
            refine k_bipush hx hb dL_isFit_192 (by decide +kernel) ?_
            obtain ⟨q52, hq52, hf⟩ := bind_el hf
            refine k_cVi (As := [.int (i3 (6))]) (rest := [.int (i3 (q48 + q50)), .int (i3 (x1))]) ⟨hx, hb, hml, hown, hts⟩ (mG_account l G M 6 (show inR (6) by decide) q52 hq52) (cwV 1 hts (gbV (inB_8 _ (List.mem_of_getElem? (i := 2) rfl)) (inB_8 _ (List.mem_of_getElem? (i := 3) rfl)) (inB_8 _ (List.mem_of_getElem? (i := 4) rfl)) (inB_1 _ (List.mem_of_getElem? (i := 2) rfl)) (inB_8 _ (List.mem_of_getElem? (i := 5) rfl))) rfl rfl rfl (by decide +kernel) ⟨Nat.le_of_ble_eq_true rfl, Nat.le_of_ble_eq_true rfl⟩) (rv_G hW) hW hS rfl hl.1 rfl (lv_room (Nat.le_of_ble_eq_true rfl)) dL_isFit_194 ⟨Nat.zero_le _, Nat.zero_le _⟩ (fun hv53 H locs hW hS => ?_)
            refine k_add hx hb dL_isFit_197 ?_
            refine lv_aload_n hx hb dL_isFit_198 rfl (lv_at hl 1 rfl) ?_
            refine k_bipush hx hb dL_isFit_199 (by decide +kernel) ?_
            obtain ⟨q54, hq54, hf⟩ := bind_el hf
            refine k_cVi (As := [.int (i3 (7))]) (rest := [.int (i3 ((q48 + q50) + q52)), .int (i3 (x1))]) ⟨hx, hb, hml, hown, hts⟩ (mG_account l G M 7 (show inR (7) by decide) q54 hq54) (cwV 1 hts (gbV (inB_8 _ (List.mem_of_getElem? (i := 2) rfl)) (inB_8 _ (List.mem_of_getElem? (i := 3) rfl)) (inB_8 _ (List.mem_of_getElem? (i := 4) rfl)) (inB_1 _ (List.mem_of_getElem? (i := 2) rfl)) (inB_8 _ (List.mem_of_getElem? (i := 5) rfl))) rfl rfl rfl (by decide +kernel) ⟨Nat.le_of_ble_eq_true rfl, Nat.le_of_ble_eq_true rfl⟩) (rv_G hW) hW hS rfl hl.1 rfl (lv_room (Nat.le_of_ble_eq_true rfl)) dL_isFit_201 ⟨Nat.zero_le _, Nat.zero_le _⟩ (fun hv55 H locs hW hS => ?_)
            refine k_add hx hb dL_isFit_204 ?_
            obtain ⟨hg56, hf⟩ := gd_el hf
            refine k_icmp_ne (tgt := 271) hx hb hx1 hg56 dL_isFit_205 (by decide) (fun hc57 => ?_) (fun hc57 => ?_)
            · rw [if_neg hc57] at hf
              refine k_const hx hb dL_isFit_271 ?_
              obtain rfl := some_el hf
              exact k_retz hx hb hr hlocks hW hS rfl (show (0 : Int) = 0 ∨ (0 : Int) = 1 by decide) dL_isFit_272
            · rw [if_pos hc57] at hf
              refine lv_iload_n hx hb dL_isFit_208 rfl (lv_at hl 2 rfl) ?_
              refine lv_aload_n hx hb dL_isFit_209 rfl (lv_at hl 1 rfl) ?_
              refine k_bipush hx hb dL_isFit_210 (by decide +kernel) ?_
              obtain ⟨q58, hq58, hf⟩ := bind_el hf
              refine k_cVi (As := [.int (i3 (8))]) (rest := [.int (i3 (x1))]) ⟨hx, hb, hml, hown, hts⟩ (mG_account l G M 8 (show inR (8) by decide) q58 hq58) (cwV 1 hts (gbV (inB_8 _ (List.mem_of_getElem? (i := 2) rfl)) (inB_8 _ (List.mem_of_getElem? (i := 3) rfl)) (inB_8 _ (List.mem_of_getElem? (i := 4) rfl)) (inB_1 _ (List.mem_of_getElem? (i := 2) rfl)) (inB_8 _ (List.mem_of_getElem? (i := 5) rfl))) rfl rfl rfl (by decide +kernel) ⟨Nat.le_of_ble_eq_true rfl, Nat.le_of_ble_eq_true rfl⟩) (rv_G hW) hW hS rfl hl.1 rfl (lv_room (Nat.le_of_ble_eq_true rfl)) dL_isFit_212 ⟨Nat.zero_le _, Nat.zero_le _⟩ (fun hv59 H locs hW hS => ?_)
              refine lv_aload_n hx hb dL_isFit_215 rfl (lv_at hl 1 rfl) ?_
              refine k_bipush hx hb dL_isFit_216 (by decide +kernel) ?_
              obtain ⟨q60, hq60, hf⟩ := bind_el hf
              refine k_cVi (As := [.int (i3 (9))]) (rest := [.int (i3 (q58)), .int (i3 (x1))]) ⟨hx, hb, hml, hown, hts⟩ (mG_account l G M 9 (show inR (9) by decide) q60 hq60) (cwV 1 hts (gbV (inB_8 _ (List.mem_of_getElem? (i := 2) rfl)) (inB_8 _ (List.mem_of_getElem? (i := 3) rfl)) (inB_8 _ (List.mem_of_getElem? (i := 4) rfl)) (inB_1 _ (List.mem_of_getElem? (i := 2) rfl)) (inB_8 _ (List.mem_of_getElem? (i := 5) rfl))) rfl rfl rfl (by decide +kernel) ⟨Nat.le_of_ble_eq_true rfl, Nat.le_of_ble_eq_true rfl⟩) (rv_G hW) hW hS rfl hl.1 rfl (lv_room (Nat.le_of_ble_eq_true rfl)) dL_isFit_218 ⟨Nat.zero_le _, Nat.zero_le _⟩ (fun hv61 H locs hW hS => ?_)
              refine k_sub hx hb dL_isFit_221 ?_
              refine lv_aload_n hx hb dL_isFit_222 rfl (lv_at hl 1 rfl) ?_
              refine k_bipush hx hb dL_isFit_223 (by decide +kernel) ?_
              obtain ⟨q62, hq62, hf⟩ := bind_el hf
              refine k_cVi (As := [.int (i3 (10))]) (rest := [.int (i3 (q58 - q60)), .int (i3 (x1))]) ⟨hx, hb, hml, hown, hts⟩ (mG_account l G M 10 (show inR (10) by decide) q62 hq62) (cwV 1 hts (gbV (inB_8 _ (List.mem_of_getElem? (i := 2) rfl)) (inB_8 _ (List.mem_of_getElem? (i := 3) rfl)) (inB_8 _ (List.mem_of_getElem? (i := 4) rfl)) (inB_1 _ (List.mem_of_getElem? (i := 2) rfl)) (inB_8 _ (List.mem_of_getElem? (i := 5) rfl))) rfl rfl rfl (by decide +kernel) ⟨Nat.le_of_ble_eq_true rfl, Nat.le_of_ble_eq_true rfl⟩) (rv_G hW) hW hS rfl hl.1 rfl (lv_room (Nat.le_of_ble_eq_true rfl)) dL_isFit_225 ⟨Nat.zero_le _, Nat.zero_le _⟩ (fun hv63 H locs hW hS => ?_)
              refine k_sub hx hb dL_isFit_228 ?_
              refine lv_aload_n hx hb dL_isFit_229 rfl (lv_at hl 1 rfl) ?_
              refine k_bipush hx hb dL_isFit_230 (by decide +kernel) ?_
              obtain ⟨q64, hq64, hf⟩ := bind_el hf
              refine k_cVi (As := [.int (i3 (11))]) (rest := [.int (i3 ((q58 - q60) - q62)), .int (i3 (x1))]) ⟨hx, hb, hml, hown, hts⟩ (mG_account l G M 11 (show inR (11) by decide) q64 hq64) (cwV 1 hts (gbV (inB_8 _ (List.mem_of_getElem? (i := 2) rfl)) (inB_8 _ (List.mem_of_getElem? (i := 3) rfl)) (inB_8 _ (List.mem_of_getElem? (i := 4) rfl)) (inB_1 _ (List.mem_of_getElem? (i := 2) rfl)) (inB_8 _ (List.mem_of_getElem? (i := 5) rfl))) rfl rfl rfl (by decide +kernel) ⟨Nat.le_of_ble_eq_true rfl, Nat.le_of_ble_eq_true rfl⟩) (rv_G hW) hW hS rfl hl.1 rfl (lv_room (Nat.le_of_ble_eq_true rfl)) dL_isFit_232 ⟨Nat.zero_le _, Nat.zero_le _⟩ (fun hv65 H locs hW hS => ?_)
              refine k_sub hx hb dL_isFit_235 ?_
              obtain ⟨hg66, hf⟩ := gd_el hf
              refine k_icmp_ne (tgt := 271) hx hb hx1 hg66 dL_isFit_236 (by decide) (fun hc67 => ?_) (fun hc67 => ?_)
              · rw [if_neg hc67] at hf
                refine k_const hx hb dL_isFit_271 ?_
                obtain rfl := some_el hf
                exact k_retz hx hb hr hlocks hW hS rfl (show (0 : Int) = 0 ∨ (0 : Int) = 1 by decide) dL_isFit_272
              · rw [if_pos hc67] at hf
                refine lv_aload_n hx hb dL_isFit_239 rfl (lv_at hl 1 rfl) ?_
                obtain ⟨q68, hq68, hf⟩ := bind_el hf
                refine k_cVd (As := []) (rest := []) ⟨hx, hb, hml, hown, hts⟩ (mG_meanSacks l G M q68 hq68) (cwV 0 hts (gbV (inB_26 _ (List.mem_of_getElem? (i := 3) rfl)) (inB_26 _ (List.mem_of_getElem? (i := 4) rfl)) (inB_26 _ (List.mem_of_getElem? (i := 5) rfl)) (inB_1 _ (List.mem_of_getElem? (i := 2) rfl)) (inB_26 _ (List.mem_of_getElem? (i := 6) rfl))) rfl rfl rfl (by decide +kernel) ⟨Nat.le_of_ble_eq_true rfl, Nat.le_of_ble_eq_true rfl⟩) (rv_G hW) hW hS rfl hl.1 rfl (lv_room (Nat.le_of_ble_eq_true rfl)) dL_isFit_240 ⟨Nat.zero_le _, Nat.zero_le _⟩ (fun H locs hW hS => ?_)
                refine lv_dload hx hb dL_isFit_243 (lv_at hl 0 rfl) ?_
                refine k_dcmp hx hb dL_isFit_245 ?_
                refine k_if_ne (tgt := 271) hx hb (inR_toInt _) dL_isFit_246 (by decide) (fun hc70 => ?_) (fun hc70 => ?_)
                · rw [if_neg hc70] at hf
                  refine k_const hx hb dL_isFit_271 ?_
                  obtain rfl := some_el hf
                  exact k_retz hx hb hr hlocks hW hS rfl (show (0 : Int) = 0 ∨ (0 : Int) = 1 by decide) dL_isFit_272
                · rw [if_pos hc70] at hf
                  refine lv_aload_n hx hb dL_isFit_249 rfl (lv_at hl 1 rfl) ?_
                  refine k_const hx hb dL_isFit_250 ?_
                  obtain ⟨q71, hq71, hf⟩ := bind_el hf
                  refine k_cVi (As := [.int (i3 (1))]) (rest := []) ⟨hx, hb, hml, hown, hts⟩ (mG_account l G M 1 (show inR (1) by decide) q71 hq71) (cwV 1 hts (gbV (inB_8 _ (List.mem_of_getElem? (i := 2) rfl)) (inB_8 _ (List.mem_of_getElem? (i := 3) rfl)) (inB_8 _ (List.mem_of_getElem? (i := 4) rfl)) (inB_1 _ (List.mem_of_getElem? (i := 2) rfl)) (inB_8 _ (List.mem_of_getElem? (i := 5) rfl))) rfl rfl rfl (by decide +kernel) ⟨Nat.le_of_ble_eq_true rfl, Nat.le_of_ble_eq_true rfl⟩) (rv_G hW) hW hS rfl hl.1 rfl (lv_room (Nat.le_of_ble_eq_true rfl)) dL_isFit_251 ⟨Nat.zero_le _, Nat.zero_le _⟩ (fun hv72 H locs hW hS => ?_)
                  refine k_if_lt (tgt := 271) hx hb hv72 dL_isFit_254 (by decide) (fun hc73 => ?_) (fun hc73 => ?_)
                  · rw [if_pos hc73] at hf
                    refine k_const hx hb dL_isFit_271 ?_
                    obtain rfl := some_el hf
                    exact k_retz hx hb hr hlocks hW hS rfl (show (0 : Int) = 0 ∨ (0 : Int) = 1 by decide) dL_isFit_272
                  · rw [if_neg hc73] at hf
                    refine lv_aload_n hx hb dL_isFit_257 rfl (lv_at hl 1 rfl) ?_
                    refine k_bipush hx hb dL_isFit_258 (by decide +kernel) ?_
                    obtain ⟨q74, hq74, hf⟩ := bind_el hf
                    refine k_cVi (As := [.int (i3 (14))]) (rest := []) ⟨hx, hb, hml, hown, hts⟩ (mG_account l G M 14 (show inR (14) by decide) q74 hq74) (cwV 1 hts (gbV (inB_8 _ (List.mem_of_getElem? (i := 2) rfl)) (inB_8 _ (List.mem_of_getElem? (i := 3) rfl)) (inB_8 _ (List.mem_of_getElem? (i := 4) rfl)) (inB_1 _ (List.mem_of_getElem? (i := 2) rfl)) (inB_8 _ (List.mem_of_getElem? (i := 5) rfl))) rfl rfl rfl (by decide +kernel) ⟨Nat.le_of_ble_eq_true rfl, Nat.le_of_ble_eq_true rfl⟩) (rv_G hW) hW hS rfl hl.1 rfl (lv_room (Nat.le_of_ble_eq_true rfl)) dL_isFit_260 ⟨Nat.zero_le _, Nat.zero_le _⟩ (fun hv75 H locs hW hS => ?_)
                    refine lv_iload_n hx hb dL_isFit_263 rfl (lv_at hl 4 rfl) ?_
                    refine k_icmp_lt (tgt := 271) hx hb hv75 hx3 dL_isFit_264 (by decide) (fun hc76 => ?_) (fun hc76 => ?_)
                    · rw [if_pos hc76] at hf
                      refine k_const hx hb dL_isFit_271 ?_
                      obtain rfl := some_el hf
                      exact k_retz hx hb hr hlocks hW hS rfl (show (0 : Int) = 0 ∨ (0 : Int) = 1 by decide) dL_isFit_272
                    · rw [if_neg hc76] at hf
                      refine k_const hx hb dL_isFit_267 ?_
                      refine lv_goto (tgt := 272) hx hb dL_isFit_268 (by decide) ?_
                      obtain rfl := some_el hf
                      exact k_retz hx hb hr hlocks hW hS rfl (show (1 : Int) = 0 ∨ (1 : Int) = 1 by decide) dL_isFit_272
  have J4 : ∀ (M : MemG) (x1 : Int) (x2 : Int) (x3 : Int) (t0 : Int), fL_isFit_j33 M x1 x2 x3 t0 = some r → inR x1 → inR x2 → inR x3 → inR t0 →  ∀ (H : Heap) (locs : List Loc) (ls : Array Slot), Wd G M s H → va_S (PA G) s.heap H locs → lv_has ls 7 [(0, .ref (gA G (0))), (1, .int (i3 (x1))), (2, .int (i3 (x2))), (3, .int (i3 (x3)))] → W p l e ({ frames := 12, cells := 0, slots := 0, locals := 296 } : Room) s m args below meth c H locs 0 0 (MQ below (QcZ G r.1 r.2) args s 0 0 (PA G)) (F0 m 33 ls [.int (i3 (t0))]) := by
    intro M x1 x2 x3 t0 hf hx1 hx2 hx3 ht0 H locs ls hW hS hl
    unfold fL_isFit_j33 at hf
    refine lv_istore (lv' := [(4, .int (i3 (t0))), (0, .ref (gA G (0))), (1, .int (i3 (x1))), (2, .int (i3 (x2))), (3, .int (i3 (x3)))]) hx hb dL_isFit_33 hl (by decide) rfl (fun ls hl => ?_)
    refine k_const hx hb dL_isFit_35 ?_
    refine lv_istore (lv' := [(5, .int (i3 (0))), (4, .int (i3 (t0))), (0, .ref (gA G (0))), (1, .int (i3 (x1))), (2, .int (i3 (x2))), (3, .int (i3 (x3)))]) hx hb dL_isFit_36 hl (by decide) rfl (fun ls hl => ?_)
    obtain ⟨q19, hq19, hf⟩ := bind_el hf
    refine L18 (x3) hx3 (x1, x2, t0, 0, M) q19 hq19 ?_ hx1 hx2 ht0 (show inR (0) by decide) _ _ _ hW hS (lv_sub hl [2, 3, 4, 5, 1, 0] rfl)
    intro hv20 hv21 hv22 H locs ls hW hS hl
    refine k_const hx hb dL_isFit_92 ?_
    refine lv_istore (lv' := [(5, .int (i3 (1))), (0, .ref (gA G (0))), (1, .int (i3 (q19.1))), (2, .int (i3 (q19.2.1))), (3, .int (i3 (x3))), (4, .int (i3 (q19.2.2.1)))]) hx hb dL_isFit_93 hl (by decide) rfl (fun ls hl => ?_)
    obtain ⟨q32, hq32, hf⟩ := bind_el hf
    refine L31 (q19.1) hv20 (q19.2.1) hv21 (x3, q19.2.2.1, 1, q19.2.2.2) q32 hq32 ?_ hx3 hv22 (show inR (1) by decide) _ _ _ hW hS (lv_sub hl [1, 2, 3, 4, 5, 0] rfl)
    intro hv33 hv34 H locs ls hW hS hl
    refine lv_iload_n hx hb dL_isFit_131 rfl (lv_at hl 2 rfl) ?_
    refine k_if_ne (tgt := 139) hx hb hv21 dL_isFit_132 (by decide) (fun hc35 => ?_) (fun hc35 => ?_)
    · rw [if_neg hc35] at hf
      refine lv_iload_n hx hb dL_isFit_139 rfl (lv_at hl 1 rfl) ?_
      refine lv_i2d hx hb dL_isFit_140 ?_
      refine lv_iload_n hx hb dL_isFit_141 rfl (lv_at hl 2 rfl) ?_
      refine lv_i2d hx hb dL_isFit_142 ?_
      obtain ⟨hg36, hf⟩ := gdd_el hf
      refine lv_ddiv hx hb dL_isFit_143 hg36 ?_
      exact J37 (q32.2.2) (q19.1) (q19.2.1) (q32.1) (q32.2.1) (FP.ddiv (FP.i2d (i3 q19.1)) (FP.i2d (i3 q19.2.1))) hf hv20 hv21 hv33 hv34 _ _ _ hW hS (lv_sub hl [0, 1, 2, 3, 4] rfl)
    · rw [if_pos hc35] at hf
      refine lv_dconst0 hx hb dL_isFit_135 ?_
      refine lv_goto (tgt := 144) hx hb dL_isFit_136 (by decide) ?_
      exact J37 (q32.2.2) (q19.1) (q19.2.1) (q32.1) (q32.2.1) (FP.dconst0) hf hv20 hv21 hv33 hv34 _ _ _ hW hS (lv_sub hl [0, 1, 2, 3, 4] rfl)
  refine k_const hx hb dL_isFit_0 ?_
  refine lv_istore_n (lv' := [(1, .int (i3 (0))), (0, .ref (gA G (0)))]) hx hb dL_isFit_1 rfl hl (by decide) rfl (fun ls hl => ?_)
  refine k_const hx hb dL_isFit_2 ?_
  refine lv_istore_n (lv' := [(2, .int (i3 (0))), (1, .int (i3 (0))), (0, .ref (gA G (0)))]) hx hb dL_isFit_3 rfl hl (by decide) rfl (fun ls hl => ?_)
  refine k_const hx hb dL_isFit_4 ?_
  refine lv_istore_n (lv' := [(3, .int (i3 (0))), (2, .int (i3 (0))), (1, .int (i3 (0))), (0, .ref (gA G (0)))]) hx hb dL_isFit_5 rfl hl (by decide) rfl (fun ls hl => ?_)
  refine lv_aload_n hx hb dL_isFit_6 rfl (lv_at hl 3 rfl) ?_
  obtain ⟨q1, hq1, hf⟩ := bind_el hf
  refine k_cSz (As := [.ref (gA G (0))]) (rest := []) ⟨hx, hb, hml, hown, hts⟩ (mL_areRanks l G M0 q1 hq1) (va_cwS 1 hts (gbS (inB_20 _ (List.mem_of_getElem? (i := 20) rfl)) (inB_20 _ (List.mem_of_getElem? (i := 21) rfl)) (inB_7 _ (List.mem_of_getElem? (i := 22) rfl)) (inB_20 _ (List.mem_of_getElem? (i := 22) rfl))) rfl rfl rfl (by decide +kernel) ⟨Nat.le_of_ble_eq_true rfl, Nat.le_of_ble_eq_true rfl⟩) hW hS rfl hl.1 rfl (lv_room (Nat.le_of_ble_eq_true rfl)) dL_isFit_7 ⟨Nat.zero_le _, Nat.zero_le _⟩ (fun hv2 H locs hW hS => ?_)
  refine k_if_eq (tgt := 32) hx hb (inR_z hv2) dL_isFit_10 (by decide) (fun hc3 => ?_) (fun hc3 => ?_)
  · rw [if_pos hc3] at hf
    refine k_const hx hb dL_isFit_32 ?_
    exact J4 (M0) (0) (0) (0) (0) hf (show inR (0) by decide) (show inR (0) by decide) (show inR (0) by decide) (show inR (0) by decide) _ _ _ hW hS (lv_sub hl [3, 2, 1, 0] rfl)
  · rw [if_neg hc3] at hf
    refine lv_aload_n hx hb dL_isFit_13 rfl (lv_at hl 3 rfl) ?_
    obtain ⟨q77, hq77, hf⟩ := bind_el hf
    refine k_cSz (As := [.ref (gA G (0))]) (rest := []) ⟨hx, hb, hml, hown, hts⟩ (mL_areReached l G M0 q77 hq77) (va_cwS 1 hts (gbS (inB_22 _ (List.mem_of_getElem? (i := 5) rfl)) (inB_22 _ (List.mem_of_getElem? (i := 6) rfl)) (inB_7 _ (List.mem_of_getElem? (i := 22) rfl)) (inB_22 _ (List.mem_of_getElem? (i := 7) rfl))) rfl rfl rfl (by decide +kernel) ⟨Nat.le_of_ble_eq_true rfl, Nat.le_of_ble_eq_true rfl⟩) hW hS rfl hl.1 rfl (lv_room (Nat.le_of_ble_eq_true rfl)) dL_isFit_14 ⟨Nat.zero_le _, Nat.zero_le _⟩ (fun hv78 H locs hW hS => ?_)
    refine k_if_eq (tgt := 32) hx hb (inR_z hv78) dL_isFit_17 (by decide) (fun hc79 => ?_) (fun hc79 => ?_)
    · rw [if_pos hc79] at hf
      refine k_const hx hb dL_isFit_32 ?_
      exact J4 (M0) (0) (0) (0) (0) hf (show inR (0) by decide) (show inR (0) by decide) (show inR (0) by decide) (show inR (0) by decide) _ _ _ hW hS (lv_sub hl [3, 2, 1, 0] rfl)
    · rw [if_neg hc79] at hf
      refine lv_aload_n hx hb dL_isFit_20 rfl (lv_at hl 3 rfl) ?_
      obtain ⟨q80, hq80, hf⟩ := bind_el hf
      refine k_cVi (As := []) (rest := []) ⟨hx, hb, hml, hown, hts⟩ (mG_isBalanced l G M0 q80 hq80) (cwV 0 hts (gbV (inB_23 _ (List.mem_of_getElem? (i := 0) rfl)) (inB_23 _ (List.mem_of_getElem? (i := 1) rfl)) (inB_23 _ (List.mem_of_getElem? (i := 2) rfl)) (inB_1 _ (List.mem_of_getElem? (i := 2) rfl)) (inB_23 _ (List.mem_of_getElem? (i := 3) rfl))) rfl rfl rfl (by decide +kernel) ⟨Nat.le_of_ble_eq_true rfl, Nat.le_of_ble_eq_true rfl⟩) (rv_G hW) hW hS rfl hl.1 rfl (lv_room (Nat.le_of_ble_eq_true rfl)) dL_isFit_21 ⟨Nat.zero_le _, Nat.zero_le _⟩ (fun hv81 H locs hW hS => ?_)
      refine k_const hx hb dL_isFit_24 ?_
      refine k_icmp_ne (tgt := 32) hx hb hv81 (show inR (1) by decide) dL_isFit_25 (by decide) (fun hc82 => ?_) (fun hc82 => ?_)
      · rw [if_neg hc82] at hf
        refine k_const hx hb dL_isFit_32 ?_
        exact J4 (M0) (0) (0) (0) (0) hf (show inR (0) by decide) (show inR (0) by decide) (show inR (0) by decide) (show inR (0) by decide) _ _ _ hW hS (lv_sub hl [3, 2, 1, 0] rfl)
      · rw [if_pos hc82] at hf
        refine k_const hx hb dL_isFit_28 ?_
        refine lv_goto (tgt := 33) hx hb dL_isFit_29 (by decide) ?_
        exact J4 (M0) (0) (0) (0) (1) hf (show inR (0) by decide) (show inR (0) by decide) (show inR (0) by decide) (show inR (1) by decide) _ _ _ hW hS (lv_sub hl [3, 2, 1, 0] rfl)
set_option maxHeartbeats 4000000 in
set_option maxRecDepth 100000 in
theorem mL_isBest (l : Launch) (G : gG) (M0 : MemG) (x1 : Int) (hx1 : inR x1) (x2 : Int) (hx2 : inR x2) (r : MemG × Int) (hf : fL_isBest M0 x1 x2 = some r) : Met l yL_isBest (wb yL_isBest cL_isBest 8 (some .boolean)) ({ frames := 13, cells := 0, slots := 0, locals := 322 } : Room) (PcG G M0 [.ref (gA G (0)), .int (i3 (x1)), .int (i3 (x2))]) (QcZ G r.1 r.2) 0 0 (PA G) := by
  refine Met.ofW (cc := cL_isBest) (maxL := 8) (ret := (some .boolean)) (by decide) rfl ?_
  intro p e s m args below meth c s₁ B hml hv0
  obtain ⟨hav, hW⟩ := hv0
  have hx := B.exec
  have hb := B.bytes
  have hr := B.returns
  have hts := atoms_spec (ws := (wb yL_isBest cL_isBest 8 (some .boolean))) B.pre
  have hown : s.vm.findClass RL = some m.cls := findClass_of_methodNamed B.named
  have hlocks := B.notSynchronized
  have hW : Wd G M0 s s.heap := hW
  have hS : va_S (PA G) s.heap s.heap [] := va_S.rf
  have hl := lv_entry [.ref (gA G (0)), .int (i3 (x1)), .int (i3 (x2))] (n := 8) (Nat.le_of_ble_eq_true rfl)
  have hent := lg_entry_eq m [.ref (gA G (0)), .int (i3 (x1)), .int (i3 (x2))] 8
  rw [← hav] at hent
  rw [hent]
  clear hent
  generalize (lg_sl [.ref (gA G (0)), .int (i3 (x1)), .int (i3 (x2))] ++ List.replicate (8 - (lg_sl [.ref (gA G (0)), .int (i3 (x1)), .int (i3 (x2))]).length) Slot.unset).toArray = ls at hl ⊢
  have hl : lv_has ls 8 [(0, .ref (gA G (0))), (1, .int (i3 (x1))), (2, .int (i3 (x2)))] := hl
  unfold fL_isBest at hf
  show W p l e ({ frames := 13, cells := 0, slots := 0, locals := 322 } : Room) s m args below meth c s.heap [] 0 0 (MQ below (QcZ G r.1 r.2) args s 0 0 (PA G)) (F0 m 0 ls [])
  have J13 : ∀ (M : MemG) (x3 : Int64) (t0 : Int), fL_isBest_j84 M x3 t0 = some r → inR t0 →  ∀ (H : Heap) (locs : List Loc) (ls : Array Slot), Wd G M s H → va_S (PA G) s.heap H locs → lv_has ls 8 [(0, .ref (gA G (0))), (3, .long (x3))] → W p l e ({ frames := 13, cells := 0, slots := 0, locals := 322 } : Room) s m args below meth c H locs 0 0 (MQ below (QcZ G r.1 r.2) args s 0 0 (PA G)) (F0 m 84 ls [.int (i3 (t0))]) := by
    intro M x3 t0 hf ht0 H locs ls hW hS hl
    unfold fL_isBest_j84 at hf
    refine lv_istore (lv' := [(7, .int (i3 (t0))), (0, .ref (gA G (0))), (3, .long (x3))]) hx hb dL_isBest_84 hl (by decide) rfl (fun ls hl => ?_)
    refine lv_iload hx hb dL_isBest_86 (lv_at hl 0 rfl) ?_
    refine k_if_eq (tgt := 111) hx hb ht0 dL_isBest_88 (by decide) (fun hc14 => ?_) (fun hc14 => ?_)
    · rw [if_pos hc14] at hf
      refine k_const hx hb dL_isBest_111 ?_
      obtain rfl := some_el hf
      exact k_retz hx hb hr hlocks hW hS rfl (show (0 : Int) = 0 ∨ (0 : Int) = 1 by decide) dL_isBest_112
    · rw [if_neg hc14] at hf
      refine lv_aload_n hx hb dL_isBest_91 rfl (lv_at hl 1 rfl) ?_
      obtain ⟨q15, hq15, hf⟩ := bind_el hf
      refine k_cVi (As := []) (rest := []) ⟨hx, hb, hml, hown, hts⟩ (mG_undo l G M q15 hq15) (cwV 0 hts (gbV (inB_20 _ (List.mem_of_getElem? (i := 8) rfl)) (inB_20 _ (List.mem_of_getElem? (i := 9) rfl)) (inB_20 _ (List.mem_of_getElem? (i := 10) rfl)) (inB_1 _ (List.mem_of_getElem? (i := 2) rfl)) (inB_20 _ (List.mem_of_getElem? (i := 11) rfl))) rfl rfl rfl (by decide +kernel) ⟨Nat.le_of_ble_eq_true rfl, Nat.le_of_ble_eq_true rfl⟩) (rv_G hW) hW hS rfl hl.1 rfl (lv_room (Nat.le_of_ble_eq_true rfl)) dL_isBest_92 ⟨Nat.zero_le _, Nat.zero_le _⟩ (fun hv16 H locs hW hS => ?_)
      refine k_if_lt (tgt := 111) hx hb hv16 dL_isBest_95 (by decide) (fun hc17 => ?_) (fun hc17 => ?_)
      · rw [if_pos hc17] at hf
        refine k_const hx hb dL_isBest_111 ?_
        obtain rfl := some_el hf
        exact k_retz hx hb hr hlocks hW hS rfl (show (0 : Int) = 0 ∨ (0 : Int) = 1 by decide) dL_isBest_112
      · rw [if_neg hc17] at hf
        refine lv_aload_n hx hb dL_isBest_98 rfl (lv_at hl 1 rfl) ?_
        obtain ⟨q18, hq18, hf⟩ := bind_el hf
        refine k_cSl (As := [.ref (gA G (0))]) (rest := []) ⟨hx, hb, hml, hown, hts⟩ (mL_digest l G q15.1 q18 hq18) (va_cwS 1 hts (gbS (inB_7 _ (List.mem_of_getElem? (i := 20) rfl)) (inB_7 _ (List.mem_of_getElem? (i := 21) rfl)) (inB_7 _ (List.mem_of_getElem? (i := 22) rfl)) (inB_7 _ (List.mem_of_getElem? (i := 23) rfl))) rfl rfl rfl (by decide +kernel) ⟨Nat.le_of_ble_eq_true rfl, Nat.le_of_ble_eq_true rfl⟩) hW hS rfl hl.1 rfl (lv_room (Nat.le_of_ble_eq_true rfl)) dL_isBest_99 ⟨Nat.zero_le _, Nat.zero_le _⟩ (fun H locs hW hS => ?_)
        refine lv_lload_n hx hb dL_isBest_102 rfl (lv_at hl 2 rfl) ?_
        refine k_lcmp hx hb dL_isBest_103 ?_
        refine k_if_ne (tgt := 111) hx hb (inR_toInt _) dL_isBest_104 (by decide) (fun hc20 => ?_) (fun hc20 => ?_)
        · rw [if_neg hc20] at hf
          refine k_const hx hb dL_isBest_111 ?_
          obtain rfl := some_el hf
          exact k_retz hx hb hr hlocks hW hS rfl (show (0 : Int) = 0 ∨ (0 : Int) = 1 by decide) dL_isBest_112
        · rw [if_pos hc20] at hf
          refine k_const hx hb dL_isBest_107 ?_
          refine lv_goto (tgt := 112) hx hb dL_isBest_108 (by decide) ?_
          obtain rfl := some_el hf
          exact k_retz hx hb hr hlocks hW hS rfl (show (1 : Int) = 0 ∨ (1 : Int) = 1 by decide) dL_isBest_112
  have J9 : ∀ (M : MemG) (x1 : Int) (x2 : Int) (x3 : Int64) (x5 : Int) (x6 : Int), fL_isBest_j47 M x1 x2 x3 x5 x6 = some r → inR x1 → inR x2 → inR x5 → inR x6 →  ∀ (H : Heap) (locs : List Loc) (ls : Array Slot), Wd G M s H → va_S (PA G) s.heap H locs → lv_has ls 8 [(0, .ref (gA G (0))), (1, .int (i3 (x1))), (2, .int (i3 (x2))), (3, .long (x3)), (5, .int (i3 (x5))), (6, .int (i3 (x6)))] → W p l e ({ frames := 13, cells := 0, slots := 0, locals := 322 } : Room) s m args below meth c H locs 0 0 (MQ below (QcZ G r.1 r.2) args s 0 0 (PA G)) (F0 m 47 ls []) := by
    intro M x1 x2 x3 x5 x6 hf hx1 hx2 hx5 hx6 H locs ls hW hS hl
    unfold fL_isBest_j47 at hf
    refine lv_aload_n hx hb dL_isBest_47 rfl (lv_at hl 0 rfl) ?_
    refine lv_iload hx hb dL_isBest_48 (lv_at hl 4 rfl) ?_
    refine lv_iload_n hx hb dL_isBest_50 rfl (lv_at hl 1 rfl) ?_
    refine lv_iload_n hx hb dL_isBest_51 rfl (lv_at hl 2 rfl) ?_
    obtain ⟨q10, hq10, hf⟩ := bind_el hf
    refine k_cVi (As := [.int (i3 (x5)), .int (i3 (x1)), .int (i3 (x2))]) (rest := []) ⟨hx, hb, hml, hown, hts⟩ (mG_store l G M x5 hx5 x1 hx1 x2 hx2 q10 hq10) (cwV 3 hts (gbV (inB_3 _ (List.mem_of_getElem? (i := 18) rfl)) (inB_3 _ (List.mem_of_getElem? (i := 19) rfl)) (inB_3 _ (List.mem_of_getElem? (i := 20) rfl)) (inB_1 _ (List.mem_of_getElem? (i := 2) rfl)) (inB_3 _ (List.mem_of_getElem? (i := 21) rfl))) rfl rfl rfl (by decide +kernel) ⟨Nat.le_of_ble_eq_true rfl, Nat.le_of_ble_eq_true rfl⟩) (rv_G hW) hW hS rfl hl.1 rfl (lv_room (Nat.le_of_ble_eq_true rfl)) dL_isBest_52 ⟨Nat.zero_le _, Nat.zero_le _⟩ (fun hv11 H locs hW hS => ?_)
    refine k_if_ne (tgt := 83) hx hb hv11 dL_isBest_55 (by decide) (fun hc12 => ?_) (fun hc12 => ?_)
    · rw [if_neg hc12] at hf
      refine k_const hx hb dL_isBest_83 ?_
      exact J13 (q10.1) (x3) (0) hf (show inR (0) by decide) _ _ _ hW hS (lv_sub hl [0, 3] rfl)
    · rw [if_pos hc12] at hf
      refine lv_aload_n hx hb dL_isBest_58 rfl (lv_at hl 0 rfl) ?_
      refine lv_iload hx hb dL_isBest_59 (lv_at hl 4 rfl) ?_
      refine k_const hx hb dL_isBest_61 ?_
      obtain ⟨q21, hq21, hf⟩ := bind_el hf
      refine k_cVi (As := [.int (i3 (x5)), .int (i3 (1))]) (rest := []) ⟨hx, hb, hml, hown, hts⟩ (mG_bayOf l G q10.1 x5 hx5 1 (show inR (1) by decide) q21 hq21) (cwV 2 hts (gbV (inB_9 _ (List.mem_of_getElem? (i := 17) rfl)) (inB_9 _ (List.mem_of_getElem? (i := 18) rfl)) (inB_9 _ (List.mem_of_getElem? (i := 19) rfl)) (inB_1 _ (List.mem_of_getElem? (i := 2) rfl)) (inB_9 _ (List.mem_of_getElem? (i := 20) rfl))) rfl rfl rfl (by decide +kernel) ⟨Nat.le_of_ble_eq_true rfl, Nat.le_of_ble_eq_true rfl⟩) (rv_G hW) hW hS rfl hl.1 rfl (lv_room (Nat.le_of_ble_eq_true rfl)) dL_isBest_62 ⟨Nat.zero_le _, Nat.zero_le _⟩ (fun hv22 H locs hW hS => ?_)
      refine lv_iload hx hb dL_isBest_65 (lv_at hl 5 rfl) ?_
      refine lv_iload_n hx hb dL_isBest_67 rfl (lv_at hl 2 rfl) ?_
      refine k_add hx hb dL_isBest_68 ?_
      obtain ⟨hg23, hf⟩ := gd_el hf
      refine k_icmp_ne (tgt := 83) hx hb hv22 hg23 dL_isBest_69 (by decide) (fun hc24 => ?_) (fun hc24 => ?_)
      · rw [if_neg hc24] at hf
        refine k_const hx hb dL_isBest_83 ?_
        exact J13 (q10.1) (x3) (0) hf (show inR (0) by decide) _ _ _ hW hS (lv_sub hl [0, 3] rfl)
      · rw [if_pos hc24] at hf
        refine lv_aload_n hx hb dL_isBest_72 rfl (lv_at hl 0 rfl) ?_
        obtain ⟨q25, hq25, hf⟩ := bind_el hf
        refine k_cSz (As := [.ref (gA G (0))]) (rest := []) ⟨hx, hb, hml, hown, hts⟩ (mL_isFit l G q10.1 q25 hq25) (va_cwS 1 hts (gbS (inB_20 _ (List.mem_of_getElem? (i := 17) rfl)) (inB_20 _ (List.mem_of_getElem? (i := 18) rfl)) (inB_7 _ (List.mem_of_getElem? (i := 22) rfl)) (inB_20 _ (List.mem_of_getElem? (i := 19) rfl))) rfl rfl rfl (by decide +kernel) ⟨Nat.le_of_ble_eq_true rfl, Nat.le_of_ble_eq_true rfl⟩) hW hS rfl hl.1 rfl (lv_room (Nat.le_of_ble_eq_true rfl)) dL_isBest_73 ⟨Nat.zero_le _, Nat.zero_le _⟩ (fun hv26 H locs hW hS => ?_)
        refine k_if_eq (tgt := 83) hx hb (inR_z hv26) dL_isBest_76 (by decide) (fun hc27 => ?_) (fun hc27 => ?_)
        · rw [if_pos hc27] at hf
          refine k_const hx hb dL_isBest_83 ?_
          exact J13 (q25.1) (x3) (0) hf (show inR (0) by decide) _ _ _ hW hS (lv_sub hl [0, 3] rfl)
        · rw [if_neg hc27] at hf
          refine k_const hx hb dL_isBest_79 ?_
          refine lv_goto (tgt := 84) hx hb dL_isBest_80 (by decide) ?_
          exact J13 (q25.1) (x3) (1) hf (show inR (1) by decide) _ _ _ hW hS (lv_sub hl [0, 3] rfl)
  refine lv_aload_n hx hb dL_isBest_0 rfl (lv_at hl 0 rfl) ?_
  obtain ⟨q1, hq1, hf⟩ := bind_el hf
  refine k_cSl (As := [.ref (gA G (0))]) (rest := []) ⟨hx, hb, hml, hown, hts⟩ (mL_digest l G M0 q1 hq1) (va_cwS 1 hts (gbS (inB_7 _ (List.mem_of_getElem? (i := 20) rfl)) (inB_7 _ (List.mem_of_getElem? (i := 21) rfl)) (inB_7 _ (List.mem_of_getElem? (i := 22) rfl)) (inB_7 _ (List.mem_of_getElem? (i := 23) rfl))) rfl rfl rfl (by decide +kernel) ⟨Nat.le_of_ble_eq_true rfl, Nat.le_of_ble_eq_true rfl⟩) hW hS rfl hl.1 rfl (lv_room (Nat.le_of_ble_eq_true rfl)) dL_isBest_1 ⟨Nat.zero_le _, Nat.zero_le _⟩ (fun H locs hW hS => ?_)
  refine lv_lstore_n (lv' := [(3, .long (q1)), (0, .ref (gA G (0))), (1, .int (i3 (x1))), (2, .int (i3 (x2)))]) hx hb dL_isBest_4 rfl hl (by decide) rfl (fun ls hl => ?_)
  refine lv_aload_n hx hb dL_isBest_5 rfl (lv_at hl 1 rfl) ?_
  refine lv_iload_n hx hb dL_isBest_6 rfl (lv_at hl 2 rfl) ?_
  refine lv_iload_n hx hb dL_isBest_7 rfl (lv_at hl 3 rfl) ?_
  obtain ⟨q3, hq3, hf⟩ := bind_el hf
  refine k_cVi (As := [.int (i3 (x1)), .int (i3 (x2))]) (rest := []) ⟨hx, hb, hml, hown, hts⟩ (mG_bestBay l G M0 x1 hx1 x2 hx2 q3 hq3) (cwV 2 hts (gbV (inB_26 _ (List.mem_of_getElem? (i := 10) rfl)) (inB_26 _ (List.mem_of_getElem? (i := 11) rfl)) (inB_26 _ (List.mem_of_getElem? (i := 12) rfl)) (inB_1 _ (List.mem_of_getElem? (i := 2) rfl)) (inB_26 _ (List.mem_of_getElem? (i := 13) rfl))) rfl rfl rfl (by decide +kernel) ⟨Nat.le_of_ble_eq_true rfl, Nat.le_of_ble_eq_true rfl⟩) (rv_G hW) hW hS rfl hl.1 rfl (lv_room (Nat.le_of_ble_eq_true rfl)) dL_isBest_8 ⟨Nat.zero_le _, Nat.zero_le _⟩ (fun hv4 H locs hW hS => ?_)
  refine lv_istore (lv' := [(5, .int (i3 (q3))), (3, .long (q1)), (0, .ref (gA G (0))), (1, .int (i3 (x1))), (2, .int (i3 (x2)))]) hx hb dL_isBest_11 hl (by decide) rfl (fun ls hl => ?_)
  refine lv_iload hx hb dL_isBest_13 (lv_at hl 0 rfl) ?_
  refine k_bipush hx hb dL_isBest_15 (by decide +kernel) ?_
  refine k_icmp_ne (tgt := 22) hx hb hv4 (show inR (-15) by decide) dL_isBest_17 (by decide) (fun hc5 => ?_) (fun hc5 => ?_)
  · rw [if_neg hc5] at hf
    refine lv_aload_n hx hb dL_isBest_22 rfl (lv_at hl 2 rfl) ?_
    refine lv_iload hx hb dL_isBest_23 (lv_at hl 0 rfl) ?_
    refine k_const hx hb dL_isBest_25 ?_
    obtain ⟨q6, hq6, hf⟩ := bind_el hf
    refine k_cVi (As := [.int (i3 (q3)), .int (i3 (1))]) (rest := []) ⟨hx, hb, hml, hown, hts⟩ (mG_bayOf l G M0 q3 hv4 1 (show inR (1) by decide) q6 hq6) (cwV 2 hts (gbV (inB_9 _ (List.mem_of_getElem? (i := 17) rfl)) (inB_9 _ (List.mem_of_getElem? (i := 18) rfl)) (inB_9 _ (List.mem_of_getElem? (i := 19) rfl)) (inB_1 _ (List.mem_of_getElem? (i := 2) rfl)) (inB_9 _ (List.mem_of_getElem? (i := 20) rfl))) rfl rfl rfl (by decide +kernel) ⟨Nat.le_of_ble_eq_true rfl, Nat.le_of_ble_eq_true rfl⟩) (rv_G hW) hW hS rfl hl.1 rfl (lv_room (Nat.le_of_ble_eq_true rfl)) dL_isBest_26 ⟨Nat.zero_le _, Nat.zero_le _⟩ (fun hv7 H locs hW hS => ?_)
    refine lv_istore (lv' := [(6, .int (i3 (q6))), (5, .int (i3 (q3))), (3, .long (q1)), (0, .ref (gA G (0))), (1, .int (i3 (x1))), (2, .int (i3 (x2)))]) hx hb dL_isBest_29 hl (by decide) rfl (fun ls hl => ?_)
    refine lv_iload hx hb dL_isBest_31 (lv_at hl 0 rfl) ?_
    refine k_if_eq (tgt := 47) hx hb hv7 dL_isBest_33 (by decide) (fun hc8 => ?_) (fun hc8 => ?_)
    · rw [if_pos hc8] at hf
      exact J9 (M0) (x1) (x2) (q1) (q3) (q6) hf hx1 hx2 hv4 hv7 _ _ _ hW hS (lv_sub hl [3, 4, 5, 2, 1, 0] rfl)
    · rw [if_neg hc8] at hf
      refine lv_aload_n hx hb dL_isBest_36 rfl (lv_at hl 3 rfl) ?_
      refine lv_iload hx hb dL_isBest_37 (lv_at hl 1 rfl) ?_
      refine k_const hx hb dL_isBest_39 ?_
      obtain ⟨q28, hq28, hf⟩ := bind_el hf
      refine k_cVi (As := [.int (i3 (q3)), .int (i3 (0))]) (rest := []) ⟨hx, hb, hml, hown, hts⟩ (mG_bayOf l G M0 q3 hv4 0 (show inR (0) by decide) q28 hq28) (cwV 2 hts (gbV (inB_9 _ (List.mem_of_getElem? (i := 17) rfl)) (inB_9 _ (List.mem_of_getElem? (i := 18) rfl)) (inB_9 _ (List.mem_of_getElem? (i := 19) rfl)) (inB_1 _ (List.mem_of_getElem? (i := 2) rfl)) (inB_9 _ (List.mem_of_getElem? (i := 20) rfl))) rfl rfl rfl (by decide +kernel) ⟨Nat.le_of_ble_eq_true rfl, Nat.le_of_ble_eq_true rfl⟩) (rv_G hW) hW hS rfl hl.1 rfl (lv_room (Nat.le_of_ble_eq_true rfl)) dL_isBest_40 ⟨Nat.zero_le _, Nat.zero_le _⟩ (fun hv29 H locs hW hS => ?_)
      refine lv_iload_n hx hb dL_isBest_43 rfl (lv_at hl 4 rfl) ?_
      refine k_icmp_ne (tgt := 83) hx hb hv29 hx1 dL_isBest_44 (by decide) (fun hc30 => ?_) (fun hc30 => ?_)
      · rw [if_neg hc30] at hf
        refine k_const hx hb dL_isBest_83 ?_
        exact J13 (M0) (q1) (0) hf (show inR (0) by decide) _ _ _ hW hS (lv_sub hl [3, 2] rfl)
      · rw [if_pos hc30] at hf
        exact J9 (M0) (x1) (x2) (q1) (q3) (q6) hf hx1 hx2 hv4 hv7 _ _ _ hW hS (lv_sub hl [3, 4, 5, 2, 1, 0] rfl)
  · rw [if_pos hc5] at hf
    refine k_const hx hb dL_isBest_20 ?_
    obtain rfl := some_el hf
    exact k_retz hx hb hr hlocks hW hS rfl (show (1 : Int) = 0 ∨ (1 : Int) = 1 by decide) dL_isBest_21
set_option maxHeartbeats 4000000 in
set_option maxRecDepth 100000 in
theorem mL_isPassed (l : Launch) (G : gG) (M0 : MemG)  (r : MemG × Int) (hf : fL_isPassed M0 = some r) : Met l yL_isPassed (wb yL_isPassed cL_isPassed 5 (some .boolean)) ({ frames := 13, cells := 0, slots := 0, locals := 322 } : Room) (PcG G M0 [.ref (gA G (0))]) (QcZ G r.1 r.2) 0 0 (PA G) := by
  refine Met.ofW (cc := cL_isPassed) (maxL := 5) (ret := (some .boolean)) (by decide) rfl ?_
  intro p e s m args below meth c s₁ B hml hv0
  obtain ⟨hav, hW⟩ := hv0
  have hx := B.exec
  have hb := B.bytes
  have hr := B.returns
  have hts := atoms_spec (ws := (wb yL_isPassed cL_isPassed 5 (some .boolean))) B.pre
  have hown : s.vm.findClass RL = some m.cls := findClass_of_methodNamed B.named
  have hlocks := B.notSynchronized
  have hW : Wd G M0 s s.heap := hW
  have hS : va_S (PA G) s.heap s.heap [] := va_S.rf
  have hl := lv_entry [.ref (gA G (0))] (n := 5) (Nat.le_of_ble_eq_true rfl)
  have hent := lg_entry_eq m [.ref (gA G (0))] 5
  rw [← hav] at hent
  rw [hent]
  clear hent
  generalize (lg_sl [.ref (gA G (0))] ++ List.replicate (5 - (lg_sl [.ref (gA G (0))]).length) Slot.unset).toArray = ls at hl ⊢
  have hl : lv_has ls 5 [(0, .ref (gA G (0)))] := hl
  unfold fL_isPassed at hf
  show W p l e ({ frames := 13, cells := 0, slots := 0, locals := 322 } : Room) s m args below meth c s.heap [] 0 0 (MQ below (QcZ G r.1 r.2) args s 0 0 (PA G)) (F0 m 0 ls [])
  have L8 : ∀ (M : MemG) (x1 : Int64), ∀ (z : (Int × Int)) (q : (Int)), loopN (fL_isPassed_l10 M x1) 200 z = some q → (inR (q) → ∀ (H : Heap) (locs : List Loc) (ls : Array Slot), Wd G (M) s H → va_S (PA G) s.heap H locs → lv_has ls 5 [(0, .ref (gA G (0))), (1, .long (x1)), (3, .int (i3 (q)))] → W p l e ({ frames := 13, cells := 0, slots := 0, locals := 322 } : Room) s m args below meth c H locs 0 0 (MQ below (QcZ G r.1 r.2) args s 0 0 (PA G)) (F0 m 33 ls [])) → (inR (z.1) → inR (z.2) → ∀ (H : Heap) (locs : List Loc) (ls : Array Slot), Wd G (M) s H → va_S (PA G) s.heap H locs → lv_has ls 5 [(0, .ref (gA G (0))), (1, .long (x1)), (3, .int (i3 (z.1))), (4, .int (i3 (z.2)))] → W p l e ({ frames := 13, cells := 0, slots := 0, locals := 322 } : Room) s m args below meth c H locs 0 0 (MQ below (QcZ G r.1 r.2) args s 0 0 (PA G)) (F0 m 10 ls [])) := by
    intro M x1 z q hq hex
    refine loop_rule (fL_isPassed_l10 M x1) (fun z => inR (z.1) → inR (z.2) → ∀ (H : Heap) (locs : List Loc) (ls : Array Slot), Wd G (M) s H → va_S (PA G) s.heap H locs → lv_has ls 5 [(0, .ref (gA G (0))), (1, .long (x1)), (3, .int (i3 (z.1))), (4, .int (i3 (z.2)))] → W p l e ({ frames := 13, cells := 0, slots := 0, locals := 322 } : Room) s m args below meth c H locs 0 0 (MQ below (QcZ G r.1 r.2) args s 0 0 (PA G)) (F0 m 10 ls [])) (fun q => (inR (q) → ∀ (H : Heap) (locs : List Loc) (ls : Array Slot), Wd G (M) s H → va_S (PA G) s.heap H locs → lv_has ls 5 [(0, .ref (gA G (0))), (1, .long (x1)), (3, .int (i3 (q)))] → W p l e ({ frames := 13, cells := 0, slots := 0, locals := 322 } : Room) s m args below meth c H locs 0 0 (MQ below (QcZ G r.1 r.2) args s 0 0 (PA G)) (F0 m 33 ls []))) ?_ 200 z q hq hex
    clear hq hex q z
    intro z x hf hK hz3 hz4 H locs ls hW hS hl
    unfold fL_isPassed_l10 at hf
    refine lv_iload hx hb dL_isPassed_10 (lv_at hl 3 rfl) ?_
    refine k_bipush hx hb dL_isPassed_12 (by decide +kernel) ?_
    refine k_icmp_ge (tgt := 33) hx hb hz4 (show inR (32) by decide) dL_isPassed_14 (by decide) (fun hc3 => ?_) (fun hc3 => ?_)
    · rw [if_neg hc3] at hf
      obtain rfl := some_el hf
      exact hK hz3 _ _ _ hW hS (lv_sub hl [0, 1, 2] rfl)
    · rw [if_pos hc3] at hf
      refine lv_iload_n hx hb dL_isPassed_17 rfl (lv_at hl 2 rfl) ?_
      refine lv_aload_n hx hb dL_isPassed_18 rfl (lv_at hl 0 rfl) ?_
      refine lv_iload hx hb dL_isPassed_19 (lv_at hl 3 rfl) ?_
      refine k_const hx hb dL_isPassed_21 ?_
      obtain ⟨q4, hq4, hf⟩ := bind_el hf
      refine k_cVi (As := [.int (i3 (z.2)), .int (i3 (3))]) (rest := [.int (i3 (z.1))]) ⟨hx, hb, hml, hown, hts⟩ (mG_bayOf l G M z.2 hz4 3 (show inR (3) by decide) q4 hq4) (cwV 2 hts (gbV (inB_9 _ (List.mem_of_getElem? (i := 17) rfl)) (inB_9 _ (List.mem_of_getElem? (i := 18) rfl)) (inB_9 _ (List.mem_of_getElem? (i := 19) rfl)) (inB_1 _ (List.mem_of_getElem? (i := 2) rfl)) (inB_9 _ (List.mem_of_getElem? (i := 20) rfl))) rfl rfl rfl (by decide +kernel) ⟨Nat.le_of_ble_eq_true rfl, Nat.le_of_ble_eq_true rfl⟩) (rv_G hW) hW hS rfl hl.1 rfl (lv_room (Nat.le_of_ble_eq_true rfl)) dL_isPassed_22 ⟨Nat.zero_le _, Nat.zero_le _⟩ (fun hv5 H locs hW hS => ?_)
      refine k_add hx hb dL_isPassed_25 ?_
      obtain ⟨hg6, hf⟩ := gd_el hf
      refine lv_istore_n (lv' := [(3, .int (i3 (z.1 + q4))), (0, .ref (gA G (0))), (1, .long (x1)), (4, .int (i3 (z.2)))]) hx hb dL_isPassed_26 rfl hl (by decide) rfl (fun ls hl => ?_)
      obtain ⟨hg7, hf⟩ := gd_el hf
      refine k_iinc (lv' := [(4, .int (i3 (z.2 + 1))), (3, .int (i3 (z.1 + q4))), (0, .ref (gA G (0))), (1, .long (x1))]) hx hb dL_isPassed_27 hl (k := 3) rfl (by decide) rfl (fun ls hl => ?_)
      refine lv_goto (tgt := 10) hx hb dL_isPassed_30 (by decide) ?_
      obtain rfl := some_el hf
      exact hK hg6 hg7 _ _ _ hW hS (lv_sub hl [2, 3, 1, 0] rfl)
  have J14 : ∀ (M : MemG) (x1 : Int64) (t0 : Int), fL_isPassed_j54 M x1 t0 = some r → inR t0 →  ∀ (H : Heap) (locs : List Loc) (ls : Array Slot), Wd G M s H → va_S (PA G) s.heap H locs → lv_has ls 5 [(0, .ref (gA G (0))), (1, .long (x1))] → W p l e ({ frames := 13, cells := 0, slots := 0, locals := 322 } : Room) s m args below meth c H locs 0 0 (MQ below (QcZ G r.1 r.2) args s 0 0 (PA G)) (F0 m 54 ls [.int (i3 (t0))]) := by
    intro M x1 t0 hf ht0 H locs ls hW hS hl
    unfold fL_isPassed_j54 at hf
    refine lv_istore (lv' := [(4, .int (i3 (t0))), (0, .ref (gA G (0))), (1, .long (x1))]) hx hb dL_isPassed_54 hl (by decide) rfl (fun ls hl => ?_)
    refine lv_iload hx hb dL_isPassed_56 (lv_at hl 0 rfl) ?_
    refine k_if_eq (tgt := 81) hx hb ht0 dL_isPassed_58 (by decide) (fun hc15 => ?_) (fun hc15 => ?_)
    · rw [if_pos hc15] at hf
      refine k_const hx hb dL_isPassed_81 ?_
      obtain rfl := some_el hf
      exact k_retz hx hb hr hlocks hW hS rfl (show (0 : Int) = 0 ∨ (0 : Int) = 1 by decide) dL_isPassed_82
    · rw [if_neg hc15] at hf
      refine lv_aload_n hx hb dL_isPassed_61 rfl (lv_at hl 1 rfl) ?_
      obtain ⟨q16, hq16, hf⟩ := bind_el hf
      refine k_cVi (As := []) (rest := []) ⟨hx, hb, hml, hown, hts⟩ (mG_undo l G M q16 hq16) (cwV 0 hts (gbV (inB_20 _ (List.mem_of_getElem? (i := 8) rfl)) (inB_20 _ (List.mem_of_getElem? (i := 9) rfl)) (inB_20 _ (List.mem_of_getElem? (i := 10) rfl)) (inB_1 _ (List.mem_of_getElem? (i := 2) rfl)) (inB_20 _ (List.mem_of_getElem? (i := 11) rfl))) rfl rfl rfl (by decide +kernel) ⟨Nat.le_of_ble_eq_true rfl, Nat.le_of_ble_eq_true rfl⟩) (rv_G hW) hW hS rfl hl.1 rfl (lv_room (Nat.le_of_ble_eq_true rfl)) dL_isPassed_62 ⟨Nat.zero_le _, Nat.zero_le _⟩ (fun hv17 H locs hW hS => ?_)
      refine k_if_lt (tgt := 81) hx hb hv17 dL_isPassed_65 (by decide) (fun hc18 => ?_) (fun hc18 => ?_)
      · rw [if_pos hc18] at hf
        refine k_const hx hb dL_isPassed_81 ?_
        obtain rfl := some_el hf
        exact k_retz hx hb hr hlocks hW hS rfl (show (0 : Int) = 0 ∨ (0 : Int) = 1 by decide) dL_isPassed_82
      · rw [if_neg hc18] at hf
        refine lv_aload_n hx hb dL_isPassed_68 rfl (lv_at hl 1 rfl) ?_
        obtain ⟨q19, hq19, hf⟩ := bind_el hf
        refine k_cSl (As := [.ref (gA G (0))]) (rest := []) ⟨hx, hb, hml, hown, hts⟩ (mL_digest l G q16.1 q19 hq19) (va_cwS 1 hts (gbS (inB_7 _ (List.mem_of_getElem? (i := 20) rfl)) (inB_7 _ (List.mem_of_getElem? (i := 21) rfl)) (inB_7 _ (List.mem_of_getElem? (i := 22) rfl)) (inB_7 _ (List.mem_of_getElem? (i := 23) rfl))) rfl rfl rfl (by decide +kernel) ⟨Nat.le_of_ble_eq_true rfl, Nat.le_of_ble_eq_true rfl⟩) hW hS rfl hl.1 rfl (lv_room (Nat.le_of_ble_eq_true rfl)) dL_isPassed_69 ⟨Nat.zero_le _, Nat.zero_le _⟩ (fun H locs hW hS => ?_)
        refine lv_lload_n hx hb dL_isPassed_72 rfl (lv_at hl 2 rfl) ?_
        refine k_lcmp hx hb dL_isPassed_73 ?_
        refine k_if_ne (tgt := 81) hx hb (inR_toInt _) dL_isPassed_74 (by decide) (fun hc21 => ?_) (fun hc21 => ?_)
        · rw [if_neg hc21] at hf
          refine k_const hx hb dL_isPassed_81 ?_
          obtain rfl := some_el hf
          exact k_retz hx hb hr hlocks hW hS rfl (show (0 : Int) = 0 ∨ (0 : Int) = 1 by decide) dL_isPassed_82
        · rw [if_pos hc21] at hf
          refine k_const hx hb dL_isPassed_77 ?_
          refine lv_goto (tgt := 82) hx hb dL_isPassed_78 (by decide) ?_
          obtain rfl := some_el hf
          exact k_retz hx hb hr hlocks hW hS rfl (show (1 : Int) = 0 ∨ (1 : Int) = 1 by decide) dL_isPassed_82
  refine lv_aload_n hx hb dL_isPassed_0 rfl (lv_at hl 0 rfl) ?_
  obtain ⟨q1, hq1, hf⟩ := bind_el hf
  refine k_cSl (As := [.ref (gA G (0))]) (rest := []) ⟨hx, hb, hml, hown, hts⟩ (mL_digest l G M0 q1 hq1) (va_cwS 1 hts (gbS (inB_7 _ (List.mem_of_getElem? (i := 20) rfl)) (inB_7 _ (List.mem_of_getElem? (i := 21) rfl)) (inB_7 _ (List.mem_of_getElem? (i := 22) rfl)) (inB_7 _ (List.mem_of_getElem? (i := 23) rfl))) rfl rfl rfl (by decide +kernel) ⟨Nat.le_of_ble_eq_true rfl, Nat.le_of_ble_eq_true rfl⟩) hW hS rfl hl.1 rfl (lv_room (Nat.le_of_ble_eq_true rfl)) dL_isPassed_1 ⟨Nat.zero_le _, Nat.zero_le _⟩ (fun H locs hW hS => ?_)
  refine lv_lstore_n (lv' := [(1, .long (q1)), (0, .ref (gA G (0)))]) hx hb dL_isPassed_4 rfl hl (by decide) rfl (fun ls hl => ?_)
  refine k_const hx hb dL_isPassed_5 ?_
  refine lv_istore_n (lv' := [(3, .int (i3 (0))), (1, .long (q1)), (0, .ref (gA G (0)))]) hx hb dL_isPassed_6 rfl hl (by decide) rfl (fun ls hl => ?_)
  refine k_const hx hb dL_isPassed_7 ?_
  refine lv_istore (lv' := [(4, .int (i3 (0))), (3, .int (i3 (0))), (1, .long (q1)), (0, .ref (gA G (0)))]) hx hb dL_isPassed_8 hl (by decide) rfl (fun ls hl => ?_)
  obtain ⟨q9, hq9, hf⟩ := bind_el hf
  refine L8 (M0) (q1) (0, 0) q9 hq9 ?_ (show inR (0) by decide) (show inR (0) by decide) _ _ _ hW hS (lv_sub hl [3, 2, 1, 0] rfl)
  intro hv10 H locs ls hW hS hl
  refine lv_aload_n hx hb dL_isPassed_33 rfl (lv_at hl 0 rfl) ?_
  refine k_const hx hb dL_isPassed_34 ?_
  obtain ⟨q11, hq11, hf⟩ := bind_el hf
  refine k_cVi (As := [.int (i3 (1))]) (rest := []) ⟨hx, hb, hml, hown, hts⟩ (mG_pass l G M0 1 (show inR (1) by decide) q11 hq11) (cwV 1 hts (gbV (inB_13 _ (List.mem_of_getElem? (i := 21) rfl)) (inB_13 _ (List.mem_of_getElem? (i := 22) rfl)) (inB_13 _ (List.mem_of_getElem? (i := 23) rfl)) (inB_1 _ (List.mem_of_getElem? (i := 2) rfl)) (inB_14 _ (List.mem_of_getElem? (i := 0) rfl))) rfl rfl rfl (by decide +kernel) ⟨Nat.le_of_ble_eq_true rfl, Nat.le_of_ble_eq_true rfl⟩) (rv_G hW) hW hS rfl hl.1 rfl (lv_room (Nat.le_of_ble_eq_true rfl)) dL_isPassed_35 ⟨Nat.zero_le _, Nat.zero_le _⟩ (fun hv12 H locs hW hS => ?_)
  refine lv_iload_n hx hb dL_isPassed_38 rfl (lv_at hl 2 rfl) ?_
  refine k_icmp_ne (tgt := 53) hx hb hv12 hv10 dL_isPassed_39 (by decide) (fun hc13 => ?_) (fun hc13 => ?_)
  · rw [if_neg hc13] at hf
    refine k_const hx hb dL_isPassed_53 ?_
    exact J14 (q11.1) (q1) (0) hf (show inR (0) by decide) _ _ _ hW hS (lv_sub hl [0, 1] rfl)
  · rw [if_pos hc13] at hf
    refine lv_aload_n hx hb dL_isPassed_42 rfl (lv_at hl 0 rfl) ?_
    obtain ⟨q22, hq22, hf⟩ := bind_el hf
    refine k_cSz (As := [.ref (gA G (0))]) (rest := []) ⟨hx, hb, hml, hown, hts⟩ (mL_isFit l G q11.1 q22 hq22) (va_cwS 1 hts (gbS (inB_20 _ (List.mem_of_getElem? (i := 17) rfl)) (inB_20 _ (List.mem_of_getElem? (i := 18) rfl)) (inB_7 _ (List.mem_of_getElem? (i := 22) rfl)) (inB_20 _ (List.mem_of_getElem? (i := 19) rfl))) rfl rfl rfl (by decide +kernel) ⟨Nat.le_of_ble_eq_true rfl, Nat.le_of_ble_eq_true rfl⟩) hW hS rfl hl.1 rfl (lv_room (Nat.le_of_ble_eq_true rfl)) dL_isPassed_43 ⟨Nat.zero_le _, Nat.zero_le _⟩ (fun hv23 H locs hW hS => ?_)
    refine k_if_eq (tgt := 53) hx hb (inR_z hv23) dL_isPassed_46 (by decide) (fun hc24 => ?_) (fun hc24 => ?_)
    · rw [if_pos hc24] at hf
      refine k_const hx hb dL_isPassed_53 ?_
      exact J14 (q22.1) (q1) (0) hf (show inR (0) by decide) _ _ _ hW hS (lv_sub hl [0, 1] rfl)
    · rw [if_neg hc24] at hf
      refine k_const hx hb dL_isPassed_49 ?_
      refine lv_goto (tgt := 54) hx hb dL_isPassed_50 (by decide) ?_
      exact J14 (q22.1) (q1) (1) hf (show inR (1) by decide) _ _ _ hW hS (lv_sub hl [0, 1] rfl)
set_option maxHeartbeats 4000000 in
set_option maxRecDepth 100000 in
theorem mL_isSold (l : Launch) (G : gG) (M0 : MemG) (x1 : Int) (hx1 : inR x1) (x2 : Int) (hx2 : inR x2) (r : MemG × Int) (hf : fL_isSold M0 x1 x2 = some r) : Met l yL_isSold (wb yL_isSold cL_isSold 9 (some .boolean)) ({ frames := 13, cells := 0, slots := 0, locals := 322 } : Room) (PcG G M0 [.ref (gA G (0)), .int (i3 (x1)), .int (i3 (x2))]) (QcZ G r.1 r.2) 0 0 (PA G) := by
  refine Met.ofW (cc := cL_isSold) (maxL := 9) (ret := (some .boolean)) (by decide) rfl ?_
  intro p e s m args below meth c s₁ B hml hv0
  obtain ⟨hav, hW⟩ := hv0
  have hx := B.exec
  have hb := B.bytes
  have hr := B.returns
  have hts := atoms_spec (ws := (wb yL_isSold cL_isSold 9 (some .boolean))) B.pre
  have hown : s.vm.findClass RL = some m.cls := findClass_of_methodNamed B.named
  have hlocks := B.notSynchronized
  have hW : Wd G M0 s s.heap := hW
  have hS : va_S (PA G) s.heap s.heap [] := va_S.rf
  have hl := lv_entry [.ref (gA G (0)), .int (i3 (x1)), .int (i3 (x2))] (n := 9) (Nat.le_of_ble_eq_true rfl)
  have hent := lg_entry_eq m [.ref (gA G (0)), .int (i3 (x1)), .int (i3 (x2))] 9
  rw [← hav] at hent
  rw [hent]
  clear hent
  generalize (lg_sl [.ref (gA G (0)), .int (i3 (x1)), .int (i3 (x2))] ++ List.replicate (9 - (lg_sl [.ref (gA G (0)), .int (i3 (x1)), .int (i3 (x2))]).length) Slot.unset).toArray = ls at hl ⊢
  have hl : lv_has ls 9 [(0, .ref (gA G (0))), (1, .int (i3 (x1))), (2, .int (i3 (x2)))] := hl
  unfold fL_isSold at hf
  show W p l e ({ frames := 13, cells := 0, slots := 0, locals := 322 } : Room) s m args below meth c s.heap [] 0 0 (MQ below (QcZ G r.1 r.2) args s 0 0 (PA G)) (F0 m 0 ls [])
  have J12 : ∀ (M : MemG) (x3 : Int64) (t0 : Int), fL_isSold_j132 M x3 t0 = some r → inR t0 →  ∀ (H : Heap) (locs : List Loc) (ls : Array Slot), Wd G M s H → va_S (PA G) s.heap H locs → lv_has ls 9 [(0, .ref (gA G (0))), (3, .long (x3))] → W p l e ({ frames := 13, cells := 0, slots := 0, locals := 322 } : Room) s m args below meth c H locs 0 0 (MQ below (QcZ G r.1 r.2) args s 0 0 (PA G)) (F0 m 132 ls [.int (i3 (t0))]) := by
    intro M x3 t0 hf ht0 H locs ls hW hS hl
    unfold fL_isSold_j132 at hf
    refine lv_istore (lv' := [(8, .int (i3 (t0))), (0, .ref (gA G (0))), (3, .long (x3))]) hx hb dL_isSold_132 hl (by decide) rfl (fun ls hl => ?_)
    refine lv_iload hx hb dL_isSold_134 (lv_at hl 0 rfl) ?_
    refine k_if_eq (tgt := 159) hx hb ht0 dL_isSold_136 (by decide) (fun hc13 => ?_) (fun hc13 => ?_)
    · rw [if_pos hc13] at hf
      refine k_const hx hb dL_isSold_159 ?_
      obtain rfl := some_el hf
      exact k_retz hx hb hr hlocks hW hS rfl (show (0 : Int) = 0 ∨ (0 : Int) = 1 by decide) dL_isSold_160
    · rw [if_neg hc13] at hf
      refine lv_aload_n hx hb dL_isSold_139 rfl (lv_at hl 1 rfl) ?_
      obtain ⟨q14, hq14, hf⟩ := bind_el hf
      refine k_cVi (As := []) (rest := []) ⟨hx, hb, hml, hown, hts⟩ (mG_undo l G M q14 hq14) (cwV 0 hts (gbV (inB_20 _ (List.mem_of_getElem? (i := 8) rfl)) (inB_20 _ (List.mem_of_getElem? (i := 9) rfl)) (inB_20 _ (List.mem_of_getElem? (i := 10) rfl)) (inB_1 _ (List.mem_of_getElem? (i := 2) rfl)) (inB_20 _ (List.mem_of_getElem? (i := 11) rfl))) rfl rfl rfl (by decide +kernel) ⟨Nat.le_of_ble_eq_true rfl, Nat.le_of_ble_eq_true rfl⟩) (rv_G hW) hW hS rfl hl.1 rfl (lv_room (Nat.le_of_ble_eq_true rfl)) dL_isSold_140 ⟨Nat.zero_le _, Nat.zero_le _⟩ (fun hv15 H locs hW hS => ?_)
      refine k_if_lt (tgt := 159) hx hb hv15 dL_isSold_143 (by decide) (fun hc16 => ?_) (fun hc16 => ?_)
      · rw [if_pos hc16] at hf
        refine k_const hx hb dL_isSold_159 ?_
        obtain rfl := some_el hf
        exact k_retz hx hb hr hlocks hW hS rfl (show (0 : Int) = 0 ∨ (0 : Int) = 1 by decide) dL_isSold_160
      · rw [if_neg hc16] at hf
        refine lv_aload_n hx hb dL_isSold_146 rfl (lv_at hl 1 rfl) ?_
        obtain ⟨q17, hq17, hf⟩ := bind_el hf
        refine k_cSl (As := [.ref (gA G (0))]) (rest := []) ⟨hx, hb, hml, hown, hts⟩ (mL_digest l G q14.1 q17 hq17) (va_cwS 1 hts (gbS (inB_7 _ (List.mem_of_getElem? (i := 20) rfl)) (inB_7 _ (List.mem_of_getElem? (i := 21) rfl)) (inB_7 _ (List.mem_of_getElem? (i := 22) rfl)) (inB_7 _ (List.mem_of_getElem? (i := 23) rfl))) rfl rfl rfl (by decide +kernel) ⟨Nat.le_of_ble_eq_true rfl, Nat.le_of_ble_eq_true rfl⟩) hW hS rfl hl.1 rfl (lv_room (Nat.le_of_ble_eq_true rfl)) dL_isSold_147 ⟨Nat.zero_le _, Nat.zero_le _⟩ (fun H locs hW hS => ?_)
        refine lv_lload_n hx hb dL_isSold_150 rfl (lv_at hl 2 rfl) ?_
        refine k_lcmp hx hb dL_isSold_151 ?_
        refine k_if_ne (tgt := 159) hx hb (inR_toInt _) dL_isSold_152 (by decide) (fun hc19 => ?_) (fun hc19 => ?_)
        · rw [if_neg hc19] at hf
          refine k_const hx hb dL_isSold_159 ?_
          obtain rfl := some_el hf
          exact k_retz hx hb hr hlocks hW hS rfl (show (0 : Int) = 0 ∨ (0 : Int) = 1 by decide) dL_isSold_160
        · rw [if_pos hc19] at hf
          refine k_const hx hb dL_isSold_155 ?_
          refine lv_goto (tgt := 160) hx hb dL_isSold_156 (by decide) ?_
          obtain rfl := some_el hf
          exact k_retz hx hb hr hlocks hW hS rfl (show (1 : Int) = 0 ∨ (1 : Int) = 1 by decide) dL_isSold_160
  refine lv_aload_n hx hb dL_isSold_0 rfl (lv_at hl 0 rfl) ?_
  obtain ⟨q1, hq1, hf⟩ := bind_el hf
  refine k_cSl (As := [.ref (gA G (0))]) (rest := []) ⟨hx, hb, hml, hown, hts⟩ (mL_digest l G M0 q1 hq1) (va_cwS 1 hts (gbS (inB_7 _ (List.mem_of_getElem? (i := 20) rfl)) (inB_7 _ (List.mem_of_getElem? (i := 21) rfl)) (inB_7 _ (List.mem_of_getElem? (i := 22) rfl)) (inB_7 _ (List.mem_of_getElem? (i := 23) rfl))) rfl rfl rfl (by decide +kernel) ⟨Nat.le_of_ble_eq_true rfl, Nat.le_of_ble_eq_true rfl⟩) hW hS rfl hl.1 rfl (lv_room (Nat.le_of_ble_eq_true rfl)) dL_isSold_1 ⟨Nat.zero_le _, Nat.zero_le _⟩ (fun H locs hW hS => ?_)
  refine lv_lstore_n (lv' := [(3, .long (q1)), (0, .ref (gA G (0))), (1, .int (i3 (x1))), (2, .int (i3 (x2)))]) hx hb dL_isSold_4 rfl hl (by decide) rfl (fun ls hl => ?_)
  refine lv_aload_n hx hb dL_isSold_5 rfl (lv_at hl 1 rfl) ?_
  refine k_const hx hb dL_isSold_6 ?_
  refine lv_iload_n hx hb dL_isSold_7 rfl (lv_at hl 2 rfl) ?_
  refine k_add hx hb dL_isSold_8 ?_
  obtain ⟨hg3, hf⟩ := gd_el hf
  obtain ⟨q4, hq4, hf⟩ := bind_el hf
  refine k_cVi (As := [.int (i3 (4 + x1))]) (rest := []) ⟨hx, hb, hml, hown, hts⟩ (mG_account l G M0 (4 + x1) hg3 q4 hq4) (cwV 1 hts (gbV (inB_8 _ (List.mem_of_getElem? (i := 2) rfl)) (inB_8 _ (List.mem_of_getElem? (i := 3) rfl)) (inB_8 _ (List.mem_of_getElem? (i := 4) rfl)) (inB_1 _ (List.mem_of_getElem? (i := 2) rfl)) (inB_8 _ (List.mem_of_getElem? (i := 5) rfl))) rfl rfl rfl (by decide +kernel) ⟨Nat.le_of_ble_eq_true rfl, Nat.le_of_ble_eq_true rfl⟩) (rv_G hW) hW hS rfl hl.1 rfl (lv_room (Nat.le_of_ble_eq_true rfl)) dL_isSold_9 ⟨Nat.zero_le _, Nat.zero_le _⟩ (fun hv5 H locs hW hS => ?_)
  refine lv_istore (lv' := [(5, .int (i3 (q4))), (3, .long (q1)), (0, .ref (gA G (0))), (1, .int (i3 (x1))), (2, .int (i3 (x2)))]) hx hb dL_isSold_12 hl (by decide) rfl (fun ls hl => ?_)
  refine lv_aload_n hx hb dL_isSold_14 rfl (lv_at hl 2 rfl) ?_
  refine k_const hx hb dL_isSold_15 ?_
  obtain ⟨q6, hq6, hf⟩ := bind_el hf
  refine k_cVi (As := [.int (i3 (1))]) (rest := []) ⟨hx, hb, hml, hown, hts⟩ (mG_account l G M0 1 (show inR (1) by decide) q6 hq6) (cwV 1 hts (gbV (inB_8 _ (List.mem_of_getElem? (i := 2) rfl)) (inB_8 _ (List.mem_of_getElem? (i := 3) rfl)) (inB_8 _ (List.mem_of_getElem? (i := 4) rfl)) (inB_1 _ (List.mem_of_getElem? (i := 2) rfl)) (inB_8 _ (List.mem_of_getElem? (i := 5) rfl))) rfl rfl rfl (by decide +kernel) ⟨Nat.le_of_ble_eq_true rfl, Nat.le_of_ble_eq_true rfl⟩) (rv_G hW) hW hS rfl hl.1 rfl (lv_room (Nat.le_of_ble_eq_true rfl)) dL_isSold_16 ⟨Nat.zero_le _, Nat.zero_le _⟩ (fun hv7 H locs hW hS => ?_)
  refine lv_istore (lv' := [(6, .int (i3 (q6))), (5, .int (i3 (q4))), (3, .long (q1)), (0, .ref (gA G (0))), (1, .int (i3 (x1))), (2, .int (i3 (x2)))]) hx hb dL_isSold_19 hl (by decide) rfl (fun ls hl => ?_)
  refine lv_aload_n hx hb dL_isSold_21 rfl (lv_at hl 3 rfl) ?_
  refine lv_iload_n hx hb dL_isSold_22 rfl (lv_at hl 4 rfl) ?_
  refine lv_iload_n hx hb dL_isSold_23 rfl (lv_at hl 5 rfl) ?_
  obtain ⟨q8, hq8, hf⟩ := bind_el hf
  refine k_cVi (As := [.int (i3 (x1)), .int (i3 (x2))]) (rest := []) ⟨hx, hb, hml, hown, hts⟩ (mG_order l G M0 x1 hx1 x2 hx2 q8 hq8) (cwV 2 hts (gbV (inB_12 _ (List.mem_of_getElem? (i := 16) rfl)) (inB_12 _ (List.mem_of_getElem? (i := 17) rfl)) (inB_12 _ (List.mem_of_getElem? (i := 18) rfl)) (inB_1 _ (List.mem_of_getElem? (i := 2) rfl)) (inB_12 _ (List.mem_of_getElem? (i := 19) rfl))) rfl rfl rfl (by decide +kernel) ⟨Nat.le_of_ble_eq_true rfl, Nat.le_of_ble_eq_true rfl⟩) (rv_G hW) hW hS rfl hl.1 rfl (lv_room (Nat.le_of_ble_eq_true rfl)) dL_isSold_24 ⟨Nat.zero_le _, Nat.zero_le _⟩ (fun hv9 H locs hW hS => ?_)
  refine lv_istore (lv' := [(7, .int (i3 (q8.2))), (6, .int (i3 (q6))), (5, .int (i3 (q4))), (3, .long (q1)), (0, .ref (gA G (0))), (1, .int (i3 (x1))), (2, .int (i3 (x2)))]) hx hb dL_isSold_27 hl (by decide) rfl (fun ls hl => ?_)
  refine lv_iload hx hb dL_isSold_29 (lv_at hl 0 rfl) ?_
  refine k_bipush hx hb dL_isSold_31 (by decide +kernel) ?_
  refine k_icmp_ne (tgt := 76) hx hb hv9 (show inR (-14) by decide) dL_isSold_33 (by decide) (fun hc10 => ?_) (fun hc10 => ?_)
  · rw [if_neg hc10] at hf
    refine lv_iload hx hb dL_isSold_76 (lv_at hl 2 rfl) ?_
    refine lv_iload_n hx hb dL_isSold_78 rfl (lv_at hl 6 rfl) ?_
    refine k_icmp_lt (tgt := 131) hx hb hv5 hx2 dL_isSold_79 (by decide) (fun hc11 => ?_) (fun hc11 => ?_)
    · rw [if_pos hc11] at hf
      refine k_const hx hb dL_isSold_131 ?_
      exact J12 (q8.1) (q1) (0) hf (show inR (0) by decide) _ _ _ hW hS (lv_sub hl [4, 3] rfl)
    · rw [if_neg hc11] at hf
      refine lv_iload hx hb dL_isSold_82 (lv_at hl 0 rfl) ?_
      refine lv_aload_n hx hb dL_isSold_84 rfl (lv_at hl 4 rfl) ?_
      refine lv_iload_n hx hb dL_isSold_85 rfl (lv_at hl 5 rfl) ?_
      refine lv_iload_n hx hb dL_isSold_86 rfl (lv_at hl 6 rfl) ?_
      obtain ⟨q20, hq20, hf⟩ := bind_el hf
      refine k_cVi (As := [.int (i3 (x1)), .int (i3 (x2))]) (rest := [.int (i3 (q8.2))]) ⟨hx, hb, hml, hown, hts⟩ (mG_price l G q8.1 x1 hx1 x2 hx2 q20 hq20) (cwV 2 hts (gbV (inB_27 _ (List.mem_of_getElem? (i := 1) rfl)) (inB_27 _ (List.mem_of_getElem? (i := 2) rfl)) (inB_27 _ (List.mem_of_getElem? (i := 3) rfl)) (inB_1 _ (List.mem_of_getElem? (i := 2) rfl)) (inB_27 _ (List.mem_of_getElem? (i := 4) rfl))) rfl rfl rfl (by decide +kernel) ⟨Nat.le_of_ble_eq_true rfl, Nat.le_of_ble_eq_true rfl⟩) (rv_G hW) hW hS rfl hl.1 rfl (lv_room (Nat.le_of_ble_eq_true rfl)) dL_isSold_87 ⟨Nat.zero_le _, Nat.zero_le _⟩ (fun hv21 H locs hW hS => ?_)
      refine k_icmp_ne (tgt := 131) hx hb hv9 hv21 dL_isSold_90 (by decide) (fun hc22 => ?_) (fun hc22 => ?_)
      · rw [if_neg hc22] at hf
        refine k_const hx hb dL_isSold_131 ?_
        exact J12 (q8.1) (q1) (0) hf (show inR (0) by decide) _ _ _ hW hS (lv_sub hl [4, 3] rfl)
      · rw [if_pos hc22] at hf
        refine lv_aload_n hx hb dL_isSold_93 rfl (lv_at hl 4 rfl) ?_
        refine k_const hx hb dL_isSold_94 ?_
        obtain ⟨q23, hq23, hf⟩ := bind_el hf
        refine k_cVi (As := [.int (i3 (1))]) (rest := []) ⟨hx, hb, hml, hown, hts⟩ (mG_account l G q8.1 1 (show inR (1) by decide) q23 hq23) (cwV 1 hts (gbV (inB_8 _ (List.mem_of_getElem? (i := 2) rfl)) (inB_8 _ (List.mem_of_getElem? (i := 3) rfl)) (inB_8 _ (List.mem_of_getElem? (i := 4) rfl)) (inB_1 _ (List.mem_of_getElem? (i := 2) rfl)) (inB_8 _ (List.mem_of_getElem? (i := 5) rfl))) rfl rfl rfl (by decide +kernel) ⟨Nat.le_of_ble_eq_true rfl, Nat.le_of_ble_eq_true rfl⟩) (rv_G hW) hW hS rfl hl.1 rfl (lv_room (Nat.le_of_ble_eq_true rfl)) dL_isSold_95 ⟨Nat.zero_le _, Nat.zero_le _⟩ (fun hv24 H locs hW hS => ?_)
        refine lv_iload hx hb dL_isSold_98 (lv_at hl 1 rfl) ?_
        refine lv_iload hx hb dL_isSold_100 (lv_at hl 0 rfl) ?_
        refine k_add hx hb dL_isSold_102 ?_
        obtain ⟨hg25, hf⟩ := gd_el hf
        refine k_icmp_ne (tgt := 131) hx hb hv24 hg25 dL_isSold_103 (by decide) (fun hc26 => ?_) (fun hc26 => ?_)
        · rw [if_neg hc26] at hf
          refine k_const hx hb dL_isSold_131 ?_
          exact J12 (q8.1) (q1) (0) hf (show inR (0) by decide) _ _ _ hW hS (lv_sub hl [4, 3] rfl)
        · rw [if_pos hc26] at hf
          refine lv_aload_n hx hb dL_isSold_106 rfl (lv_at hl 4 rfl) ?_
          refine k_const hx hb dL_isSold_107 ?_
          refine lv_iload_n hx hb dL_isSold_108 rfl (lv_at hl 5 rfl) ?_
          refine k_add hx hb dL_isSold_109 ?_
          obtain ⟨hg27, hf⟩ := gd_el hf
          obtain ⟨q28, hq28, hf⟩ := bind_el hf
          refine k_cVi (As := [.int (i3 (4 + x1))]) (rest := []) ⟨hx, hb, hml, hown, hts⟩ (mG_account l G q8.1 (4 + x1) hg27 q28 hq28) (cwV 1 hts (gbV (inB_8 _ (List.mem_of_getElem? (i := 2) rfl)) (inB_8 _ (List.mem_of_getElem? (i := 3) rfl)) (inB_8 _ (List.mem_of_getElem? (i := 4) rfl)) (inB_1 _ (List.mem_of_getElem? (i := 2) rfl)) (inB_8 _ (List.mem_of_getElem? (i := 5) rfl))) rfl rfl rfl (by decide +kernel) ⟨Nat.le_of_ble_eq_true rfl, Nat.le_of_ble_eq_true rfl⟩) (rv_G hW) hW hS rfl hl.1 rfl (lv_room (Nat.le_of_ble_eq_true rfl)) dL_isSold_110 ⟨Nat.zero_le _, Nat.zero_le _⟩ (fun hv29 H locs hW hS => ?_)
          refine lv_iload hx hb dL_isSold_113 (lv_at hl 2 rfl) ?_
          refine lv_iload_n hx hb dL_isSold_115 rfl (lv_at hl 6 rfl) ?_
          refine k_sub hx hb dL_isSold_116 ?_
          obtain ⟨hg30, hf⟩ := gd_el hf
          refine k_icmp_ne (tgt := 131) hx hb hv29 hg30 dL_isSold_117 (by decide) (fun hc31 => ?_) (fun hc31 => ?_)
          · rw [if_neg hc31] at hf
            refine k_const hx hb dL_isSold_131 ?_
            exact J12 (q8.1) (q1) (0) hf (show inR (0) by decide) _ _ _ hW hS (lv_sub hl [4, 3] rfl)
          · rw [if_pos hc31] at hf
            refine lv_aload_n hx hb dL_isSold_120 rfl (lv_at hl 4 rfl) ?_
            obtain ⟨q32, hq32, hf⟩ := bind_el hf
            refine k_cSz (As := [.ref (gA G (0))]) (rest := []) ⟨hx, hb, hml, hown, hts⟩ (mL_isFit l G q8.1 q32 hq32) (va_cwS 1 hts (gbS (inB_20 _ (List.mem_of_getElem? (i := 17) rfl)) (inB_20 _ (List.mem_of_getElem? (i := 18) rfl)) (inB_7 _ (List.mem_of_getElem? (i := 22) rfl)) (inB_20 _ (List.mem_of_getElem? (i := 19) rfl))) rfl rfl rfl (by decide +kernel) ⟨Nat.le_of_ble_eq_true rfl, Nat.le_of_ble_eq_true rfl⟩) hW hS rfl hl.1 rfl (lv_room (Nat.le_of_ble_eq_true rfl)) dL_isSold_121 ⟨Nat.zero_le _, Nat.zero_le _⟩ (fun hv33 H locs hW hS => ?_)
            refine k_if_eq (tgt := 131) hx hb (inR_z hv33) dL_isSold_124 (by decide) (fun hc34 => ?_) (fun hc34 => ?_)
            · rw [if_pos hc34] at hf
              refine k_const hx hb dL_isSold_131 ?_
              exact J12 (q32.1) (q1) (0) hf (show inR (0) by decide) _ _ _ hW hS (lv_sub hl [4, 3] rfl)
            · rw [if_neg hc34] at hf
              refine k_const hx hb dL_isSold_127 ?_
              refine lv_goto (tgt := 132) hx hb dL_isSold_128 (by decide) ?_
              exact J12 (q32.1) (q1) (1) hf (show inR (1) by decide) _ _ _ hW hS (lv_sub hl [4, 3] rfl)
  · rw [if_pos hc10] at hf
    refine lv_iload hx hb dL_isSold_36 (lv_at hl 2 rfl) ?_
    refine lv_iload_n hx hb dL_isSold_38 rfl (lv_at hl 6 rfl) ?_
    refine k_icmp_ge (tgt := 74) hx hb hv5 hx2 dL_isSold_39 (by decide) (fun hc35 => ?_) (fun hc35 => ?_)
    · rw [if_neg hc35] at hf
      refine k_const hx hb dL_isSold_74 ?_
      obtain rfl := some_el hf
      exact k_retz hx hb hr hlocks hW hS rfl (show (0 : Int) = 0 ∨ (0 : Int) = 1 by decide) dL_isSold_75
    · rw [if_pos hc35] at hf
      refine lv_aload_n hx hb dL_isSold_42 rfl (lv_at hl 4 rfl) ?_
      refine k_const hx hb dL_isSold_43 ?_
      refine k_cVi (As := [.int (i3 (0))]) (rest := []) ⟨hx, hb, hml, hown, hts⟩ (mG_reason l G q8.1 0 (show inR (0) by decide) _ rfl) (cwV 1 hts (gbV (inB_26 _ (List.mem_of_getElem? (i := 21) rfl)) (inB_26 _ (List.mem_of_getElem? (i := 22) rfl)) (inB_26 _ (List.mem_of_getElem? (i := 23) rfl)) (inB_1 _ (List.mem_of_getElem? (i := 2) rfl)) (inB_27 _ (List.mem_of_getElem? (i := 0) rfl))) rfl rfl rfl (by decide +kernel) ⟨Nat.le_of_ble_eq_true rfl, Nat.le_of_ble_eq_true rfl⟩) (rv_G hW) hW hS rfl hl.1 rfl (lv_room (Nat.le_of_ble_eq_true rfl)) dL_isSold_44 ⟨Nat.zero_le _, Nat.zero_le _⟩ (fun hv36 H locs hW hS => ?_)
      refine k_const hx hb dL_isSold_47 ?_
      refine k_icmp_ne (tgt := 74) hx hb hv36 (show inR (3) by decide) dL_isSold_48 (by decide) (fun hc37 => ?_) (fun hc37 => ?_)
      · rw [if_neg hc37] at hf
        refine k_const hx hb dL_isSold_74 ?_
        obtain rfl := some_el hf
        exact k_retz hx hb hr hlocks hW hS rfl (show (0 : Int) = 0 ∨ (0 : Int) = 1 by decide) dL_isSold_75
      · rw [if_pos hc37] at hf
        refine lv_aload_n hx hb dL_isSold_51 rfl (lv_at hl 4 rfl) ?_
        refine k_const hx hb dL_isSold_52 ?_
        refine k_cVi (As := [.int (i3 (1))]) (rest := []) ⟨hx, hb, hml, hown, hts⟩ (mG_reason l G q8.1 1 (show inR (1) by decide) _ rfl) (cwV 1 hts (gbV (inB_26 _ (List.mem_of_getElem? (i := 21) rfl)) (inB_26 _ (List.mem_of_getElem? (i := 22) rfl)) (inB_26 _ (List.mem_of_getElem? (i := 23) rfl)) (inB_1 _ (List.mem_of_getElem? (i := 2) rfl)) (inB_27 _ (List.mem_of_getElem? (i := 0) rfl))) rfl rfl rfl (by decide +kernel) ⟨Nat.le_of_ble_eq_true rfl, Nat.le_of_ble_eq_true rfl⟩) (rv_G hW) hW hS rfl hl.1 rfl (lv_room (Nat.le_of_ble_eq_true rfl)) dL_isSold_53 ⟨Nat.zero_le _, Nat.zero_le _⟩ (fun hv38 H locs hW hS => ?_)
        refine lv_iload hx hb dL_isSold_56 (lv_at hl 2 rfl) ?_
        refine k_icmp_ne (tgt := 74) hx hb hv38 hv5 dL_isSold_58 (by decide) (fun hc39 => ?_) (fun hc39 => ?_)
        · rw [if_neg hc39] at hf
          refine k_const hx hb dL_isSold_74 ?_
          obtain rfl := some_el hf
          exact k_retz hx hb hr hlocks hW hS rfl (show (0 : Int) = 0 ∨ (0 : Int) = 1 by decide) dL_isSold_75
        · rw [if_pos hc39] at hf
          refine lv_aload_n hx hb dL_isSold_61 rfl (lv_at hl 4 rfl) ?_
          obtain ⟨q40, hq40, hf⟩ := bind_el hf
          refine k_cSl (As := [.ref (gA G (0))]) (rest := []) ⟨hx, hb, hml, hown, hts⟩ (mL_digest l G q8.1 q40 hq40) (va_cwS 1 hts (gbS (inB_7 _ (List.mem_of_getElem? (i := 20) rfl)) (inB_7 _ (List.mem_of_getElem? (i := 21) rfl)) (inB_7 _ (List.mem_of_getElem? (i := 22) rfl)) (inB_7 _ (List.mem_of_getElem? (i := 23) rfl))) rfl rfl rfl (by decide +kernel) ⟨Nat.le_of_ble_eq_true rfl, Nat.le_of_ble_eq_true rfl⟩) hW hS rfl hl.1 rfl (lv_room (Nat.le_of_ble_eq_true rfl)) dL_isSold_62 ⟨Nat.zero_le _, Nat.zero_le _⟩ (fun H locs hW hS => ?_)
          refine lv_lload_n hx hb dL_isSold_65 rfl (lv_at hl 3 rfl) ?_
          refine k_lcmp hx hb dL_isSold_66 ?_
          refine k_if_ne (tgt := 74) hx hb (inR_toInt _) dL_isSold_67 (by decide) (fun hc42 => ?_) (fun hc42 => ?_)
          · rw [if_neg hc42] at hf
            refine k_const hx hb dL_isSold_74 ?_
            obtain rfl := some_el hf
            exact k_retz hx hb hr hlocks hW hS rfl (show (0 : Int) = 0 ∨ (0 : Int) = 1 by decide) dL_isSold_75
          · rw [if_pos hc42] at hf
            refine k_const hx hb dL_isSold_70 ?_
            refine lv_goto (tgt := 75) hx hb dL_isSold_71 (by decide) ?_
            obtain rfl := some_el hf
            exact k_retz hx hb hr hlocks hW hS rfl (show (1 : Int) = 0 ∨ (1 : Int) = 1 by decide) dL_isSold_75
