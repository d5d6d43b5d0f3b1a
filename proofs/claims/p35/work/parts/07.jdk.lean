/-! the members of String that are reached: length, isEmpty, charAt, over the claim's texts -/
theorem tx_len : ∀ i, i < 26 → lenS i < 60 := by decide +kernel
theorem tx_ch : ∀ i, i < 26 → ∀ j, j < lenS i → (Value.int ((txB.getD i []).getD j 0) = .int (i3 (chS i j)) ∧ andI (chS i j) 255 = chS i j ∧ ((i3 (chS i j)).toUInt32 % 65536).toInt32 = i3 (chS i j) ∧ narrow .char (.int (i3 (chS i j))) = .int (i3 (chS i j)) ∧ inR (chS i j)) := by decide +kernel
def fS_length (i : Nat) : Int := (lenS i : Nat)
def fS_isEmpty (i : Nat) : Int := if (lenS i : Int) = 0 then 1 else 0
def fS_charAt (i : Nat) (x : Int) : Option Int := gx x (lenS i : Nat) (some (chS i x.toNat))
theorem inR_lenS {i : Nat} (hi : i < 26) : inR (lenS i : Nat) := by
  have := tx_len i hi
  constructor <;> omega
theorem rv_B {i : Nat} (hi : i < 26) {G : gG} {M : MemG} {s : State} {H : Heap} (h : Wd G M s H) : va_O "java/lang/String" (gA G (100 + i)) (PA G) s H ∧ va_OF "java/lang/String" "coder" "B" (.int 0) (gA G (100 + i)) (PA G) s H ∧ va_OF "java/lang/String" "value" "[B" (.ref (gA G (200 + i))) (gA G (100 + i)) (PA G) s H ∧ va_T .byte (gA G (200 + i)) (lenS i) (fun j => .int ((txB.getD i []).getD j 0)) (PA G) s H := h.S.2.2.2.2.1.1 i hi
set_option maxHeartbeats 4000000 in
set_option maxRecDepth 100000 in
theorem mS_coder (l : Launch) (G : gG) (M0 : MemG) (i : Nat) (hi : i < 26) : Met l yJ0_coder_7d493 (wb yJ0_coder_7d493 cJ0_coder_7d493 1 (some .byte)) ({ frames := 0, cells := 0, slots := 0, locals := 0 } : Room) (PcG G M0 [.ref (gA G (100 + i))]) (QcI G M0 0) 0 0 (PA G) := by
  refine Met.ofW (cc := cJ0_coder_7d493) (maxL := 1) (ret := (some .byte)) (by decide) rfl ?_
  intro p e s m args below meth c s₁ B hml hv0
  obtain ⟨hav, hW⟩ := hv0
  have hx := B.exec
  have hb := B.bytes
  have hr := B.returns
  have hts := atoms_spec (ws := (wb yJ0_coder_7d493 cJ0_coder_7d493 1 (some .byte))) B.pre
  have hown : s.vm.findClass RJ0 = some m.cls := findClass_of_methodNamed B.named
  have hlocks := B.notSynchronized
  have hW : Wd G M0 s s.heap := hW
  have hS : va_S (PA G) s.heap s.heap [] := va_S.rf
  have hl := lv_entry [.ref (gA G (100 + i))] (n := 1) (Nat.le_of_ble_eq_true rfl)
  have hent := lg_entry_eq m [.ref (gA G (100 + i))] 1
  rw [← hav] at hent
  rw [hent]
  clear hent
  generalize (lg_sl [.ref (gA G (100 + i))] ++ List.replicate (1 - (lg_sl [.ref (gA G (100 + i))]).length) Slot.unset).toArray = ls at hl ⊢
  have hl : lv_has ls 1 [(0, .ref (gA G (100 + i)))] := hl
  show W p l e ({ frames := 0, cells := 0, slots := 0, locals := 0 } : Room) s m args below meth c s.heap [] 0 0 (MQ below (QcI G M0 0) args s 0 0 (PA G)) (F0 m 0 ls [])
  refine k_gets (v := .int (i3 1)) hx hb (by rw [i3_1]; exact hW.S.2.2.2.2.2.1) hown (hts _ (List.mem_cons_of_mem _ (inB_15 _ (List.mem_of_getElem? (i := 0) rfl)))) dJ0_coder_7d493_0 ?_
  refine k_if_eq (tgt := 13) hx hb (by decide) dJ0_coder_7d493_3 (by decide) (fun h => absurd h (by decide)) (fun _ => ?_)
  refine lv_aload_n hx hb dJ0_coder_7d493_6 rfl (lv_at hl 0 rfl) ?_
  refine k_getO (v := .int (i3 0)) hx hb (by rw [i3_0]; exact (rv_B hi hW).2.1) hown (hts _ (List.mem_cons_of_mem _ (inB_15 _ (List.mem_of_getElem? (i := 1) rfl)))) dJ0_coder_7d493_7 ?_
  refine lv_goto (tgt := 14) hx hb dJ0_coder_7d493_10 (by decide) ?_
  exact k_rett hx hb hr hlocks hW hS rfl (by decide) (by decide +kernel) dJ0_coder_7d493_14
set_option maxHeartbeats 4000000 in
set_option maxRecDepth 100000 in
theorem mS_isLatin1 (l : Launch) (G : gG) (M0 : MemG) (i : Nat) (hi : i < 26) : Met l yJ0_isLatin1_aae02 (wb yJ0_isLatin1_aae02 cJ0_isLatin1_aae02 1 (some .boolean)) ({ frames := 0, cells := 0, slots := 0, locals := 0 } : Room) (PcG G M0 [.ref (gA G (100 + i))]) (QcZ G M0 1) 0 0 (PA G) := by
  refine Met.ofW (cc := cJ0_isLatin1_aae02) (maxL := 1) (ret := (some .boolean)) (by decide) rfl ?_
  intro p e s m args below meth c s₁ B hml hv0
  obtain ⟨hav, hW⟩ := hv0
  have hx := B.exec
  have hb := B.bytes
  have hr := B.returns
  have hts := atoms_spec (ws := (wb yJ0_isLatin1_aae02 cJ0_isLatin1_aae02 1 (some .boolean))) B.pre
  have hown : s.vm.findClass RJ0 = some m.cls := findClass_of_methodNamed B.named
  have hlocks := B.notSynchronized
  have hW : Wd G M0 s s.heap := hW
  have hS : va_S (PA G) s.heap s.heap [] := va_S.rf
  have hl := lv_entry [.ref (gA G (100 + i))] (n := 1) (Nat.le_of_ble_eq_true rfl)
  have hent := lg_entry_eq m [.ref (gA G (100 + i))] 1
  rw [← hav] at hent
  rw [hent]
  clear hent
  generalize (lg_sl [.ref (gA G (100 + i))] ++ List.replicate (1 - (lg_sl [.ref (gA G (100 + i))]).length) Slot.unset).toArray = ls at hl ⊢
  have hl : lv_has ls 1 [(0, .ref (gA G (100 + i)))] := hl
  show W p l e ({ frames := 0, cells := 0, slots := 0, locals := 0 } : Room) s m args below meth c s.heap [] 0 0 (MQ below (QcZ G M0 1) args s 0 0 (PA G)) (F0 m 0 ls [])
  refine k_gets (v := .int (i3 1)) hx hb (by rw [i3_1]; exact hW.S.2.2.2.2.2.1) hown (hts _ (List.mem_cons_of_mem _ (inB_15 _ (List.mem_of_getElem? (i := 0) rfl)))) dJ0_isLatin1_aae02_0 ?_
  refine k_if_eq (tgt := 17) hx hb (by decide) dJ0_isLatin1_aae02_3 (by decide) (fun h => absurd h (by decide)) (fun _ => ?_)
  refine lv_aload_n hx hb dJ0_isLatin1_aae02_6 rfl (lv_at hl 0 rfl) ?_
  refine k_getO (v := .int (i3 0)) hx hb (by rw [i3_0]; exact (rv_B hi hW).2.1) hown (hts _ (List.mem_cons_of_mem _ (inB_15 _ (List.mem_of_getElem? (i := 1) rfl)))) dJ0_isLatin1_aae02_7 ?_
  refine k_if_ne (tgt := 17) hx hb (by decide) dJ0_isLatin1_aae02_10 (by decide) (fun h => absurd rfl h) (fun _ => ?_)
  refine k_const hx hb dJ0_isLatin1_aae02_13 ?_
  refine lv_goto (tgt := 18) hx hb dJ0_isLatin1_aae02_14 (by decide) ?_
  exact k_retz hx hb hr hlocks hW hS rfl (by decide) dJ0_isLatin1_aae02_18
set_option maxHeartbeats 4000000 in
set_option maxRecDepth 100000 in
theorem mS_length_b (l : Launch) (G : gG) (M0 : MemG) (i : Nat) (hi : i < 26) : Met l yJ0_length_8abf5 (wb yJ0_length_8abf5 cJ0_length_8abf5 1 (some .int)) ({ frames := 1, cells := 0, slots := 0, locals := 20 } : Room) (PcG G M0 [.ref (gA G (100 + i))]) (QcI G M0 (lenS i : Nat)) 0 0 (PA G) := by
  refine Met.ofW (cc := cJ0_length_8abf5) (maxL := 1) (ret := (some .int)) (by decide) rfl ?_
  intro p e s m args below meth c s₁ B hml hv0
  obtain ⟨hav, hW⟩ := hv0
  have hx := B.exec
  have hb := B.bytes
  have hr := B.returns
  have hts := atoms_spec (ws := (wb yJ0_length_8abf5 cJ0_length_8abf5 1 (some .int))) B.pre
  have hown : s.vm.findClass RJ0 = some m.cls := findClass_of_methodNamed B.named
  have hlocks := B.notSynchronized
  have hW : Wd G M0 s s.heap := hW
  have hS : va_S (PA G) s.heap s.heap [] := va_S.rf
  have hl := lv_entry [.ref (gA G (100 + i))] (n := 1) (Nat.le_of_ble_eq_true rfl)
  have hent := lg_entry_eq m [.ref (gA G (100 + i))] 1
  rw [← hav] at hent
  rw [hent]
  clear hent
  generalize (lg_sl [.ref (gA G (100 + i))] ++ List.replicate (1 - (lg_sl [.ref (gA G (100 + i))]).length) Slot.unset).toArray = ls at hl ⊢
  have hl : lv_has ls 1 [(0, .ref (gA G (100 + i)))] := hl
  show W p l e ({ frames := 1, cells := 0, slots := 0, locals := 20 } : Room) s m args below meth c s.heap [] 0 0 (MQ below (QcI G M0 (lenS i : Nat)) args s 0 0 (PA G)) (F0 m 0 ls [])
  refine lv_aload_n hx hb dJ0_length_8abf5_0 rfl (lv_at hl 0 rfl) ?_
  refine k_getO hx hb (rv_B hi hW).2.2.1 hown (hts _ (List.mem_cons_of_mem _ (inB_14 _ (List.mem_of_getElem? (i := 19) rfl)))) dJ0_length_8abf5_1 ?_
  refine k_tlen (v := (lenS i : Nat)) hx hb (rv_B hi hW).2.2.2 rfl dJ0_length_8abf5_4 ?_
  refine lv_aload_n hx hb dJ0_length_8abf5_5 rfl (lv_at hl 0 rfl) ?_
  refine k_cVi (As := []) (rest := [.int (i3 (lenS i : Nat))]) ⟨hx, hb, hml, hown, hts⟩ (mS_coder l G M0 i hi) (cwV 0 hts (gbV (inB_14 _ (List.mem_of_getElem? (i := 20) rfl)) (inB_14 _ (List.mem_of_getElem? (i := 21) rfl)) (inB_14 _ (List.mem_of_getElem? (i := 22) rfl)) (inB_14 _ (List.mem_of_getElem? (i := 17) rfl)) (inB_14 _ (List.mem_of_getElem? (i := 23) rfl))) rfl rfl rfl (by decide +kernel) ⟨Nat.le_of_ble_eq_true rfl, Nat.le_of_ble_eq_true rfl⟩) (rv_S hi hW) hW hS rfl hl.1 rfl (lv_room (Nat.le_of_ble_eq_true rfl)) dJ0_length_8abf5_6 ⟨Nat.zero_le _, Nat.zero_le _⟩ (fun hv H locs hW hS => ?_)
  refine k_shr hx hb dJ0_length_8abf5_9 ?_
  have he : ∀ i, i < 26 → shrI (lenS i : Nat) 0 = (lenS i : Nat) := by decide +kernel
  rw [he i hi]
  exact k_ret hx hb hr hlocks hW hS rfl (inR_lenS hi) dJ0_length_8abf5_10
theorem mS_length (l : Launch) (G : gG) (M0 : MemG) (i : Nat) (hi : i < 26) (r : Int) (hf : fS_length i = r) : Met l yJ0_length_8abf5 (wb yJ0_length_8abf5 cJ0_length_8abf5 1 (some .int)) ({ frames := 1, cells := 0, slots := 0, locals := 20 } : Room) (PcG G M0 [.ref (gA G (100 + i))]) (QcI G M0 r) 0 0 (PA G) := by
  subst hf
  exact mS_length_b l G M0 i hi
set_option maxHeartbeats 4000000 in
set_option maxRecDepth 100000 in
theorem mS_isEmpty (l : Launch) (G : gG) (M0 : MemG) (i : Nat) (hi : i < 26) (r : Int) (hf : fS_isEmpty i = r) : Met l yJ0_isEmpty_aae02 (wb yJ0_isEmpty_aae02 cJ0_isEmpty_aae02 1 (some .boolean)) ({ frames := 0, cells := 0, slots := 0, locals := 0 } : Room) (PcG G M0 [.ref (gA G (100 + i))]) (QcZ G M0 r) 0 0 (PA G) := by
  refine Met.ofW (cc := cJ0_isEmpty_aae02) (maxL := 1) (ret := (some .boolean)) (by decide) rfl ?_
  intro p e s m args below meth c s₁ B hml hv0
  obtain ⟨hav, hW⟩ := hv0
  have hx := B.exec
  have hb := B.bytes
  have hr := B.returns
  have hts := atoms_spec (ws := (wb yJ0_isEmpty_aae02 cJ0_isEmpty_aae02 1 (some .boolean))) B.pre
  have hown : s.vm.findClass RJ0 = some m.cls := findClass_of_methodNamed B.named
  have hlocks := B.notSynchronized
  have hW : Wd G M0 s s.heap := hW
  have hS : va_S (PA G) s.heap s.heap [] := va_S.rf
  have hl := lv_entry [.ref (gA G (100 + i))] (n := 1) (Nat.le_of_ble_eq_true rfl)
  have hent := lg_entry_eq m [.ref (gA G (100 + i))] 1
  rw [← hav] at hent
  rw [hent]
  clear hent
  generalize (lg_sl [.ref (gA G (100 + i))] ++ List.replicate (1 - (lg_sl [.ref (gA G (100 + i))]).length) Slot.unset).toArray = ls at hl ⊢
  have hl : lv_has ls 1 [(0, .ref (gA G (100 + i)))] := hl
  show W p l e ({ frames := 0, cells := 0, slots := 0, locals := 0 } : Room) s m args below meth c s.heap [] 0 0 (MQ below (QcZ G M0 r) args s 0 0 (PA G)) (F0 m 0 ls [])
  unfold fS_isEmpty at hf
  refine lv_aload_n hx hb dJ0_isEmpty_aae02_0 rfl (lv_at hl 0 rfl) ?_
  refine k_getO hx hb (rv_B hi hW).2.2.1 hown (hts _ (List.mem_cons_of_mem _ (inB_14 _ (List.mem_of_getElem? (i := 19) rfl)))) dJ0_isEmpty_aae02_1 ?_
  refine k_tlen (v := (lenS i : Nat)) hx hb (rv_B hi hW).2.2.2 rfl dJ0_isEmpty_aae02_4 ?_
  refine k_if_ne (tgt := 12) hx hb (inR_lenS hi) dJ0_isEmpty_aae02_5 (by decide) (fun h => ?_) (fun h => ?_)
  · rw [if_neg h] at hf
    refine k_const hx hb dJ0_isEmpty_aae02_12 ?_
    subst hf
    exact k_retz hx hb hr hlocks hW hS rfl (by decide) dJ0_isEmpty_aae02_13
  · rw [if_pos h] at hf
    refine k_const hx hb dJ0_isEmpty_aae02_8 ?_
    refine lv_goto (tgt := 13) hx hb dJ0_isEmpty_aae02_9 (by decide) ?_
    subst hf
    exact k_retz hx hb hr hlocks hW hS rfl (by decide) dJ0_isEmpty_aae02_13
set_option maxHeartbeats 4000000 in
set_option maxRecDepth 100000 in
theorem mJ3_checkN (l : Launch) (G : gG) (M0 : MemG) (x n : Int) (hxr : inR x) (hnr : inR n) (h0 : 0 ≤ x) (h1 : x < n) : Met l yJ3_checkIndex_8e157 (wb yJ3_checkIndex_8e157 cJ3_checkIndex_8e157 3 (some .int)) ({ frames := 0, cells := 0, slots := 0, locals := 0 } : Room) (PcG G M0 [.int (i3 x), .int (i3 n), .null]) (QcI G M0 x) 0 0 (PA G) := by
  refine Met.ofW (cc := cJ3_checkIndex_8e157) (maxL := 3) (ret := (some .int)) (by decide) rfl ?_
  intro p e s m args below meth c s₁ B hml hv0
  obtain ⟨hav, hW⟩ := hv0
  have hx := B.exec
  have hb := B.bytes
  have hr := B.returns
  have hts := atoms_spec (ws := (wb yJ3_checkIndex_8e157 cJ3_checkIndex_8e157 3 (some .int))) B.pre
  have hown : s.vm.findClass RJ3 = some m.cls := findClass_of_methodNamed B.named
  have hlocks := B.notSynchronized
  have hW : Wd G M0 s s.heap := hW
  have hS : va_S (PA G) s.heap s.heap [] := va_S.rf
  have hl := lv_entry [.int (i3 x), .int (i3 n), .null] (n := 3) (Nat.le_of_ble_eq_true rfl)
  have hent := lg_entry_eq m [.int (i3 x), .int (i3 n), .null] 3
  rw [← hav] at hent
  rw [hent]
  clear hent
  generalize (lg_sl [.int (i3 x), .int (i3 n), .null] ++ List.replicate (3 - (lg_sl [.int (i3 x), .int (i3 n), .null]).length) Slot.unset).toArray = ls at hl ⊢
  have hl : lv_has ls 3 [(0, .int (i3 x)), (1, .int (i3 n)), (2, .null)] := hl
  show W p l e ({ frames := 0, cells := 0, slots := 0, locals := 0 } : Room) s m args below meth c s.heap [] 0 0 (MQ below (QcI G M0 x) args s 0 0 (PA G)) (F0 m 0 ls [])
  refine lv_iload_n hx hb dJ3_checkIndex_8e157_0 rfl (lv_at hl 0 rfl) ?_
  refine k_if_lt (tgt := 9) hx hb hxr dJ3_checkIndex_8e157_1 (by decide) (fun h => absurd h (by omega)) (fun _ => ?_)
  refine lv_iload_n hx hb dJ3_checkIndex_8e157_4 rfl (lv_at hl 0 rfl) ?_
  refine lv_iload_n hx hb dJ3_checkIndex_8e157_5 rfl (lv_at hl 1 rfl) ?_
  refine k_icmp_lt (tgt := 16) hx hb hxr hnr dJ3_checkIndex_8e157_6 (by decide) (fun _ => ?_) (fun h => absurd h1 h)
  refine lv_iload_n hx hb dJ3_checkIndex_8e157_16 rfl (lv_at hl 0 rfl) ?_
  exact k_ret hx hb hr hlocks hW hS rfl hxr dJ3_checkIndex_8e157_17
set_option maxHeartbeats 4000000 in
set_option maxRecDepth 100000 in
theorem mJ3_checkR (l : Launch) (G : gG) (M0 : MemG) (x n : Int) (hxr : inR x) (hnr : inR n) (h0 : 0 ≤ x) (h1 : x < n) (t : Nat) : Met l yJ3_checkIndex_8e157 (wb yJ3_checkIndex_8e157 cJ3_checkIndex_8e157 3 (some .int)) ({ frames := 0, cells := 0, slots := 0, locals := 0 } : Room) (PcG G M0 [.int (i3 x), .int (i3 n), .ref t]) (QcI G M0 x) 0 0 (PA G) := by
  refine Met.ofW (cc := cJ3_checkIndex_8e157) (maxL := 3) (ret := (some .int)) (by decide) rfl ?_
  intro p e s m args below meth c s₁ B hml hv0
  obtain ⟨hav, hW⟩ := hv0
  have hx := B.exec
  have hb := B.bytes
  have hr := B.returns
  have hts := atoms_spec (ws := (wb yJ3_checkIndex_8e157 cJ3_checkIndex_8e157 3 (some .int))) B.pre
  have hown : s.vm.findClass RJ3 = some m.cls := findClass_of_methodNamed B.named
  have hlocks := B.notSynchronized
  have hW : Wd G M0 s s.heap := hW
  have hS : va_S (PA G) s.heap s.heap [] := va_S.rf
  have hl := lv_entry [.int (i3 x), .int (i3 n), .ref t] (n := 3) (Nat.le_of_ble_eq_true rfl)
  have hent := lg_entry_eq m [.int (i3 x), .int (i3 n), .ref t] 3
  rw [← hav] at hent
  rw [hent]
  clear hent
  generalize (lg_sl [.int (i3 x), .int (i3 n), .ref t] ++ List.replicate (3 - (lg_sl [.int (i3 x), .int (i3 n), .ref t]).length) Slot.unset).toArray = ls at hl ⊢
  have hl : lv_has ls 3 [(0, .int (i3 x)), (1, .int (i3 n)), (2, .ref t)] := hl
  show W p l e ({ frames := 0, cells := 0, slots := 0, locals := 0 } : Room) s m args below meth c s.heap [] 0 0 (MQ below (QcI G M0 x) args s 0 0 (PA G)) (F0 m 0 ls [])
  refine lv_iload_n hx hb dJ3_checkIndex_8e157_0 rfl (lv_at hl 0 rfl) ?_
  refine k_if_lt (tgt := 9) hx hb hxr dJ3_checkIndex_8e157_1 (by decide) (fun h => absurd h (by omega)) (fun _ => ?_)
  refine lv_iload_n hx hb dJ3_checkIndex_8e157_4 rfl (lv_at hl 0 rfl) ?_
  refine lv_iload_n hx hb dJ3_checkIndex_8e157_5 rfl (lv_at hl 1 rfl) ?_
  refine k_icmp_lt (tgt := 16) hx hb hxr hnr dJ3_checkIndex_8e157_6 (by decide) (fun _ => ?_) (fun h => absurd h1 h)
  refine lv_iload_n hx hb dJ3_checkIndex_8e157_16 rfl (lv_at hl 0 rfl) ?_
  exact k_ret hx hb hr hlocks hW hS rfl hxr dJ3_checkIndex_8e157_17
set_option maxHeartbeats 4000000 in
set_option maxRecDepth 100000 in
theorem mS_checkIndex (l : Launch) (G : gG) (M0 : MemG) (x n : Int) (hxr : inR x) (hnr : inR n) (h0 : 0 ≤ x) (h1 : x < n) : Met l yJ0_checkIndex_df160 (wb yJ0_checkIndex_df160 cJ0_checkIndex_df160 2 none) ({ frames := 1, cells := 0, slots := 0, locals := 22 } : Room) (PcG G M0 [.int (i3 x), .int (i3 n)]) (QcV G M0) 0 0 (PA G) := by
  refine Met.ofW (cc := cJ0_checkIndex_df160) (maxL := 2) (ret := none) (by decide) rfl ?_
  intro p e s m args below meth c s₁ B hml hv0
  obtain ⟨hav, hW⟩ := hv0
  have hx := B.exec
  have hb := B.bytes
  have hr := B.returns
  have hts := atoms_spec (ws := (wb yJ0_checkIndex_df160 cJ0_checkIndex_df160 2 none)) B.pre
  have hown : s.vm.findClass RJ0 = some m.cls := findClass_of_methodNamed B.named
  have hlocks := B.notSynchronized
  have hW : Wd G M0 s s.heap := hW
  have hS : va_S (PA G) s.heap s.heap [] := va_S.rf
  have hl := lv_entry [.int (i3 x), .int (i3 n)] (n := 2) (Nat.le_of_ble_eq_true rfl)
  have hent := lg_entry_eq m [.int (i3 x), .int (i3 n)] 2
  rw [← hav] at hent
  rw [hent]
  clear hent
  generalize (lg_sl [.int (i3 x), .int (i3 n)] ++ List.replicate (2 - (lg_sl [.int (i3 x), .int (i3 n)]).length) Slot.unset).toArray = ls at hl ⊢
  have hl : lv_has ls 2 [(0, .int (i3 x)), (1, .int (i3 n))] := hl
  show W p l e ({ frames := 1, cells := 0, slots := 0, locals := 22 } : Room) s m args below meth c s.heap [] 0 0 (MQ below (QcV G M0) args s 0 0 (PA G)) (F0 m 0 ls [])
  refine lv_iload_n hx hb dJ0_checkIndex_df160_0 rfl (lv_at hl 0 rfl) ?_
  refine lv_iload_n hx hb dJ0_checkIndex_df160_1 rfl (lv_at hl 1 rfl) ?_
  rcases hW.S.2.2.2.2.2.2 with hZ | ⟨t, hZ⟩
  · refine k_gets hx hb hZ hown (hts _ (List.mem_cons_of_mem _ (inB_15 _ (List.mem_of_getElem? (i := 17) rfl)))) dJ0_checkIndex_df160_2 ?_
    refine k_cSi (As := [.int (i3 x), .int (i3 n), .null]) (rest := []) ⟨hx, hb, hml, hown, hts⟩ (mJ3_checkN l G M0 x n hxr hnr h0 h1) (va_cwS 3 hts (gbS (inB_15 _ (List.mem_of_getElem? (i := 18) rfl)) (inB_15 _ (List.mem_of_getElem? (i := 19) rfl)) (inB_15 _ (List.mem_of_getElem? (i := 20) rfl)) (inB_15 _ (List.mem_of_getElem? (i := 21) rfl))) rfl rfl rfl (by decide +kernel) ⟨Nat.le_of_ble_eq_true rfl, Nat.le_of_ble_eq_true rfl⟩) hW hS rfl hl.1 rfl (lv_room (Nat.le_of_ble_eq_true rfl)) dJ0_checkIndex_df160_5 ⟨Nat.zero_le _, Nat.zero_le _⟩ (fun hv H locs hW hS => ?_)
    refine lv_pop hx hb dJ0_checkIndex_df160_8 rfl ?_
    exact k_retv hx hb hr hlocks hW hS rfl dJ0_checkIndex_df160_9
  · refine k_gets hx hb hZ hown (hts _ (List.mem_cons_of_mem _ (inB_15 _ (List.mem_of_getElem? (i := 17) rfl)))) dJ0_checkIndex_df160_2 ?_
    refine k_cSi (As := [.int (i3 x), .int (i3 n), .ref t]) (rest := []) ⟨hx, hb, hml, hown, hts⟩ (mJ3_checkR l G M0 x n hxr hnr h0 h1 t) (va_cwS 3 hts (gbS (inB_15 _ (List.mem_of_getElem? (i := 18) rfl)) (inB_15 _ (List.mem_of_getElem? (i := 19) rfl)) (inB_15 _ (List.mem_of_getElem? (i := 20) rfl)) (inB_15 _ (List.mem_of_getElem? (i := 21) rfl))) rfl rfl rfl (by decide +kernel) ⟨Nat.le_of_ble_eq_true rfl, Nat.le_of_ble_eq_true rfl⟩) hW hS rfl hl.1 rfl (lv_room (Nat.le_of_ble_eq_true rfl)) dJ0_checkIndex_df160_5 ⟨Nat.zero_le _, Nat.zero_le _⟩ (fun hv H locs hW hS => ?_)
    refine lv_pop hx hb dJ0_checkIndex_df160_8 rfl ?_
    exact k_retv hx hb hr hlocks hW hS rfl dJ0_checkIndex_df160_9
set_option maxHeartbeats 4000000 in
set_option maxRecDepth 100000 in
theorem mS_charAtL (l : Launch) (G : gG) (M0 : MemG) (i : Nat) (hi : i < 26) (x : Int) (hxr : inR x) (h0 : 0 ≤ x) (h1 : x < (lenS i : Nat)) : Met l yJ1_charAt_3b067 (wb yJ1_charAt_3b067 cJ1_charAt_3b067 2 (some .char)) ({ frames := 2, cells := 0, slots := 0, locals := 43 } : Room) (PcG G M0 [.ref (gA G (200 + i)), .int (i3 x)]) (QcI G M0 (chS i x.toNat)) 0 0 (PA G) := by
  refine Met.ofW (cc := cJ1_charAt_3b067) (maxL := 2) (ret := (some .char)) (by decide) rfl ?_
  intro p e s m args below meth c s₁ B hml hv0
  obtain ⟨hav, hW⟩ := hv0
  have hx := B.exec
  have hb := B.bytes
  have hr := B.returns
  have hts := atoms_spec (ws := (wb yJ1_charAt_3b067 cJ1_charAt_3b067 2 (some .char))) B.pre
  have hown : s.vm.findClass RJ1 = some m.cls := findClass_of_methodNamed B.named
  have hlocks := B.notSynchronized
  have hW : Wd G M0 s s.heap := hW
  have hS : va_S (PA G) s.heap s.heap [] := va_S.rf
  have hl := lv_entry [.ref (gA G (200 + i)), .int (i3 x)] (n := 2) (Nat.le_of_ble_eq_true rfl)
  have hent := lg_entry_eq m [.ref (gA G (200 + i)), .int (i3 x)] 2
  rw [← hav] at hent
  rw [hent]
  clear hent
  generalize (lg_sl [.ref (gA G (200 + i)), .int (i3 x)] ++ List.replicate (2 - (lg_sl [.ref (gA G (200 + i)), .int (i3 x)]).length) Slot.unset).toArray = ls at hl ⊢
  have hl : lv_has ls 2 [(0, .ref (gA G (200 + i))), (1, .int (i3 x))] := hl
  show W p l e ({ frames := 2, cells := 0, slots := 0, locals := 43 } : Room) s m args below meth c s.heap [] 0 0 (MQ below (QcI G M0 (chS i x.toNat)) args s 0 0 (PA G)) (F0 m 0 ls [])
  refine lv_iload_n hx hb dJ1_charAt_3b067_0 rfl (lv_at hl 1 rfl) ?_
  refine lv_aload_n hx hb dJ1_charAt_3b067_1 rfl (lv_at hl 0 rfl) ?_
  refine k_tlen (v := (lenS i : Nat)) hx hb (rv_B hi hW).2.2.2 rfl dJ1_charAt_3b067_2 ?_
  refine k_cSv (As := [.int (i3 x), .int (i3 (lenS i : Nat))]) (rest := []) ⟨hx, hb, hml, hown, hts⟩ (mS_checkIndex l G M0 x (lenS i : Nat) hxr (inR_lenS hi) h0 h1) (va_cwS 2 hts (gbS (inB_15 _ (List.mem_of_getElem? (i := 14) rfl)) (inB_15 _ (List.mem_of_getElem? (i := 15) rfl)) (inB_14 _ (List.mem_of_getElem? (i := 17) rfl)) (inB_15 _ (List.mem_of_getElem? (i := 16) rfl))) rfl rfl rfl (by decide +kernel) ⟨Nat.le_of_ble_eq_true rfl, Nat.le_of_ble_eq_true rfl⟩) hW hS rfl hl.1 rfl (lv_room (Nat.le_of_ble_eq_true rfl)) dJ1_charAt_3b067_3 ⟨Nat.zero_le _, Nat.zero_le _⟩ (fun H locs hW hS => ?_)
  refine lv_aload_n hx hb dJ1_charAt_3b067_6 rfl (lv_at hl 0 rfl) ?_
  refine lv_iload_n hx hb dJ1_charAt_3b067_7 rfl (lv_at hl 1 rfl) ?_
  obtain ⟨e1, e2, e3, e4, e5⟩ := tx_ch i hi x.toNat (by omega)
  refine k_tb (v := .int (i3 (chS i x.toNat))) hx hb (rv_B hi hW).2.2.2 (i3_in hxr h0 h1) (by rw [i3_clamp hxr]; exact e1) dJ1_charAt_3b067_8 ?_
  refine k_sipush hx hb dJ1_charAt_3b067_9 (by decide +kernel) ?_
  refine k_and hx hb dJ1_charAt_3b067_12 ?_
  rw [e2]
  refine lv_i2c hx hb dJ1_charAt_3b067_13 e3 ?_
  exact k_rett hx hb hr hlocks hW hS rfl e5 e4 dJ1_charAt_3b067_14
set_option maxHeartbeats 4000000 in
set_option maxRecDepth 100000 in
theorem mS_charAt_b (l : Launch) (G : gG) (M0 : MemG) (i : Nat) (hi : i < 26) (x : Int) (hxr : inR x) (h0 : 0 ≤ x) (h1 : x < (lenS i : Nat)) : Met l yJ0_charAt_5068e (wb yJ0_charAt_5068e cJ0_charAt_5068e 2 (some .char)) ({ frames := 3, cells := 0, slots := 0, locals := 64 } : Room) (PcG G M0 [.ref (gA G (100 + i)), .int (i3 x)]) (QcI G M0 (chS i x.toNat)) 0 0 (PA G) := by
  refine Met.ofW (cc := cJ0_charAt_5068e) (maxL := 2) (ret := (some .char)) (by decide) rfl ?_
  intro p e s m args below meth c s₁ B hml hv0
  obtain ⟨hav, hW⟩ := hv0
  have hx := B.exec
  have hb := B.bytes
  have hr := B.returns
  have hts := atoms_spec (ws := (wb yJ0_charAt_5068e cJ0_charAt_5068e 2 (some .char))) B.pre
  have hown : s.vm.findClass RJ0 = some m.cls := findClass_of_methodNamed B.named
  have hlocks := B.notSynchronized
  have hW : Wd G M0 s s.heap := hW
  have hS : va_S (PA G) s.heap s.heap [] := va_S.rf
  have hl := lv_entry [.ref (gA G (100 + i)), .int (i3 x)] (n := 2) (Nat.le_of_ble_eq_true rfl)
  have hent := lg_entry_eq m [.ref (gA G (100 + i)), .int (i3 x)] 2
  rw [← hav] at hent
  rw [hent]
  clear hent
  generalize (lg_sl [.ref (gA G (100 + i)), .int (i3 x)] ++ List.replicate (2 - (lg_sl [.ref (gA G (100 + i)), .int (i3 x)]).length) Slot.unset).toArray = ls at hl ⊢
  have hl : lv_has ls 2 [(0, .ref (gA G (100 + i))), (1, .int (i3 x))] := hl
  show W p l e ({ frames := 3, cells := 0, slots := 0, locals := 64 } : Room) s m args below meth c s.heap [] 0 0 (MQ below (QcI G M0 (chS i x.toNat)) args s 0 0 (PA G)) (F0 m 0 ls [])
  obtain ⟨e1, e2, e3, e4, e5⟩ := tx_ch i hi x.toNat (by omega)
  refine lv_aload_n hx hb dJ0_charAt_5068e_0 rfl (lv_at hl 0 rfl) ?_
  refine k_cVz (As := []) (rest := []) ⟨hx, hb, hml, hown, hts⟩ (mS_isLatin1 l G M0 i hi) (cwV 0 hts (gbV (inB_15 _ (List.mem_of_getElem? (i := 6) rfl)) (inB_15 _ (List.mem_of_getElem? (i := 7) rfl)) (inB_15 _ (List.mem_of_getElem? (i := 8) rfl)) (inB_14 _ (List.mem_of_getElem? (i := 17) rfl)) (inB_15 _ (List.mem_of_getElem? (i := 9) rfl))) rfl rfl rfl (by decide +kernel) ⟨Nat.le_of_ble_eq_true rfl, Nat.le_of_ble_eq_true rfl⟩) (rv_S hi hW) hW hS rfl hl.1 rfl (lv_room (Nat.le_of_ble_eq_true rfl)) dJ0_charAt_5068e_1 ⟨Nat.zero_le _, Nat.zero_le _⟩ (fun hv H locs hW hS => ?_)
  refine k_if_eq (tgt := 16) hx hb (by decide) dJ0_charAt_5068e_4 (by decide) (fun h => absurd h (by decide)) (fun _ => ?_)
  refine lv_aload_n hx hb dJ0_charAt_5068e_7 rfl (lv_at hl 0 rfl) ?_
  refine k_getO hx hb (rv_B hi hW).2.2.1 hown (hts _ (List.mem_cons_of_mem _ (inB_14 _ (List.mem_of_getElem? (i := 19) rfl)))) dJ0_charAt_5068e_8 ?_
  refine lv_iload_n hx hb dJ0_charAt_5068e_11 rfl (lv_at hl 1 rfl) ?_
  refine k_cSi (As := [.ref (gA G (200 + i)), .int (i3 x)]) (rest := []) ⟨hx, hb, hml, hown, hts⟩ (mS_charAtL l G M0 i hi x hxr h0 h1) (va_cwS 2 hts (gbS (inB_15 _ (List.mem_of_getElem? (i := 10) rfl)) (inB_15 _ (List.mem_of_getElem? (i := 11) rfl)) (inB_15 _ (List.mem_of_getElem? (i := 12) rfl)) (inB_15 _ (List.mem_of_getElem? (i := 13) rfl))) rfl rfl rfl (by decide +kernel) ⟨Nat.le_of_ble_eq_true rfl, Nat.le_of_ble_eq_true rfl⟩) hW hS rfl hl.1 rfl (lv_room (Nat.le_of_ble_eq_true rfl)) dJ0_charAt_5068e_12 ⟨Nat.zero_le _, Nat.zero_le _⟩ (fun hv H locs hW hS => ?_)
  exact k_rett hx hb hr hlocks hW hS rfl e5 e4 dJ0_charAt_5068e_15
theorem mS_charAt (l : Launch) (G : gG) (M0 : MemG) (i : Nat) (hi : i < 26) (x : Int) (hxr : inR x) (r : Int) (hf : fS_charAt i x = some r) : Met l yJ0_charAt_5068e (wb yJ0_charAt_5068e cJ0_charAt_5068e 2 (some .char)) ({ frames := 3, cells := 0, slots := 0, locals := 64 } : Room) (PcG G M0 [.ref (gA G (100 + i)), .int (i3 x)]) (QcI G M0 r) 0 0 (PA G) := by
  unfold fS_charAt at hf
  obtain ⟨h, hf⟩ := gx_el hf
  obtain rfl := some_el hf
  exact mS_charAt_b l G M0 i hi x hxr h.1 h.2
