/-! the walk of the law: laid by wip/p35/gen.py -/
set_option maxHeartbeats 8000000 in
set_option maxRecDepth 100000 in
theorem mL_law {p : Program} {e : Env} {s : State} {m : MethodId} {args : Array Value} {below : List Frame} {meth : Method} {c : Code} {Q : State → Prop} (l : Launch) (G : gG) (M0 : MemG) (hx : p.tables.exec = Jvm.exec) (hb : c.code = cL_law) (hml : c.maxLocals = 9) (hown : s.vm.findClass RL = some m.cls) (hts : ∀ w ∈ wsL_law, w.before args s = true) (hend : ∀ (v : Int) (pc : Nat) (M : MemG) (H : Heap) (locs : List Loc) (ls : Array Slot), v = 1 → Wd G M s H → va_S (PA G) s.heap H locs → decode cL_law pc = .ok (.ireturn, 1) → W p l e room_1 s m args below meth c H locs 600000 7302250 Q (F0 m pc ls [.int (i3 v)])) (r : Int) (hf : fL_law G M0 = some r) (hr1 : r = 1) (H : Heap) (locs : List Loc) (ls : Array Slot) (hW : Wd G M0 s H) (hS : va_S (PA G) s.heap H locs) (hl : lv_has ls 9 [(0, .ref (gA G (89)))]) : W p l e room_1 s m args below meth c H locs 600000 7302250 Q (F0 m 7 ls [.ref (gA G (0))]) := by
  unfold fL_law at hf
  have L22 : ∀ (x2 : Int) (hx2 : inR x2), ∀ (z : (Int × MemG)) (q : ((MemG) ⊕ (Int))), loopN (fL_law_l53 G x2) 200 z = some q → (match q with | .inl w => (∀ (H : Heap) (locs : List Loc) (ls : Array Slot), Wd G (w) s H → va_S (PA G) s.heap H locs → lv_has ls 9 [(1, .ref (gA G (0)))] → W p l e room_1 s m args below meth c H locs 600000 7302250 Q (F0 m 94 ls [])) | .inr w => w = r) → (inR (z.1) → ∀ (H : Heap) (locs : List Loc) (ls : Array Slot), Wd G (z.2) s H → va_S (PA G) s.heap H locs → lv_has ls 9 [(0, .ref (gA G (89))), (1, .ref (gA G (0))), (2, .int (i3 (x2))), (3, .int (i3 (z.1)))] → W p l e room_1 s m args below meth c H locs 600000 7302250 Q (F0 m 53 ls [])) := by
    intro x2 hx2 z q hq hex
    refine loop_rule (fL_law_l53 G x2) (fun z => inR (z.1) → ∀ (H : Heap) (locs : List Loc) (ls : Array Slot), Wd G (z.2) s H → va_S (PA G) s.heap H locs → lv_has ls 9 [(0, .ref (gA G (89))), (1, .ref (gA G (0))), (2, .int (i3 (x2))), (3, .int (i3 (z.1)))] → W p l e room_1 s m args below meth c H locs 600000 7302250 Q (F0 m 53 ls [])) (fun q => (match q with | .inl w => (∀ (H : Heap) (locs : List Loc) (ls : Array Slot), Wd G (w) s H → va_S (PA G) s.heap H locs → lv_has ls 9 [(1, .ref (gA G (0)))] → W p l e room_1 s m args below meth c H locs 600000 7302250 Q (F0 m 94 ls [])) | .inr w => w = r)) ?_ 200 z q hq hex
    clear hq hex q z
    intro z x hf hK hz3 H locs ls hW hS hl
    have J17 : ∀ (M : MemG) (x3 : Int), fL_law_j88 M G x2 x3 = some x → inR x3 →  ∀ (H : Heap) (locs : List Loc) (ls : Array Slot), Wd G M s H → va_S (PA G) s.heap H locs → lv_has ls 9 [(0, .ref (gA G (89))), (1, .ref (gA G (0))), (2, .int (i3 (x2))), (3, .int (i3 (x3)))] → W p l e room_1 s m args below meth c H locs 600000 7302250 Q (F0 m 88 ls []) := by
      intro M x3 hf hx3 H locs ls hW hS hl
      unfold fL_law_j88 at hf
      obtain ⟨hg18, hf⟩ := gd_el hf
      refine k_iinc (lv' := [(3, .int (i3 (x3 + 1))), (0, .ref (gA G (89))), (1, .ref (gA G (0))), (2, .int (i3 (x2)))]) hx hb dL_law_88 hl (k := 3) rfl (by decide) rfl (fun ls hl => ?_)
      refine lv_goto (tgt := 53) hx hb dL_law_91 (by decide) ?_
      obtain rfl := some_el hf
      exact hK hg18 _ _ _ hW hS (lv_sub hl [1, 2, 3, 0] rfl)
    unfold fL_law_l53 at hf
    refine lv_iload_n hx hb dL_law_53 rfl (lv_at hl 3 rfl) ?_
    refine lv_iload_n hx hb dL_law_54 rfl (lv_at hl 2 rfl) ?_
    refine k_icmp_ge (tgt := 94) hx hb hz3 hx2 dL_law_55 (by decide) (fun hc9 => ?_) (fun hc9 => ?_)
    · rw [if_neg hc9] at hf
      obtain rfl := some_el hf
      exact hK  _ _ _ hW hS (lv_sub hl [1] rfl)
    · rw [if_pos hc9] at hf
      refine lv_aload_n hx hb dL_law_58 rfl (lv_at hl 1 rfl) ?_
      obtain ⟨q10, hq10, hf⟩ := bind_el hf
      refine k_cSl (As := [.ref (gA G (0))]) (rest := []) ⟨hx, hb, hml, hown, hts⟩ (mL_digest l G z.2 q10 hq10) (va_cwS 1 hts (gbS.law (inB_7 _ (List.mem_of_getElem? (i := 20) rfl)) (inB_7 _ (List.mem_of_getElem? (i := 21) rfl)) (inB_7 _ (List.mem_of_getElem? (i := 22) rfl)) (inB_7 _ (List.mem_of_getElem? (i := 23) rfl))) rfl rfl rfl (by decide +kernel) ⟨Nat.le_of_ble_eq_true rfl, Nat.le_of_ble_eq_true rfl⟩) hW hS rfl hl.1 rfl (lv_room (Nat.le_of_ble_eq_true rfl)) dL_law_59 ⟨Nat.le_of_ble_eq_true rfl, Nat.le_of_ble_eq_true rfl⟩ (fun H locs hW hS => ?_)
      refine lv_lstore (lv' := [(4, .long (q10)), (0, .ref (gA G (89))), (1, .ref (gA G (0))), (2, .int (i3 (x2))), (3, .int (i3 (z.1)))]) hx hb dL_law_62 hl (by decide) rfl (fun ls hl => ?_)
      refine lv_aload_n hx hb dL_law_64 rfl (lv_at hl 2 rfl) ?_
      refine lv_aload_n hx hb dL_law_65 rfl (lv_at hl 1 rfl) ?_
      refine lv_iload_n hx hb dL_law_66 rfl (lv_at hl 4 rfl) ?_
      obtain ⟨q12, hq12, hf⟩ := bind_el hf
      refine k_cSi (As := [.ref (gA G (89)), .int (i3 (z.1))]) (rest := [.ref (gA G (0))]) ⟨hx, hb, hml, hown, hts⟩ (mL_cell l G z.2 z.1 hz3 q12 hq12) (va_cwS 2 hts (gbS.law (inB_11 _ (List.mem_of_getElem? (i := 1) rfl)) (inB_11 _ (List.mem_of_getElem? (i := 2) rfl)) (inB_7 _ (List.mem_of_getElem? (i := 22) rfl)) (inB_11 _ (List.mem_of_getElem? (i := 3) rfl))) rfl rfl rfl (by decide +kernel) ⟨Nat.le_of_ble_eq_true rfl, Nat.le_of_ble_eq_true rfl⟩) hW hS rfl hl.1 rfl (lv_room (Nat.le_of_ble_eq_true rfl)) dL_law_67 ⟨Nat.le_of_ble_eq_true rfl, Nat.le_of_ble_eq_true rfl⟩ (fun hv13 H locs hW hS => ?_)
      obtain ⟨q14, hq14, hf⟩ := bind_el hf
      refine k_cSi (As := [.ref (gA G (0)), .int (i3 (q12))]) (rest := []) ⟨hx, hb, hml, hown, hts⟩ (mL_act l G z.2 q12 hv13 q14 hq14) (va_cwS 2 hts (gbS.law (inB_11 _ (List.mem_of_getElem? (i := 5) rfl)) (inB_11 _ (List.mem_of_getElem? (i := 6) rfl)) (inB_7 _ (List.mem_of_getElem? (i := 22) rfl)) (inB_11 _ (List.mem_of_getElem? (i := 7) rfl))) rfl rfl rfl (by decide +kernel) ⟨Nat.le_of_ble_eq_true rfl, Nat.le_of_ble_eq_true rfl⟩) hW hS rfl hl.1 rfl (lv_room (Nat.le_of_ble_eq_true rfl)) dL_law_70 ⟨Nat.le_of_ble_eq_true rfl, Nat.le_of_ble_eq_true rfl⟩ (fun hv15 H locs hW hS => ?_)
      refine k_if_ge (tgt := 88) hx hb hv15 dL_law_73 (by decide) (fun hc16 => ?_) (fun hc16 => ?_)
      · rw [if_neg hc16] at hf
        exact J17 (q14.1) (z.1) hf hz3 _ _ _ hW hS (lv_sub hl [1, 2, 3, 4] rfl)
      · rw [if_pos hc16] at hf
        refine lv_aload_n hx hb dL_law_76 rfl (lv_at hl 2 rfl) ?_
        obtain ⟨q19, hq19, hf⟩ := bind_el hf
        refine k_cSl (As := [.ref (gA G (0))]) (rest := []) ⟨hx, hb, hml, hown, hts⟩ (mL_digest l G q14.1 q19 hq19) (va_cwS 1 hts (gbS.law (inB_7 _ (List.mem_of_getElem? (i := 20) rfl)) (inB_7 _ (List.mem_of_getElem? (i := 21) rfl)) (inB_7 _ (List.mem_of_getElem? (i := 22) rfl)) (inB_7 _ (List.mem_of_getElem? (i := 23) rfl))) rfl rfl rfl (by decide +kernel) ⟨Nat.le_of_ble_eq_true rfl, Nat.le_of_ble_eq_true rfl⟩) hW hS rfl hl.1 rfl (lv_room (Nat.le_of_ble_eq_true rfl)) dL_law_77 ⟨Nat.le_of_ble_eq_true rfl, Nat.le_of_ble_eq_true rfl⟩ (fun H locs hW hS => ?_)
        refine lv_lload hx hb dL_law_80 (lv_at hl 0 rfl) ?_
        refine k_lcmp hx hb dL_law_82 ?_
        refine k_if_eq (tgt := 88) hx hb (inR_toInt _) dL_law_83 (by decide) (fun hc21 => ?_) (fun hc21 => ?_)
        · rw [if_pos hc21] at hf
          exact J17 (q14.1) (z.1) hf hz3 _ _ _ hW hS (lv_sub hl [1, 2, 3, 4] rfl)
        · rw [if_neg hc21] at hf
          refine k_const hx hb dL_law_86 ?_
          obtain rfl := some_el hf
          obtain rfl : 0 = r := hK
          exact hend _ _ _ _ _ _ hr1 hW hS dL_law_87
  have L49 : ∀ (x4 : Int64) (x6 : Int) (hx6 : inR x6), ∀ (z : (Int × Int × MemG)) (q : (Int × MemG)), loopN (fL_law_l119 G x4 x6) 200 z = some q → (inR (q.1) → ∀ (H : Heap) (locs : List Loc) (ls : Array Slot), Wd G (q.2) s H → va_S (PA G) s.heap H locs → lv_has ls 9 [(1, .ref (gA G (0))), (3, .int (i3 (q.1))), (4, .long (x4)), (6, .int (i3 (x6)))] → W p l e room_1 s m args below meth c H locs 600000 7302250 Q (F0 m 180 ls [])) → (inR (z.1) → inR (z.2.1) → ∀ (H : Heap) (locs : List Loc) (ls : Array Slot), Wd G (z.2.2) s H → va_S (PA G) s.heap H locs → lv_has ls 9 [(1, .ref (gA G (0))), (3, .int (i3 (z.1))), (4, .long (x4)), (6, .int (i3 (x6))), (7, .int (i3 (z.2.1)))] → W p l e room_1 s m args below meth c H locs 600000 7302250 Q (F0 m 119 ls [])) := by
    intro x4 x6 hx6 z q hq hex
    refine loop_rule (fL_law_l119 G x4 x6) (fun z => inR (z.1) → inR (z.2.1) → ∀ (H : Heap) (locs : List Loc) (ls : Array Slot), Wd G (z.2.2) s H → va_S (PA G) s.heap H locs → lv_has ls 9 [(1, .ref (gA G (0))), (3, .int (i3 (z.1))), (4, .long (x4)), (6, .int (i3 (x6))), (7, .int (i3 (z.2.1)))] → W p l e room_1 s m args below meth c H locs 600000 7302250 Q (F0 m 119 ls [])) (fun q => (inR (q.1) → ∀ (H : Heap) (locs : List Loc) (ls : Array Slot), Wd G (q.2) s H → va_S (PA G) s.heap H locs → lv_has ls 9 [(1, .ref (gA G (0))), (3, .int (i3 (q.1))), (4, .long (x4)), (6, .int (i3 (x6)))] → W p l e room_1 s m args below meth c H locs 600000 7302250 Q (F0 m 180 ls []))) ?_ 200 z q hq hex
    clear hq hex q z
    intro z x hf hK hz3 hz7 H locs ls hW hS hl
    have J40 : ∀ (M : MemG) (x7 : Int) (t0 : Int), fL_law_j173 M G x4 x6 x7 t0 = some x → inR x7 → inR t0 →  ∀ (H : Heap) (locs : List Loc) (ls : Array Slot), Wd G M s H → va_S (PA G) s.heap H locs → lv_has ls 9 [(1, .ref (gA G (0))), (4, .long (x4)), (6, .int (i3 (x6))), (7, .int (i3 (x7)))] → W p l e room_1 s m args below meth c H locs 600000 7302250 Q (F0 m 173 ls [.int (i3 (t0))]) := by
      intro M x7 t0 hf hx7 ht0 H locs ls hW hS hl
      unfold fL_law_j173 at hf
      refine lv_istore_n (lv' := [(3, .int (i3 (t0))), (1, .ref (gA G (0))), (4, .long (x4)), (6, .int (i3 (x6))), (7, .int (i3 (x7)))]) hx hb dL_law_173 rfl hl (by decide) rfl (fun ls hl => ?_)
      obtain ⟨hg41, hf⟩ := gd_el hf
      refine k_iinc (lv' := [(7, .int (i3 (x7 + 1))), (3, .int (i3 (t0))), (1, .ref (gA G (0))), (4, .long (x4)), (6, .int (i3 (x6)))]) hx hb dL_law_174 hl (k := 4) rfl (by decide) rfl (fun ls hl => ?_)
      refine lv_goto (tgt := 119) hx hb dL_law_177 (by decide) ?_
      obtain rfl := some_el hf
      exact hK ht0 hg41 _ _ _ hW hS (lv_sub hl [2, 1, 3, 4, 0] rfl)
    unfold fL_law_l119 at hf
    refine lv_iload_n hx hb dL_law_119 rfl (lv_at hl 1 rfl) ?_
    refine k_if_eq (tgt := 180) hx hb hz3 dL_law_120 (by decide) (fun hc34 => ?_) (fun hc34 => ?_)
    · rw [if_pos hc34] at hf
      obtain rfl := some_el hf
      exact hK hz3 _ _ _ hW hS (lv_sub hl [0, 1, 2, 3] rfl)
    · rw [if_neg hc34] at hf
      refine lv_iload hx hb dL_law_123 (lv_at hl 4 rfl) ?_
      refine k_const hx hb dL_law_125 ?_
      refine k_icmp_ge (tgt := 180) hx hb hz7 (show inR (4) by decide) dL_law_126 (by decide) (fun hc35 => ?_) (fun hc35 => ?_)
      · rw [if_neg hc35] at hf
        obtain rfl := some_el hf
        exact hK hz3 _ _ _ hW hS (lv_sub hl [0, 1, 2, 3] rfl)
      · rw [if_pos hc35] at hf
        refine lv_aload_n hx hb dL_law_129 rfl (lv_at hl 0 rfl) ?_
        refine lv_iload hx hb dL_law_130 (lv_at hl 4 rfl) ?_
        refine k_const hx hb dL_law_132 ?_
        refine k_bipush hx hb dL_law_133 (by decide +kernel) ?_
        refine lv_iload hx hb dL_law_135 (lv_at hl 4 rfl) ?_
        refine k_mul hx hb dL_law_137 ?_
        refine k_add hx hb dL_law_138 ?_
        obtain ⟨hg36, hf⟩ := gd_el hf
        obtain ⟨q37, hq37, hf⟩ := bind_el hf
        refine k_cSz (As := [.ref (gA G (0)), .int (i3 (z.2.1)), .int (i3 (1 + (60 * z.2.1)))]) (rest := []) ⟨hx, hb, hml, hown, hts⟩ (mL_isBest l G z.2.2 z.2.1 hz7 (1 + (60 * z.2.1)) hg36 q37 hq37) (va_cwS 3 hts (gbS.law (inB_26 _ (List.mem_of_getElem? (i := 7) rfl)) (inB_26 _ (List.mem_of_getElem? (i := 8) rfl)) (inB_7 _ (List.mem_of_getElem? (i := 22) rfl)) (inB_26 _ (List.mem_of_getElem? (i := 9) rfl))) rfl rfl rfl (by decide +kernel) ⟨Nat.le_of_ble_eq_true rfl, Nat.le_of_ble_eq_true rfl⟩) hW hS rfl hl.1 rfl (lv_room (Nat.le_of_ble_eq_true rfl)) dL_law_139 ⟨Nat.le_of_ble_eq_true rfl, Nat.le_of_ble_eq_true rfl⟩ (fun hv38 H locs hW hS => ?_)
        refine k_if_eq (tgt := 172) hx hb (inR_z hv38) dL_law_142 (by decide) (fun hc39 => ?_) (fun hc39 => ?_)
        · rw [if_pos hc39] at hf
          refine k_const hx hb dL_law_172 ?_
          exact J40 (q37.1) (z.2.1) (0) hf hz7 (show inR (0) by decide) _ _ _ hW hS (lv_sub hl [0, 2, 3, 4] rfl)
        · rw [if_neg hc39] at hf
          refine lv_aload_n hx hb dL_law_145 rfl (lv_at hl 0 rfl) ?_
          refine lv_iload hx hb dL_law_146 (lv_at hl 4 rfl) ?_
          refine k_bipush hx hb dL_law_148 (by decide +kernel) ?_
          refine lv_iload hx hb dL_law_150 (lv_at hl 4 rfl) ?_
          refine k_mul hx hb dL_law_152 ?_
          refine k_const hx hb dL_law_153 ?_
          refine k_add hx hb dL_law_154 ?_
          obtain ⟨hg42, hf⟩ := gd_el hf
          obtain ⟨q43, hq43, hf⟩ := bind_el hf
          refine k_cSz (As := [.ref (gA G (0)), .int (i3 (z.2.1)), .int (i3 ((20 * z.2.1) + 1))]) (rest := []) ⟨hx, hb, hml, hown, hts⟩ (mL_isSold l G q37.1 z.2.1 hz7 ((20 * z.2.1) + 1) hg42 q43 hq43) (va_cwS 3 hts (gbS.law (inB_26 _ (List.mem_of_getElem? (i := 18) rfl)) (inB_26 _ (List.mem_of_getElem? (i := 19) rfl)) (inB_7 _ (List.mem_of_getElem? (i := 22) rfl)) (inB_26 _ (List.mem_of_getElem? (i := 20) rfl))) rfl rfl rfl (by decide +kernel) ⟨Nat.le_of_ble_eq_true rfl, Nat.le_of_ble_eq_true rfl⟩) hW hS rfl hl.1 rfl (lv_room (Nat.le_of_ble_eq_true rfl)) dL_law_155 ⟨Nat.le_of_ble_eq_true rfl, Nat.le_of_ble_eq_true rfl⟩ (fun hv44 H locs hW hS => ?_)
          refine k_if_eq (tgt := 172) hx hb (inR_z hv44) dL_law_158 (by decide) (fun hc45 => ?_) (fun hc45 => ?_)
          · rw [if_pos hc45] at hf
            refine k_const hx hb dL_law_172 ?_
            exact J40 (q43.1) (z.2.1) (0) hf hz7 (show inR (0) by decide) _ _ _ hW hS (lv_sub hl [0, 2, 3, 4] rfl)
          · rw [if_neg hc45] at hf
            refine lv_aload_n hx hb dL_law_161 rfl (lv_at hl 0 rfl) ?_
            obtain ⟨q46, hq46, hf⟩ := bind_el hf
            refine k_cSz (As := [.ref (gA G (0))]) (rest := []) ⟨hx, hb, hml, hown, hts⟩ (mL_isPassed l G q43.1 q46 hq46) (va_cwS 1 hts (gbS.law (inB_27 _ (List.mem_of_getElem? (i := 5) rfl)) (inB_27 _ (List.mem_of_getElem? (i := 6) rfl)) (inB_7 _ (List.mem_of_getElem? (i := 22) rfl)) (inB_27 _ (List.mem_of_getElem? (i := 7) rfl))) rfl rfl rfl (by decide +kernel) ⟨Nat.le_of_ble_eq_true rfl, Nat.le_of_ble_eq_true rfl⟩) hW hS rfl hl.1 rfl (lv_room (Nat.le_of_ble_eq_true rfl)) dL_law_162 ⟨Nat.le_of_ble_eq_true rfl, Nat.le_of_ble_eq_true rfl⟩ (fun hv47 H locs hW hS => ?_)
            refine k_if_eq (tgt := 172) hx hb (inR_z hv47) dL_law_165 (by decide) (fun hc48 => ?_) (fun hc48 => ?_)
            · rw [if_pos hc48] at hf
              refine k_const hx hb dL_law_172 ?_
              exact J40 (q46.1) (z.2.1) (0) hf hz7 (show inR (0) by decide) _ _ _ hW hS (lv_sub hl [0, 2, 3, 4] rfl)
            · rw [if_neg hc48] at hf
              refine k_const hx hb dL_law_168 ?_
              refine lv_goto (tgt := 173) hx hb dL_law_169 (by decide) ?_
              exact J40 (q46.1) (z.2.1) (1) hf hz7 (show inR (1) by decide) _ _ _ hW hS (lv_sub hl [0, 2, 3, 4] rfl)
  have L75 : ∀ (x4 : Int64) (x6 : Int) (hx6 : inR x6), ∀ (z : (Int × Int × MemG)) (q : (Int × MemG)), loopN (fL_law_l183 G x4 x6) 200 z = some q → (inR (q.1) → ∀ (H : Heap) (locs : List Loc) (ls : Array Slot), Wd G (q.2) s H → va_S (PA G) s.heap H locs → lv_has ls 9 [(1, .ref (gA G (0))), (3, .int (i3 (q.1))), (4, .long (x4)), (6, .int (i3 (x6)))] → W p l e room_1 s m args below meth c H locs 600000 7302250 Q (F0 m 272 ls [])) → (inR (z.1) → inR (z.2.1) → ∀ (H : Heap) (locs : List Loc) (ls : Array Slot), Wd G (z.2.2) s H → va_S (PA G) s.heap H locs → lv_has ls 9 [(1, .ref (gA G (0))), (3, .int (i3 (z.1))), (4, .long (x4)), (6, .int (i3 (x6))), (7, .int (i3 (z.2.1)))] → W p l e room_1 s m args below meth c H locs 600000 7302250 Q (F0 m 183 ls [])) := by
    intro x4 x6 hx6 z q hq hex
    refine loop_rule (fL_law_l183 G x4 x6) (fun z => inR (z.1) → inR (z.2.1) → ∀ (H : Heap) (locs : List Loc) (ls : Array Slot), Wd G (z.2.2) s H → va_S (PA G) s.heap H locs → lv_has ls 9 [(1, .ref (gA G (0))), (3, .int (i3 (z.1))), (4, .long (x4)), (6, .int (i3 (x6))), (7, .int (i3 (z.2.1)))] → W p l e room_1 s m args below meth c H locs 600000 7302250 Q (F0 m 183 ls [])) (fun q => (inR (q.1) → ∀ (H : Heap) (locs : List Loc) (ls : Array Slot), Wd G (q.2) s H → va_S (PA G) s.heap H locs → lv_has ls 9 [(1, .ref (gA G (0))), (3, .int (i3 (q.1))), (4, .long (x4)), (6, .int (i3 (x6)))] → W p l e room_1 s m args below meth c H locs 600000 7302250 Q (F0 m 272 ls []))) ?_ 200 z q hq hex
    clear hq hex q z
    intro z x hf hK hz3 hz7 H locs ls hW hS hl
    have J63 : ∀ (M : MemG) (x7 : Int) (t0 : Int), fL_law_j265 M G x4 x6 x7 t0 = some x → inR x7 → inR t0 →  ∀ (H : Heap) (locs : List Loc) (ls : Array Slot), Wd G M s H → va_S (PA G) s.heap H locs → lv_has ls 9 [(1, .ref (gA G (0))), (4, .long (x4)), (6, .int (i3 (x6))), (7, .int (i3 (x7)))] → W p l e room_1 s m args below meth c H locs 600000 7302250 Q (F0 m 265 ls [.int (i3 (t0))]) := by
      intro M x7 t0 hf hx7 ht0 H locs ls hW hS hl
      unfold fL_law_j265 at hf
      refine lv_istore_n (lv' := [(3, .int (i3 (t0))), (1, .ref (gA G (0))), (4, .long (x4)), (6, .int (i3 (x6))), (7, .int (i3 (x7)))]) hx hb dL_law_265 rfl hl (by decide) rfl (fun ls hl => ?_)
      obtain ⟨hg64, hf⟩ := gd_el hf
      refine k_iinc (lv' := [(7, .int (i3 (x7 + 1))), (3, .int (i3 (t0))), (1, .ref (gA G (0))), (4, .long (x4)), (6, .int (i3 (x6)))]) hx hb dL_law_266 hl (k := 4) rfl (by decide) rfl (fun ls hl => ?_)
      refine lv_goto (tgt := 183) hx hb dL_law_269 (by decide) ?_
      obtain rfl := some_el hf
      exact hK ht0 hg64 _ _ _ hW hS (lv_sub hl [2, 1, 3, 4, 0] rfl)
    have J68 : ∀ (M : MemG) (x7 : Int), fL_law_j250 M G x4 x6 x7 = some x → inR x7 →  ∀ (H : Heap) (locs : List Loc) (ls : Array Slot), Wd G M s H → va_S (PA G) s.heap H locs → lv_has ls 9 [(1, .ref (gA G (0))), (4, .long (x4)), (6, .int (i3 (x6))), (7, .int (i3 (x7)))] → W p l e room_1 s m args below meth c H locs 600000 7302250 Q (F0 m 250 ls []) := by
      intro M x7 hf hx7 H locs ls hW hS hl
      unfold fL_law_j250 at hf
      refine lv_aload_n hx hb dL_law_250 rfl (lv_at hl 0 rfl) ?_
      obtain ⟨q69, hq69, hf⟩ := bind_el hf
      refine k_cSl (As := [.ref (gA G (0))]) (rest := []) ⟨hx, hb, hml, hown, hts⟩ (mL_digest l G M q69 hq69) (va_cwS 1 hts (gbS.law (inB_7 _ (List.mem_of_getElem? (i := 20) rfl)) (inB_7 _ (List.mem_of_getElem? (i := 21) rfl)) (inB_7 _ (List.mem_of_getElem? (i := 22) rfl)) (inB_7 _ (List.mem_of_getElem? (i := 23) rfl))) rfl rfl rfl (by decide +kernel) ⟨Nat.le_of_ble_eq_true rfl, Nat.le_of_ble_eq_true rfl⟩) hW hS rfl hl.1 rfl (lv_room (Nat.le_of_ble_eq_true rfl)) dL_law_251 ⟨Nat.le_of_ble_eq_true rfl, Nat.le_of_ble_eq_true rfl⟩ (fun H locs hW hS => ?_)
      refine lv_lload hx hb dL_law_254 (lv_at hl 1 rfl) ?_
      refine k_lcmp hx hb dL_law_256 ?_
      refine k_if_ne (tgt := 264) hx hb (inR_toInt _) dL_law_257 (by decide) (fun hc71 => ?_) (fun hc71 => ?_)
      · rw [if_neg hc71] at hf
        refine k_const hx hb dL_law_264 ?_
        exact J63 (M) (x7) (0) hf hx7 (show inR (0) by decide) _ _ _ hW hS (lv_sub hl [0, 1, 2, 3] rfl)
      · rw [if_pos hc71] at hf
        refine k_const hx hb dL_law_260 ?_
        refine lv_goto (tgt := 265) hx hb dL_law_261 (by decide) ?_
        exact J63 (M) (x7) (1) hf hx7 (show inR (1) by decide) _ _ _ hW hS (lv_sub hl [0, 1, 2, 3] rfl)
    unfold fL_law_l183 at hf
    refine lv_iload_n hx hb dL_law_183 rfl (lv_at hl 1 rfl) ?_
    refine k_if_eq (tgt := 272) hx hb hz3 dL_law_184 (by decide) (fun hc52 => ?_) (fun hc52 => ?_)
    · rw [if_pos hc52] at hf
      obtain rfl := some_el hf
      exact hK hz3 _ _ _ hW hS (lv_sub hl [0, 1, 2, 3] rfl)
    · rw [if_neg hc52] at hf
      refine lv_iload hx hb dL_law_187 (lv_at hl 4 rfl) ?_
      refine k_gets hx hb hW.S.2.2.1.1 hown (hts _ (inB_1 _ (List.mem_of_getElem? (i := 3) rfl))) dL_law_189 ?_
      refine k_tlen (v := 19) hx hb hW.S.2.2.1.2 rfl dL_law_192 ?_
      refine k_icmp_ge (tgt := 272) hx hb hz7 (by decide) dL_law_193 (by decide) (fun hc53 => ?_) (fun hc53 => ?_)
      · rw [if_neg hc53] at hf
        obtain rfl := some_el hf
        exact hK hz3 _ _ _ hW hS (lv_sub hl [0, 1, 2, 3] rfl)
      · rw [if_pos hc53] at hf
        refine lv_aload_n hx hb dL_law_196 rfl (lv_at hl 0 rfl) ?_
        refine k_gets hx hb hW.S.2.2.1.1 hown (hts _ (inB_1 _ (List.mem_of_getElem? (i := 3) rfl))) dL_law_197 ?_
        refine lv_iload hx hb dL_law_200 (lv_at hl 4 rfl) ?_
        obtain ⟨hg54, hf⟩ := gx_el hf
        refine k_tq (f := fun j => gA G (100 + (7 + j))) hx hb hW.S.2.2.1.2 hz7 hg54.1 hg54.2 dL_law_202 ?_
        obtain ⟨m55, hm55, hf⟩ := bind_el hf
        refine k_cSa (As := [.ref (gA G (0)), .ref (gA G (100 + (7 + (z.2.1).toNat)))]) (rest := []) ⟨hx, hb, hml, hown, hts⟩ (mL_write l G z.2.2 ((7 + (z.2.1).toNat)) (by omega) m55 hm55) (va_cwS 2 hts (gbS.law (inB_14 _ (List.mem_of_getElem? (i := 11) rfl)) (inB_14 _ (List.mem_of_getElem? (i := 12) rfl)) (inB_7 _ (List.mem_of_getElem? (i := 22) rfl)) (inB_14 _ (List.mem_of_getElem? (i := 13) rfl))) rfl rfl rfl (by decide +kernel) ⟨Nat.le_of_ble_eq_true rfl, Nat.le_of_ble_eq_true rfl⟩) hW hS rfl hl.1 rfl (lv_room (Nat.le_of_ble_eq_true rfl)) dL_law_203 ⟨Nat.le_of_ble_eq_true rfl, Nat.le_of_ble_eq_true rfl⟩ (fun H locs hW hS => ?_)
        obtain ⟨q57, hq57, hf⟩ := bind_el hf
        refine k_cVi (As := []) (rest := []) ⟨hx, hb, hml, hown, hts⟩ (mG_run l G m55 q57 hq57) (cwV 0 hts (gbV.law (inB_16 _ (List.mem_of_getElem? (i := 23) rfl)) (inB_17 _ (List.mem_of_getElem? (i := 0) rfl)) (inB_17 _ (List.mem_of_getElem? (i := 1) rfl)) (inB_1 _ (List.mem_of_getElem? (i := 2) rfl)) (inB_17 _ (List.mem_of_getElem? (i := 2) rfl))) rfl rfl rfl (by decide +kernel) ⟨Nat.le_of_ble_eq_true rfl, Nat.le_of_ble_eq_true rfl⟩) (rv_G hW) hW hS rfl hl.1 rfl (lv_room (Nat.le_of_ble_eq_true rfl)) dL_law_206 ⟨Nat.le_of_ble_eq_true rfl, Nat.le_of_ble_eq_true rfl⟩ (fun hv58 H locs hW hS => ?_)
        refine lv_istore (lv' := [(8, .int (i3 (q57.2))), (1, .ref (gA G (0))), (3, .int (i3 (z.1))), (4, .long (x4)), (6, .int (i3 (x6))), (7, .int (i3 (z.2.1)))]) hx hb dL_law_209 hl (by decide) rfl (fun ls hl => ?_)
        refine lv_iload hx hb dL_law_211 (lv_at hl 0 rfl) ?_
        refine k_if_ge (tgt := 236) hx hb hv58 dL_law_213 (by decide) (fun hc59 => ?_) (fun hc59 => ?_)
        · rw [if_neg hc59] at hf
          refine lv_aload_n hx hb dL_law_236 rfl (lv_at hl 1 rfl) ?_
          obtain ⟨q60, hq60, hf⟩ := bind_el hf
          refine k_cSz (As := [.ref (gA G (0))]) (rest := []) ⟨hx, hb, hml, hown, hts⟩ (mL_isFit l G q57.1 q60 hq60) (va_cwS 1 hts (gbS.law (inB_20 _ (List.mem_of_getElem? (i := 17) rfl)) (inB_20 _ (List.mem_of_getElem? (i := 18) rfl)) (inB_7 _ (List.mem_of_getElem? (i := 22) rfl)) (inB_20 _ (List.mem_of_getElem? (i := 19) rfl))) rfl rfl rfl (by decide +kernel) ⟨Nat.le_of_ble_eq_true rfl, Nat.le_of_ble_eq_true rfl⟩) hW hS rfl hl.1 rfl (lv_room (Nat.le_of_ble_eq_true rfl)) dL_law_237 ⟨Nat.le_of_ble_eq_true rfl, Nat.le_of_ble_eq_true rfl⟩ (fun hv61 H locs hW hS => ?_)
          refine k_if_eq (tgt := 264) hx hb (inR_z hv61) dL_law_240 (by decide) (fun hc62 => ?_) (fun hc62 => ?_)
          · rw [if_pos hc62] at hf
            refine k_const hx hb dL_law_264 ?_
            exact J63 (q60.1) (z.2.1) (0) hf hz7 (show inR (0) by decide) _ _ _ hW hS (lv_sub hl [1, 3, 4, 5] rfl)
          · rw [if_neg hc62] at hf
            refine lv_aload_n hx hb dL_law_243 rfl (lv_at hl 1 rfl) ?_
            obtain ⟨q65, hq65, hf⟩ := bind_el hf
            refine k_cVi (As := []) (rest := []) ⟨hx, hb, hml, hown, hts⟩ (mG_undo l G q60.1 q65 hq65) (cwV 0 hts (gbV.law (inB_20 _ (List.mem_of_getElem? (i := 8) rfl)) (inB_20 _ (List.mem_of_getElem? (i := 9) rfl)) (inB_20 _ (List.mem_of_getElem? (i := 10) rfl)) (inB_1 _ (List.mem_of_getElem? (i := 2) rfl)) (inB_20 _ (List.mem_of_getElem? (i := 11) rfl))) rfl rfl rfl (by decide +kernel) ⟨Nat.le_of_ble_eq_true rfl, Nat.le_of_ble_eq_true rfl⟩) (rv_G hW) hW hS rfl hl.1 rfl (lv_room (Nat.le_of_ble_eq_true rfl)) dL_law_244 ⟨Nat.le_of_ble_eq_true rfl, Nat.le_of_ble_eq_true rfl⟩ (fun hv66 H locs hW hS => ?_)
            refine k_if_lt (tgt := 264) hx hb hv66 dL_law_247 (by decide) (fun hc67 => ?_) (fun hc67 => ?_)
            · rw [if_pos hc67] at hf
              refine k_const hx hb dL_law_264 ?_
              exact J63 (q65.1) (z.2.1) (0) hf hz7 (show inR (0) by decide) _ _ _ hW hS (lv_sub hl [1, 3, 4, 5] rfl)
            · rw [if_neg hc67] at hf
              exact J68 (q65.1) (z.2.1) hf hz7 _ _ _ hW hS (lv_sub hl [1, 3, 4, 5] rfl)
        · rw [if_pos hc59] at hf
          refine lv_iload hx hb dL_law_216 (lv_at hl 0 rfl) ?_
          refine k_bipush hx hb dL_law_218 (by decide +kernel) ?_
          refine k_icmp_ne (tgt := 264) hx hb hv58 (show inR (-14) by decide) dL_law_220 (by decide) (fun hc72 => ?_) (fun hc72 => ?_)
          · rw [if_neg hc72] at hf
            refine k_const hx hb dL_law_264 ?_
            exact J63 (q57.1) (z.2.1) (0) hf hz7 (show inR (0) by decide) _ _ _ hW hS (lv_sub hl [1, 3, 4, 5] rfl)
          · rw [if_pos hc72] at hf
            refine lv_aload_n hx hb dL_law_223 rfl (lv_at hl 1 rfl) ?_
            refine k_const hx hb dL_law_224 ?_
            refine k_cVi (As := [.int (i3 (0))]) (rest := []) ⟨hx, hb, hml, hown, hts⟩ (mG_reason l G q57.1 0 (show inR (0) by decide) _ rfl) (cwV 1 hts (gbV.law (inB_26 _ (List.mem_of_getElem? (i := 21) rfl)) (inB_26 _ (List.mem_of_getElem? (i := 22) rfl)) (inB_26 _ (List.mem_of_getElem? (i := 23) rfl)) (inB_1 _ (List.mem_of_getElem? (i := 2) rfl)) (inB_27 _ (List.mem_of_getElem? (i := 0) rfl))) rfl rfl rfl (by decide +kernel) ⟨Nat.le_of_ble_eq_true rfl, Nat.le_of_ble_eq_true rfl⟩) (rv_G hW) hW hS rfl hl.1 rfl (lv_room (Nat.le_of_ble_eq_true rfl)) dL_law_225 ⟨Nat.le_of_ble_eq_true rfl, Nat.le_of_ble_eq_true rfl⟩ (fun hv73 H locs hW hS => ?_)
            refine k_bipush hx hb dL_law_228 (by decide +kernel) ?_
            refine k_icmp_ne (tgt := 264) hx hb hv73 (show inR (9) by decide) dL_law_230 (by decide) (fun hc74 => ?_) (fun hc74 => ?_)
            · rw [if_neg hc74] at hf
              refine k_const hx hb dL_law_264 ?_
              exact J63 (q57.1) (z.2.1) (0) hf hz7 (show inR (0) by decide) _ _ _ hW hS (lv_sub hl [1, 3, 4, 5] rfl)
            · rw [if_pos hc74] at hf
              refine lv_goto (tgt := 250) hx hb dL_law_233 (by decide) ?_
              exact J68 (q57.1) (z.2.1) hf hz7 _ _ _ hW hS (lv_sub hl [1, 3, 4, 5] rfl)
  have L104 : ∀ (x4 : Int64) (x6 : Int) (hx6 : inR x6), ∀ (z : (Int × Int × MemG)) (q : (Int × MemG)), loopN (fL_law_l275 G x4 x6) 200 z = some q → (inR (q.1) → ∀ (H : Heap) (locs : List Loc) (ls : Array Slot), Wd G (q.2) s H → va_S (PA G) s.heap H locs → lv_has ls 9 [(1, .ref (gA G (0))), (3, .int (i3 (q.1))), (4, .long (x4)), (6, .int (i3 (x6)))] → W p l e room_1 s m args below meth c H locs 600000 7302250 Q (F0 m 369 ls [])) → (inR (z.1) → inR (z.2.1) → ∀ (H : Heap) (locs : List Loc) (ls : Array Slot), Wd G (z.2.2) s H → va_S (PA G) s.heap H locs → lv_has ls 9 [(1, .ref (gA G (0))), (3, .int (i3 (z.1))), (4, .long (x4)), (6, .int (i3 (x6))), (7, .int (i3 (z.2.1)))] → W p l e room_1 s m args below meth c H locs 600000 7302250 Q (F0 m 275 ls [])) := by
    intro x4 x6 hx6 z q hq hex
    refine loop_rule (fL_law_l275 G x4 x6) (fun z => inR (z.1) → inR (z.2.1) → ∀ (H : Heap) (locs : List Loc) (ls : Array Slot), Wd G (z.2.2) s H → va_S (PA G) s.heap H locs → lv_has ls 9 [(1, .ref (gA G (0))), (3, .int (i3 (z.1))), (4, .long (x4)), (6, .int (i3 (x6))), (7, .int (i3 (z.2.1)))] → W p l e room_1 s m args below meth c H locs 600000 7302250 Q (F0 m 275 ls [])) (fun q => (inR (q.1) → ∀ (H : Heap) (locs : List Loc) (ls : Array Slot), Wd G (q.2) s H → va_S (PA G) s.heap H locs → lv_has ls 9 [(1, .ref (gA G (0))), (3, .int (i3 (q.1))), (4, .long (x4)), (6, .int (i3 (x6)))] → W p l e room_1 s m args below meth c H locs 600000 7302250 Q (F0 m 369 ls []))) ?_ 200 z q hq hex
    clear hq hex q z
    intro z x hf hK hz3 hz7 H locs ls hW hS hl
    unfold fL_law_l275 at hf
    refine lv_iload_n hx hb dL_law_275 rfl (lv_at hl 1 rfl) ?_
    refine k_if_eq (tgt := 369) hx hb hz3 dL_law_276 (by decide) (fun hc78 => ?_) (fun hc78 => ?_)
    · rw [if_pos hc78] at hf
      obtain rfl := some_el hf
      exact hK hz3 _ _ _ hW hS (lv_sub hl [0, 1, 2, 3] rfl)
    · rw [if_neg hc78] at hf
      refine lv_iload hx hb dL_law_279 (lv_at hl 4 rfl) ?_
      refine k_bipush hx hb dL_law_281 (by decide +kernel) ?_
      refine k_icmp_ge (tgt := 369) hx hb hz7 (show inR (8) by decide) dL_law_283 (by decide) (fun hc79 => ?_) (fun hc79 => ?_)
      · rw [if_neg hc79] at hf
        obtain rfl := some_el hf
        exact hK hz3 _ _ _ hW hS (lv_sub hl [0, 1, 2, 3] rfl)
      · rw [if_pos hc79] at hf
        refine lv_aload_n hx hb dL_law_286 rfl (lv_at hl 0 rfl) ?_
        refine k_const hx hb dL_law_287 ?_
        refine lv_iload hx hb dL_law_288 (lv_at hl 4 rfl) ?_
        refine k_mul hx hb dL_law_290 ?_
        refine k_bipush hx hb dL_law_291 (by decide +kernel) ?_
        obtain ⟨hg80, hf⟩ := gd_el hf
        obtain ⟨hg81, hf⟩ := gq_el hf
        refine k_rem hx hb dL_law_293 hg80 (show inR (32) by decide) hg81 ?_
        refine lv_iload hx hb dL_law_294 (lv_at hl 4 rfl) ?_
        refine k_const hx hb dL_law_296 ?_
        obtain ⟨hg82, hf⟩ := gq_el hf
        refine k_rem hx hb dL_law_297 hz7 (show inR (4) by decide) hg82 ?_
        refine k_bipush hx hb dL_law_298 (by decide +kernel) ?_
        refine k_bipush hx hb dL_law_300 (by decide +kernel) ?_
        refine lv_iload hx hb dL_law_302 (lv_at hl 4 rfl) ?_
        refine k_mul hx hb dL_law_304 ?_
        refine k_add hx hb dL_law_305 ?_
        obtain ⟨hg83, hf⟩ := gd_el hf
        obtain ⟨q84, hq84, hf⟩ := bind_el hf
        refine k_cVi (As := [.int (i3 ((4 * z.2.1) % 32)), .int (i3 (z.2.1 % 4)), .int (i3 (100 + (12 * z.2.1)))]) (rest := []) ⟨hx, hb, hml, hown, hts⟩ (mG_store l G z.2.2 ((4 * z.2.1) % 32) (inR_mod (show inR (32) by decide) hg81.2) (z.2.1 % 4) (inR_mod (show inR (4) by decide) hg82.2) (100 + (12 * z.2.1)) hg83 q84 hq84) (cwV 3 hts (gbV.law (inB_3 _ (List.mem_of_getElem? (i := 18) rfl)) (inB_3 _ (List.mem_of_getElem? (i := 19) rfl)) (inB_3 _ (List.mem_of_getElem? (i := 20) rfl)) (inB_1 _ (List.mem_of_getElem? (i := 2) rfl)) (inB_3 _ (List.mem_of_getElem? (i := 21) rfl))) rfl rfl rfl (by decide +kernel) ⟨Nat.le_of_ble_eq_true rfl, Nat.le_of_ble_eq_true rfl⟩) (rv_G hW) hW hS rfl hl.1 rfl (lv_room (Nat.le_of_ble_eq_true rfl)) dL_law_306 ⟨Nat.le_of_ble_eq_true rfl, Nat.le_of_ble_eq_true rfl⟩ (fun hv85 H locs hW hS => ?_)
        refine lv_pop hx hb dL_law_309 rfl ?_
        refine lv_aload_n hx hb dL_law_310 rfl (lv_at hl 0 rfl) ?_
        refine k_const hx hb dL_law_311 ?_
        refine lv_iload hx hb dL_law_312 (lv_at hl 4 rfl) ?_
        refine k_mul hx hb dL_law_314 ?_
        refine k_bipush hx hb dL_law_315 (by decide +kernel) ?_
        obtain ⟨hg86, hf⟩ := gd_el hf
        obtain ⟨hg87, hf⟩ := gq_el hf
        refine k_rem hx hb dL_law_317 hg86 (show inR (32) by decide) hg87 ?_
        refine k_const hx hb dL_law_318 ?_
        refine lv_iload hx hb dL_law_319 (lv_at hl 4 rfl) ?_
        refine k_mul hx hb dL_law_321 ?_
        refine k_bipush hx hb dL_law_322 (by decide +kernel) ?_
        obtain ⟨hg88, hf⟩ := gd_el hf
        obtain ⟨hg89, hf⟩ := gq_el hf
        refine k_rem hx hb dL_law_324 hg88 (show inR (32) by decide) hg89 ?_
        refine k_const hx hb dL_law_325 ?_
        refine k_add hx hb dL_law_326 ?_
        refine k_bipush hx hb dL_law_327 (by decide +kernel) ?_
        obtain ⟨hg90, hf⟩ := gd_el hf
        obtain ⟨q91, hq91, hf⟩ := bind_el hf
        refine k_cVi (As := [.int (i3 ((4 * z.2.1) % 32)), .int (i3 (((4 * z.2.1) % 32) + 1)), .int (i3 (60))]) (rest := []) ⟨hx, hb, hml, hown, hts⟩ (mG_move l G q84.1 ((4 * z.2.1) % 32) (inR_mod (show inR (32) by decide) hg87.2) (((4 * z.2.1) % 32) + 1) hg90 60 (show inR (60) by decide) q91 hq91) (cwV 3 hts (gbV.law (inB_12 _ (List.mem_of_getElem? (i := 7) rfl)) (inB_12 _ (List.mem_of_getElem? (i := 8) rfl)) (inB_12 _ (List.mem_of_getElem? (i := 9) rfl)) (inB_1 _ (List.mem_of_getElem? (i := 2) rfl)) (inB_12 _ (List.mem_of_getElem? (i := 10) rfl))) rfl rfl rfl (by decide +kernel) ⟨Nat.le_of_ble_eq_true rfl, Nat.le_of_ble_eq_true rfl⟩) (rv_G hW) hW hS rfl hl.1 rfl (lv_room (Nat.le_of_ble_eq_true rfl)) dL_law_329 ⟨Nat.le_of_ble_eq_true rfl, Nat.le_of_ble_eq_true rfl⟩ (fun hv92 H locs hW hS => ?_)
        refine lv_pop hx hb dL_law_332 rfl ?_
        refine lv_aload_n hx hb dL_law_333 rfl (lv_at hl 0 rfl) ?_
        refine k_const hx hb dL_law_334 ?_
        refine k_const hx hb dL_law_335 ?_
        refine lv_iload hx hb dL_law_336 (lv_at hl 4 rfl) ?_
        refine k_mul hx hb dL_law_338 ?_
        refine k_add hx hb dL_law_339 ?_
        obtain ⟨hg93, hf⟩ := gd_el hf
        obtain ⟨q94, hq94, hf⟩ := bind_el hf
        refine k_cVi (As := [.int (i3 (1 + (2 * z.2.1)))]) (rest := []) ⟨hx, hb, hml, hown, hts⟩ (mG_pass l G q91.1 (1 + (2 * z.2.1)) hg93 q94 hq94) (cwV 1 hts (gbV.law (inB_13 _ (List.mem_of_getElem? (i := 21) rfl)) (inB_13 _ (List.mem_of_getElem? (i := 22) rfl)) (inB_13 _ (List.mem_of_getElem? (i := 23) rfl)) (inB_1 _ (List.mem_of_getElem? (i := 2) rfl)) (inB_14 _ (List.mem_of_getElem? (i := 0) rfl))) rfl rfl rfl (by decide +kernel) ⟨Nat.le_of_ble_eq_true rfl, Nat.le_of_ble_eq_true rfl⟩) (rv_G hW) hW hS rfl hl.1 rfl (lv_room (Nat.le_of_ble_eq_true rfl)) dL_law_340 ⟨Nat.le_of_ble_eq_true rfl, Nat.le_of_ble_eq_true rfl⟩ (fun hv95 H locs hW hS => ?_)
        refine lv_pop hx hb dL_law_343 rfl ?_
        refine lv_aload_n hx hb dL_law_344 rfl (lv_at hl 0 rfl) ?_
        refine k_const hx hb dL_law_345 ?_
        refine lv_iload hx hb dL_law_346 (lv_at hl 4 rfl) ?_
        refine k_mul hx hb dL_law_348 ?_
        refine k_bipush hx hb dL_law_349 (by decide +kernel) ?_
        obtain ⟨hg96, hf⟩ := gd_el hf
        obtain ⟨hg97, hf⟩ := gq_el hf
        refine k_rem hx hb dL_law_351 hg96 (show inR (32) by decide) hg97 ?_
        refine k_const hx hb dL_law_352 ?_
        refine k_add hx hb dL_law_353 ?_
        obtain ⟨hg98, hf⟩ := gd_el hf
        obtain ⟨q99, hq99, hf⟩ := bind_el hf
        refine k_cVi (As := [.int (i3 (((4 * z.2.1) % 32) + 1))]) (rest := []) ⟨hx, hb, hml, hown, hts⟩ (mG_fix l G q94.1 (((4 * z.2.1) % 32) + 1) hg98 q99 hq99) (cwV 1 hts (gbV.law (inB_13 _ (List.mem_of_getElem? (i := 9) rfl)) (inB_13 _ (List.mem_of_getElem? (i := 10) rfl)) (inB_13 _ (List.mem_of_getElem? (i := 11) rfl)) (inB_1 _ (List.mem_of_getElem? (i := 2) rfl)) (inB_13 _ (List.mem_of_getElem? (i := 12) rfl))) rfl rfl rfl (by decide +kernel) ⟨Nat.le_of_ble_eq_true rfl, Nat.le_of_ble_eq_true rfl⟩) (rv_G hW) hW hS rfl hl.1 rfl (lv_room (Nat.le_of_ble_eq_true rfl)) dL_law_354 ⟨Nat.le_of_ble_eq_true rfl, Nat.le_of_ble_eq_true rfl⟩ (fun hv100 H locs hW hS => ?_)
        refine lv_pop hx hb dL_law_357 rfl ?_
        refine lv_aload_n hx hb dL_law_358 rfl (lv_at hl 0 rfl) ?_
        obtain ⟨q101, hq101, hf⟩ := bind_el hf
        refine k_cSz (As := [.ref (gA G (0))]) (rest := []) ⟨hx, hb, hml, hown, hts⟩ (mL_isFit l G q99.1 q101 hq101) (va_cwS 1 hts (gbS.law (inB_20 _ (List.mem_of_getElem? (i := 17) rfl)) (inB_20 _ (List.mem_of_getElem? (i := 18) rfl)) (inB_7 _ (List.mem_of_getElem? (i := 22) rfl)) (inB_20 _ (List.mem_of_getElem? (i := 19) rfl))) rfl rfl rfl (by decide +kernel) ⟨Nat.le_of_ble_eq_true rfl, Nat.le_of_ble_eq_true rfl⟩) hW hS rfl hl.1 rfl (lv_room (Nat.le_of_ble_eq_true rfl)) dL_law_359 ⟨Nat.le_of_ble_eq_true rfl, Nat.le_of_ble_eq_true rfl⟩ (fun hv102 H locs hW hS => ?_)
        refine lv_istore_n (lv' := [(3, .int (i3 (q101.2))), (1, .ref (gA G (0))), (4, .long (x4)), (6, .int (i3 (x6))), (7, .int (i3 (z.2.1)))]) hx hb dL_law_362 rfl hl (by decide) rfl (fun ls hl => ?_)
        obtain ⟨hg103, hf⟩ := gd_el hf
        refine k_iinc (lv' := [(7, .int (i3 (z.2.1 + 1))), (3, .int (i3 (q101.2))), (1, .ref (gA G (0))), (4, .long (x4)), (6, .int (i3 (x6)))]) hx hb dL_law_363 hl (k := 4) rfl (by decide) rfl (fun ls hl => ?_)
        refine lv_goto (tgt := 275) hx hb dL_law_366 (by decide) ?_
        obtain rfl := some_el hf
        exact hK (inR_z hv102) hg103 _ _ _ hW hS (lv_sub hl [2, 1, 3, 4, 0] rfl)
  have J8 : ∀ (M : MemG) (t0 : Int), fL_law_j50 M G t0 = some r → inR t0 →  ∀ (H : Heap) (locs : List Loc) (ls : Array Slot), Wd G M s H → va_S (PA G) s.heap H locs → lv_has ls 9 [(0, .ref (gA G (89))), (1, .ref (gA G (0)))] → W p l e room_1 s m args below meth c H locs 600000 7302250 Q (F0 m 50 ls [.int (i3 (t0))]) := by
    intro M t0 hf ht0 H locs ls hW hS hl
    unfold fL_law_j50 at hf
    refine lv_istore_n (lv' := [(2, .int (i3 (t0))), (0, .ref (gA G (89))), (1, .ref (gA G (0)))]) hx hb dL_law_50 rfl hl (by decide) rfl (fun ls hl => ?_)
    refine k_const hx hb dL_law_51 ?_
    refine lv_istore_n (lv' := [(3, .int (i3 (0))), (2, .int (i3 (t0))), (0, .ref (gA G (89))), (1, .ref (gA G (0)))]) hx hb dL_law_52 rfl hl (by decide) rfl (fun ls hl => ?_)
    obtain ⟨q23, hq23, hf⟩ := bind_el hf
    refine L22 (t0) ht0 (0, M) q23 hq23 ?_ (show inR (0) by decide) _ _ _ hW hS (lv_sub hl [2, 3, 1, 0] rfl)
    clear hq23
    rcases q23 with w24 | w25
    · dsimp only at hf
      intro  H locs ls hW hS hl
      refine lv_aload_n hx hb dL_law_94 rfl (lv_at hl 0 rfl) ?_
      obtain ⟨q26, hq26, hf⟩ := bind_el hf
      refine k_cSz (As := [.ref (gA G (0))]) (rest := []) ⟨hx, hb, hml, hown, hts⟩ (mL_isFit l G w24 q26 hq26) (va_cwS 1 hts (gbS.law (inB_20 _ (List.mem_of_getElem? (i := 17) rfl)) (inB_20 _ (List.mem_of_getElem? (i := 18) rfl)) (inB_7 _ (List.mem_of_getElem? (i := 22) rfl)) (inB_20 _ (List.mem_of_getElem? (i := 19) rfl))) rfl rfl rfl (by decide +kernel) ⟨Nat.le_of_ble_eq_true rfl, Nat.le_of_ble_eq_true rfl⟩) hW hS rfl hl.1 rfl (lv_room (Nat.le_of_ble_eq_true rfl)) dL_law_95 ⟨Nat.le_of_ble_eq_true rfl, Nat.le_of_ble_eq_true rfl⟩ (fun hv27 H locs hW hS => ?_)
      refine lv_istore_n (lv' := [(3, .int (i3 (q26.2))), (1, .ref (gA G (0)))]) hx hb dL_law_98 rfl hl (by decide) rfl (fun ls hl => ?_)
      refine lv_aload_n hx hb dL_law_99 rfl (lv_at hl 1 rfl) ?_
      obtain ⟨q28, hq28, hf⟩ := bind_el hf
      refine k_cVi (As := []) (rest := []) ⟨hx, hb, hml, hown, hts⟩ (mG_run l G q26.1 q28 hq28) (cwV 0 hts (gbV.law (inB_16 _ (List.mem_of_getElem? (i := 23) rfl)) (inB_17 _ (List.mem_of_getElem? (i := 0) rfl)) (inB_17 _ (List.mem_of_getElem? (i := 1) rfl)) (inB_1 _ (List.mem_of_getElem? (i := 2) rfl)) (inB_17 _ (List.mem_of_getElem? (i := 2) rfl))) rfl rfl rfl (by decide +kernel) ⟨Nat.le_of_ble_eq_true rfl, Nat.le_of_ble_eq_true rfl⟩) (rv_G hW) hW hS rfl hl.1 rfl (lv_room (Nat.le_of_ble_eq_true rfl)) dL_law_100 ⟨Nat.le_of_ble_eq_true rfl, Nat.le_of_ble_eq_true rfl⟩ (fun hv29 H locs hW hS => ?_)
      refine lv_pop hx hb dL_law_103 rfl ?_
      refine lv_aload_n hx hb dL_law_104 rfl (lv_at hl 1 rfl) ?_
      obtain ⟨q30, hq30, hf⟩ := bind_el hf
      refine k_cSl (As := [.ref (gA G (0))]) (rest := []) ⟨hx, hb, hml, hown, hts⟩ (mL_digest l G q28.1 q30 hq30) (va_cwS 1 hts (gbS.law (inB_7 _ (List.mem_of_getElem? (i := 20) rfl)) (inB_7 _ (List.mem_of_getElem? (i := 21) rfl)) (inB_7 _ (List.mem_of_getElem? (i := 22) rfl)) (inB_7 _ (List.mem_of_getElem? (i := 23) rfl))) rfl rfl rfl (by decide +kernel) ⟨Nat.le_of_ble_eq_true rfl, Nat.le_of_ble_eq_true rfl⟩) hW hS rfl hl.1 rfl (lv_room (Nat.le_of_ble_eq_true rfl)) dL_law_105 ⟨Nat.le_of_ble_eq_true rfl, Nat.le_of_ble_eq_true rfl⟩ (fun H locs hW hS => ?_)
      refine lv_lstore (lv' := [(4, .long (q30)), (3, .int (i3 (q26.2))), (1, .ref (gA G (0)))]) hx hb dL_law_108 hl (by decide) rfl (fun ls hl => ?_)
      refine lv_aload_n hx hb dL_law_110 rfl (lv_at hl 2 rfl) ?_
      obtain ⟨q32, hq32, hf⟩ := bind_el hf
      refine k_cVi (As := []) (rest := []) ⟨hx, hb, hml, hown, hts⟩ (mG_save l G q28.1 q32 hq32) (cwV 0 hts (gbV.law (inB_19 _ (List.mem_of_getElem? (i := 20) rfl)) (inB_19 _ (List.mem_of_getElem? (i := 21) rfl)) (inB_19 _ (List.mem_of_getElem? (i := 22) rfl)) (inB_1 _ (List.mem_of_getElem? (i := 2) rfl)) (inB_19 _ (List.mem_of_getElem? (i := 23) rfl))) rfl rfl rfl (by decide +kernel) ⟨Nat.le_of_ble_eq_true rfl, Nat.le_of_ble_eq_true rfl⟩) (rv_G hW) hW hS rfl hl.1 rfl (lv_room (Nat.le_of_ble_eq_true rfl)) dL_law_111 ⟨Nat.le_of_ble_eq_true rfl, Nat.le_of_ble_eq_true rfl⟩ (fun hv33 H locs hW hS => ?_)
      refine lv_istore (lv' := [(6, .int (i3 (q32.2))), (4, .long (q30)), (3, .int (i3 (q26.2))), (1, .ref (gA G (0)))]) hx hb dL_law_114 hl (by decide) rfl (fun ls hl => ?_)
      refine k_const hx hb dL_law_116 ?_
      refine lv_istore (lv' := [(7, .int (i3 (0))), (6, .int (i3 (q32.2))), (4, .long (q30)), (3, .int (i3 (q26.2))), (1, .ref (gA G (0)))]) hx hb dL_law_117 hl (by decide) rfl (fun ls hl => ?_)
      obtain ⟨q50, hq50, hf⟩ := bind_el hf
      refine L49 (q30) (q32.2) hv33 (q26.2, 0, q32.1) q50 hq50 ?_ (inR_z hv27) (show inR (0) by decide) _ _ _ hW hS (lv_sub hl [4, 3, 2, 1, 0] rfl)
      intro hv51 H locs ls hW hS hl
      refine k_const hx hb dL_law_180 ?_
      refine lv_istore (lv' := [(7, .int (i3 (0))), (1, .ref (gA G (0))), (3, .int (i3 (q50.1))), (4, .long (q30)), (6, .int (i3 (q32.2)))]) hx hb dL_law_181 hl (by decide) rfl (fun ls hl => ?_)
      obtain ⟨q76, hq76, hf⟩ := bind_el hf
      refine L75 (q30) (q32.2) hv33 (q50.1, 0, q50.2) q76 hq76 ?_ hv51 (show inR (0) by decide) _ _ _ hW hS (lv_sub hl [1, 2, 3, 4, 0] rfl)
      intro hv77 H locs ls hW hS hl
      refine k_const hx hb dL_law_272 ?_
      refine lv_istore (lv' := [(7, .int (i3 (0))), (1, .ref (gA G (0))), (3, .int (i3 (q76.1))), (4, .long (q30)), (6, .int (i3 (q32.2)))]) hx hb dL_law_273 hl (by decide) rfl (fun ls hl => ?_)
      obtain ⟨q105, hq105, hf⟩ := bind_el hf
      refine L104 (q30) (q32.2) hv33 (q76.1, 0, q76.2) q105 hq105 ?_ hv77 (show inR (0) by decide) _ _ _ hW hS (lv_sub hl [1, 2, 3, 4, 0] rfl)
      intro hv106 H locs ls hW hS hl
      refine lv_iload_n hx hb dL_law_369 rfl (lv_at hl 1 rfl) ?_
      refine k_if_eq (tgt := 405) hx hb hv106 dL_law_370 (by decide) (fun hc107 => ?_) (fun hc107 => ?_)
      · rw [if_pos hc107] at hf
        refine k_const hx hb dL_law_405 ?_
        obtain rfl := some_el hf
        exact hend _ _ _ _ _ _ hr1 hW hS dL_law_406
      · rw [if_neg hc107] at hf
        refine lv_aload_n hx hb dL_law_373 rfl (lv_at hl 0 rfl) ?_
        obtain ⟨q108, hq108, hf⟩ := bind_el hf
        refine k_cVi (As := []) (rest := []) ⟨hx, hb, hml, hown, hts⟩ (mG_restore l G q105.2 q108 hq108) (cwV 0 hts (gbV.law (inB_20 _ (List.mem_of_getElem? (i := 0) rfl)) (inB_20 _ (List.mem_of_getElem? (i := 1) rfl)) (inB_20 _ (List.mem_of_getElem? (i := 2) rfl)) (inB_1 _ (List.mem_of_getElem? (i := 2) rfl)) (inB_20 _ (List.mem_of_getElem? (i := 3) rfl))) rfl rfl rfl (by decide +kernel) ⟨Nat.le_of_ble_eq_true rfl, Nat.le_of_ble_eq_true rfl⟩) (rv_G hW) hW hS rfl hl.1 rfl (lv_room (Nat.le_of_ble_eq_true rfl)) dL_law_374 ⟨Nat.le_of_ble_eq_true rfl, Nat.le_of_ble_eq_true rfl⟩ (fun hv109 H locs hW hS => ?_)
        refine lv_iload hx hb dL_law_377 (lv_at hl 3 rfl) ?_
        refine k_icmp_ne (tgt := 405) hx hb hv109 hv33 dL_law_379 (by decide) (fun hc110 => ?_) (fun hc110 => ?_)
        · rw [if_neg hc110] at hf
          refine k_const hx hb dL_law_405 ?_
          obtain rfl := some_el hf
          exact hend _ _ _ _ _ _ hr1 hW hS dL_law_406
        · rw [if_pos hc110] at hf
          refine lv_aload_n hx hb dL_law_382 rfl (lv_at hl 0 rfl) ?_
          obtain ⟨q111, hq111, hf⟩ := bind_el hf
          refine k_cSl (As := [.ref (gA G (0))]) (rest := []) ⟨hx, hb, hml, hown, hts⟩ (mL_digest l G q108.1 q111 hq111) (va_cwS 1 hts (gbS.law (inB_7 _ (List.mem_of_getElem? (i := 20) rfl)) (inB_7 _ (List.mem_of_getElem? (i := 21) rfl)) (inB_7 _ (List.mem_of_getElem? (i := 22) rfl)) (inB_7 _ (List.mem_of_getElem? (i := 23) rfl))) rfl rfl rfl (by decide +kernel) ⟨Nat.le_of_ble_eq_true rfl, Nat.le_of_ble_eq_true rfl⟩) hW hS rfl hl.1 rfl (lv_room (Nat.le_of_ble_eq_true rfl)) dL_law_383 ⟨Nat.le_of_ble_eq_true rfl, Nat.le_of_ble_eq_true rfl⟩ (fun H locs hW hS => ?_)
          refine lv_lload hx hb dL_law_386 (lv_at hl 2 rfl) ?_
          refine k_lcmp hx hb dL_law_388 ?_
          refine k_if_ne (tgt := 405) hx hb (inR_toInt _) dL_law_389 (by decide) (fun hc113 => ?_) (fun hc113 => ?_)
          · rw [if_neg hc113] at hf
            refine k_const hx hb dL_law_405 ?_
            obtain rfl := some_el hf
            exact hend _ _ _ _ _ _ hr1 hW hS dL_law_406
          · rw [if_pos hc113] at hf
            refine lv_aload_n hx hb dL_law_392 rfl (lv_at hl 0 rfl) ?_
            obtain ⟨q114, hq114, hf⟩ := bind_el hf
            refine k_cVi (As := []) (rest := []) ⟨hx, hb, hml, hown, hts⟩ (mG_undo l G q108.1 q114 hq114) (cwV 0 hts (gbV.law (inB_20 _ (List.mem_of_getElem? (i := 8) rfl)) (inB_20 _ (List.mem_of_getElem? (i := 9) rfl)) (inB_20 _ (List.mem_of_getElem? (i := 10) rfl)) (inB_1 _ (List.mem_of_getElem? (i := 2) rfl)) (inB_20 _ (List.mem_of_getElem? (i := 11) rfl))) rfl rfl rfl (by decide +kernel) ⟨Nat.le_of_ble_eq_true rfl, Nat.le_of_ble_eq_true rfl⟩) (rv_G hW) hW hS rfl hl.1 rfl (lv_room (Nat.le_of_ble_eq_true rfl)) dL_law_393 ⟨Nat.le_of_ble_eq_true rfl, Nat.le_of_ble_eq_true rfl⟩ (fun hv115 H locs hW hS => ?_)
            refine k_bipush hx hb dL_law_396 (by decide +kernel) ?_
            refine k_icmp_ne (tgt := 405) hx hb hv115 (show inR (-15) by decide) dL_law_398 (by decide) (fun hc116 => ?_) (fun hc116 => ?_)
            · rw [if_neg hc116] at hf
              refine k_const hx hb dL_law_405 ?_
              obtain rfl := some_el hf
              exact hend _ _ _ _ _ _ hr1 hW hS dL_law_406
            · rw [if_pos hc116] at hf
              refine k_const hx hb dL_law_401 ?_
              refine lv_goto (tgt := 406) hx hb dL_law_402 (by decide) ?_
              obtain rfl := some_el hf
              exact hend _ _ _ _ _ _ hr1 hW hS dL_law_406
    · dsimp only at hf
      exact some_el hf
  refine lv_astore_n (lv' := [(1, .ref (gA G (0))), (0, .ref (gA G (89)))]) hx hb dL_law_7 rfl hl (by decide) rfl (fun ls hl => ?_)
  refine lv_aload_n hx hb dL_law_8 rfl (lv_at hl 0 rfl) ?_
  refine k_const hx hb dL_law_9 ?_
  refine k_const hx hb dL_law_10 ?_
  refine k_bipush hx hb dL_law_11 (by decide +kernel) ?_
  obtain ⟨q1, hq1, hf⟩ := bind_el hf
  refine k_cVi (As := [.int (i3 (0)), .int (i3 (0)), .int (i3 (90))]) (rest := []) ⟨hx, hb, hml, hown, hts⟩ (mG_store l G M0 0 (show inR (0) by decide) 0 (show inR (0) by decide) 90 (show inR (90) by decide) q1 hq1) (cwV 3 hts (gbV.law (inB_3 _ (List.mem_of_getElem? (i := 18) rfl)) (inB_3 _ (List.mem_of_getElem? (i := 19) rfl)) (inB_3 _ (List.mem_of_getElem? (i := 20) rfl)) (inB_1 _ (List.mem_of_getElem? (i := 2) rfl)) (inB_3 _ (List.mem_of_getElem? (i := 21) rfl))) rfl rfl rfl (by decide +kernel) ⟨Nat.le_of_ble_eq_true rfl, Nat.le_of_ble_eq_true rfl⟩) (rv_G hW) hW hS rfl hl.1 rfl (lv_room (Nat.le_of_ble_eq_true rfl)) dL_law_13 ⟨Nat.le_of_ble_eq_true rfl, Nat.le_of_ble_eq_true rfl⟩ (fun hv2 H locs hW hS => ?_)
  refine lv_pop hx hb dL_law_16 rfl ?_
  refine lv_aload_n hx hb dL_law_17 rfl (lv_at hl 0 rfl) ?_
  refine k_const hx hb dL_law_18 ?_
  refine k_const hx hb dL_law_19 ?_
  refine k_sipush hx hb dL_law_20 (by decide +kernel) ?_
  obtain ⟨q3, hq3, hf⟩ := bind_el hf
  refine k_cVi (As := [.int (i3 (1)), .int (i3 (1)), .int (i3 (150))]) (rest := []) ⟨hx, hb, hml, hown, hts⟩ (mG_store l G q1.1 1 (show inR (1) by decide) 1 (show inR (1) by decide) 150 (show inR (150) by decide) q3 hq3) (cwV 3 hts (gbV.law (inB_3 _ (List.mem_of_getElem? (i := 18) rfl)) (inB_3 _ (List.mem_of_getElem? (i := 19) rfl)) (inB_3 _ (List.mem_of_getElem? (i := 20) rfl)) (inB_1 _ (List.mem_of_getElem? (i := 2) rfl)) (inB_3 _ (List.mem_of_getElem? (i := 21) rfl))) rfl rfl rfl (by decide +kernel) ⟨Nat.le_of_ble_eq_true rfl, Nat.le_of_ble_eq_true rfl⟩) (rv_G hW) hW hS rfl hl.1 rfl (lv_room (Nat.le_of_ble_eq_true rfl)) dL_law_23 ⟨Nat.le_of_ble_eq_true rfl, Nat.le_of_ble_eq_true rfl⟩ (fun hv4 H locs hW hS => ?_)
  refine lv_pop hx hb dL_law_26 rfl ?_
  refine lv_aload_n hx hb dL_law_27 rfl (lv_at hl 0 rfl) ?_
  refine k_const hx hb dL_law_28 ?_
  refine k_const hx hb dL_law_29 ?_
  refine k_bipush hx hb dL_law_30 (by decide +kernel) ?_
  obtain ⟨q5, hq5, hf⟩ := bind_el hf
  refine k_cVi (As := [.int (i3 (5)), .int (i3 (2)), .int (i3 (40))]) (rest := []) ⟨hx, hb, hml, hown, hts⟩ (mG_store l G q3.1 5 (show inR (5) by decide) 2 (show inR (2) by decide) 40 (show inR (40) by decide) q5 hq5) (cwV 3 hts (gbV.law (inB_3 _ (List.mem_of_getElem? (i := 18) rfl)) (inB_3 _ (List.mem_of_getElem? (i := 19) rfl)) (inB_3 _ (List.mem_of_getElem? (i := 20) rfl)) (inB_1 _ (List.mem_of_getElem? (i := 2) rfl)) (inB_3 _ (List.mem_of_getElem? (i := 21) rfl))) rfl rfl rfl (by decide +kernel) ⟨Nat.le_of_ble_eq_true rfl, Nat.le_of_ble_eq_true rfl⟩) (rv_G hW) hW hS rfl hl.1 rfl (lv_room (Nat.le_of_ble_eq_true rfl)) dL_law_32 ⟨Nat.le_of_ble_eq_true rfl, Nat.le_of_ble_eq_true rfl⟩ (fun hv6 H locs hW hS => ?_)
  refine lv_pop hx hb dL_law_35 rfl ?_
  refine lv_aload_n hx hb dL_law_36 rfl (lv_at hl 1 rfl) ?_
  refine k_tlen (v := (gL G : Nat)) hx hb hW.S.2.2.2.1 rfl dL_law_37 ?_
  refine k_bipush hx hb dL_law_38 (by decide +kernel) ?_
  refine k_icmp_ge (tgt := 48) hx hb hW.X.1 (show inR (44) by decide) dL_law_40 (by decide) (fun hc7 => ?_) (fun hc7 => ?_)
  · rw [if_neg hc7] at hf
    refine k_bipush hx hb dL_law_48 (by decide +kernel) ?_
    exact J8 (q5.1) (44) hf (show inR (44) by decide) _ _ _ hW hS (lv_sub hl [1, 0] rfl)
  · rw [if_pos hc7] at hf
    refine lv_aload_n hx hb dL_law_43 rfl (lv_at hl 1 rfl) ?_
    refine k_tlen (v := (gL G : Nat)) hx hb hW.S.2.2.2.1 rfl dL_law_44 ?_
    refine lv_goto (tgt := 50) hx hb dL_law_45 (by decide) ?_
    exact J8 (q5.1) (((gL G : Nat) : Int)) hf hW.X.1 _ _ _ hW hS (lv_sub hl [1, 0] rfl)
