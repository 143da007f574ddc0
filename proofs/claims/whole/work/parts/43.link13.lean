section LINKS
variable {p : Program} {l : Launch} {e : Env} {s : State} {m : MethodId} {args : Array Value} {below : List Frame} {meth : Method} {c : Code} {G : wG}
theorem k_X12_cut_179 {Q : hp → Prop} {X7 : Int32 × hp → Prop} {x1 : Int32} {x3 : Int32} {x4 : Int64} {x6 : Int32} {h : hp} (C : kC p s m args meth c cX12_cut 8 none RX12 wUX12_cut) (hK : kK G s) (hX7 : ∀ (x1 : Int32) (h : hp) (H : Heap) (locs : List Loc) (ls : Array Slot), kW SM G h (aS SM G) s H locs → lv_has ls 8 [(0, .ref (G.2.2 0)), (1, .int x1)] → X7 (x1, h) → W p l e rmX12_cut s m args below meth c H locs 0 0 (MQ below (va_Qv Q (kB SM G) (aS SM G)) args s 0 0 (aS SM G)) (F0 m 7 ls [])) {H : Heap} {locs : List Loc} {ls : Array Slot} (hW : kW SM G h (aS SM G) s H locs) (hl : lv_has ls 8 [(0, .ref (G.2.2 0)), (1, .int x1), (3, .int x3), (4, .long x4), (6, .int x6)]) (hq : w_X12_cut_179 Q X7 x1 x3 x4 x6 h) : W p l e rmX12_cut s m args below meth c H locs 0 0 (MQ below (va_Qv Q (kB SM G) (aS SM G)) args s 0 0 (aS SM G)) (F0 m 179 ls []) := by
  have hx := C.1
  have hb := C.2.1
  unfold w_X12_cut_179 at hq
  refine lv_aload_n hx hb dX12_cut_179 rfl (lv_at hl 0 rfl) ?_
  refine lv_iload hx hb dX12_cut_180 (lv_at hl 4 rfl) ?_
  refine lv_iload_n hx hb dX12_cut_182 rfl (lv_at hl 1 rfl) ?_
  refine lv_iconst (v := 0) hx hb dX12_cut_183 (by decide) ?_
  refine lv_lload hx hb dX12_cut_184 (lv_at hl 3 rfl) ?_
  refine k_cv hW (va_runV (As := [.int x6, .int x1, .int 0, .long x4]) (rest := []) (k_fix C) (c_X12_token l G h x6 x1 0 x4 _ hq) (cwV 4 C.2.2.2.2.2.1 (gU_V mw628 mw629 mw630 mw5 mw631) rfl rfl rfl (by decide +kernel) ⟨Nat.le_of_ble_eq_true rfl, Nat.le_of_ble_eq_true rfl⟩) (k_preV hK hW (shM_lt (rfl : shM 0 = 12) (by decide)) (ceM_12 (rfl : shM 0 = 12)) (q := (RX12, TX12, 73)) rfl) rfl rfl hl.1 rfl (lv_room (Nat.le_of_ble_eq_true rfl)) dX12_cut_186 ⟨Nat.le_refl 0, Nat.le_refl 0⟩) (fun h45 H locs hq hW => ?_)
  refine lv_iload_n hx hb dX12_cut_189 rfl (lv_at hl 1 rfl) ?_
  refine lv_iload_n hx hb dX12_cut_190 rfl (lv_at hl 2 rfl) ?_
  refine lv_iadd hx hb dX12_cut_191 ?_
  refine lv_topi (fun x1_46 ex1_46 => ?_)
  have hq := hq x1_46 ex1_46
  refine lv_istore_n (lv' := [(1, .int x1_46), (0, .ref (G.2.2 0)), (3, .int x3), (4, .long x4), (6, .int x6)]) hx hb dX12_cut_192 rfl hl (by decide) rfl (fun ls hl => ?_)
  refine lv_goto (tgt := 291) hx hb dX12_cut_193 (by decide) ?_
  refine lv_goto (tgt := 7) hx hb dX12_cut_291 (by decide) ?_
  exact hX7 _ _ _ _ _ hW (lv_sub hl [1, 0] rfl) hq
theorem k_X12_cut_b146 {Q : hp → Prop} {X7 : Int32 × hp → Prop} {X146 : Int32 × Int32 → Prop} {x1 : Int32} {x3 : Int32} {x4 : Int64} {h : hp} (C : kC p s m args meth c cX12_cut 8 none RX12 wUX12_cut) (hK : kK G s) (hX7 : ∀ (x1 : Int32) (h : hp) (H : Heap) (locs : List Loc) (ls : Array Slot), kW SM G h (aS SM G) s H locs → lv_has ls 8 [(0, .ref (G.2.2 0)), (1, .int x1)] → X7 (x1, h) → W p l e rmX12_cut s m args below meth c H locs 0 0 (MQ below (va_Qv Q (kB SM G) (aS SM G)) args s 0 0 (aS SM G)) (F0 m 7 ls [])) (hX146 : ∀ (x6 : Int32) (x7 : Int32) (H : Heap) (locs : List Loc) (ls : Array Slot), kW SM G h (aS SM G) s H locs → lv_has ls 8 [(0, .ref (G.2.2 0)), (1, .int x1), (3, .int x3), (4, .long x4), (6, .int x6), (7, .int x7)] → X146 (x6, x7) → W p l e rmX12_cut s m args below meth c H locs 0 0 (MQ below (va_Qv Q (kB SM G) (aS SM G)) args s 0 0 (aS SM G)) (F0 m 146 ls [])) {x6 : Int32} {x7 : Int32} {H : Heap} {locs : List Loc} {ls : Array Slot} (hW : kW SM G h (aS SM G) s H locs) (hl : lv_has ls 8 [(0, .ref (G.2.2 0)), (1, .int x1), (3, .int x3), (4, .long x4), (6, .int x6), (7, .int x7)]) (hq : w_X12_cut_b146 Q X7 x1 x3 x4 h X146 x6 x7) : W p l e rmX12_cut s m args below meth c H locs 0 0 (MQ below (va_Qv Q (kB SM G) (aS SM G)) args s 0 0 (aS SM G)) (F0 m 146 ls []) := by
  have hx := C.1
  have hb := C.2.1
  unfold w_X12_cut_b146 at hq
  refine lv_iload hx hb dX12_cut_146 (lv_at hl 5 rfl) ?_
  refine lv_bipush (v := 17) hx hb dX12_cut_148 (by decide) ?_
  refine lv_icmp_ge (tgt := 179) hx hb dX12_cut_150 (by decide) (fun c40 => ?_) (fun c40 => ?_)
  · have hq := hq.1 c40
    exact k_X12_cut_179 C hK hX7 hW (lv_sub hl [0, 1, 2, 3, 4] rfl) hq
  · have hq := hq.2 c40
    refine lv_aload_n hx hb dX12_cut_153 rfl (lv_at hl 0 rfl) ?_
    refine gt12_9 C hK hW (rfl : shM 0 = 12) (List.mem_cons_of_mem _ mw269) (fun _ h9 => List.mem_cons_of_mem _ (inU_wsX120 _ h9)) dX12_cut_154 ?_
    refine lv_iload hx hb dX12_cut_157 (lv_at hl 5 rfl) ?_
    refine k_lald C hK hW (shM_lt (rfl : shM 7 = 15) (by decide)) (ceM_15 (rfl : shM 7 = 15) (rfl : lnM 7 = 17)) hq.1 dX12_cut_159 ?_
    have hq := hq.2
    refine lv_lload hx hb dX12_cut_160 (lv_at hl 3 rfl) ?_
    refine W.lcmp hx hb dX12_cut_162 ?_
    refine lv_if_ne (tgt := 173) hx hb dX12_cut_163 (by decide) (fun c41 => ?_) (fun c41 => ?_)
    · have hq := hq.1 (fun z => c41 ((lg_cmp_eq _ _).mpr z))
      obtain ⟨x7_42, ex7_42⟩ : ∃ y : Int32, y = x7 + 1 := ⟨_, rfl⟩
      have hq := hq x7_42 ex7_42
      refine lv_iinc (v := x7_42) (lv' := [(7, .int x7_42), (0, .ref (G.2.2 0)), (1, .int x1), (3, .int x3), (4, .long x4), (6, .int x6)]) hx hb dX12_cut_173 hl (k := 5) rfl (by rw [ex7_42]; rfl) (by decide) rfl (fun ls hl => ?_)
      refine lv_goto (tgt := 146) hx hb dX12_cut_176 (by decide) ?_
      exact hX146 _ _ _ _ _ hW (lv_sub hl [1, 2, 3, 4, 5, 0] rfl) hq
    · have hq := hq.2 ((lg_cmp_eq _ _).mp c41)
      refine lv_bipush (v := 20) hx hb dX12_cut_166 (by decide) ?_
      refine lv_iload hx hb dX12_cut_168 (lv_at hl 5 rfl) ?_
      refine lv_iadd hx hb dX12_cut_170 ?_
      refine lv_topi (fun x6_43 ex6_43 => ?_)
      have hq := hq x6_43 ex6_43
      refine lv_istore (lv' := [(6, .int x6_43), (0, .ref (G.2.2 0)), (1, .int x1), (3, .int x3), (4, .long x4), (7, .int x7)]) hx hb dX12_cut_171 hl (by decide) rfl (fun ls hl => ?_)
      obtain ⟨x7_44, ex7_44⟩ : ∃ y : Int32, y = x7 + 1 := ⟨_, rfl⟩
      have hq := hq x7_44 ex7_44
      refine lv_iinc (v := x7_44) (lv' := [(7, .int x7_44), (6, .int x6_43), (0, .ref (G.2.2 0)), (1, .int x1), (3, .int x3), (4, .long x4)]) hx hb dX12_cut_173 hl (k := 5) rfl (by rw [ex7_44]; rfl) (by decide) rfl (fun ls hl => ?_)
      refine lv_goto (tgt := 146) hx hb dX12_cut_176 (by decide) ?_
      exact hX146 _ _ _ _ _ hW (lv_sub hl [2, 3, 4, 5, 1, 0] rfl) hq
theorem k_X12_cut_146 {Q : hp → Prop} {X7 : Int32 × hp → Prop} {x1 : Int32} {x3 : Int32} {x4 : Int64} {h : hp} (C : kC p s m args meth c cX12_cut 8 none RX12 wUX12_cut) (hK : kK G s) (hX7 : ∀ (x1 : Int32) (h : hp) (H : Heap) (locs : List Loc) (ls : Array Slot), kW SM G h (aS SM G) s H locs → lv_has ls 8 [(0, .ref (G.2.2 0)), (1, .int x1)] → X7 (x1, h) → W p l e rmX12_cut s m args below meth c H locs 0 0 (MQ below (va_Qv Q (kB SM G) (aS SM G)) args s 0 0 (aS SM G)) (F0 m 7 ls [])) {x6 : Int32} {x7 : Int32} {H : Heap} {locs : List Loc} {ls : Array Slot} (hW : kW SM G h (aS SM G) s H locs) (hl : lv_has ls 8 [(0, .ref (G.2.2 0)), (1, .int x1), (3, .int x3), (4, .long x4), (6, .int x6), (7, .int x7)]) (hq : w_X12_cut_146 Q X7 x1 x3 x4 h x6 x7) : W p l e rmX12_cut s m args below meth c H locs 0 0 (MQ below (va_Qv Q (kB SM G) (aS SM G)) args s 0 0 (aS SM G)) (F0 m 146 ls []) := by
  have key := hq (fun (q : Int32 × Int32) => ∀ (H : Heap) (locs : List Loc) (ls : Array Slot), kW SM G h (aS SM G) s H locs → lv_has ls 8 [(0, .ref (G.2.2 0)), (1, .int x1), (3, .int x3), (4, .long x4), (6, .int q.1), (7, .int q.2)] → W p l e rmX12_cut s m args below meth c H locs 0 0 (MQ below (va_Qv Q (kB SM G) (aS SM G)) args s 0 0 (aS SM G)) (F0 m 146 ls []))
    (fun q hq H locs ls hW hl => k_X12_cut_b146 C hK hX7 (fun x6 x7 H locs ls hW hl hI => hI H locs ls hW hl) hW hl hq)
  exact key _ _ _ hW hl
theorem k_X12_cut_135 {Q : hp → Prop} {X7 : Int32 × hp → Prop} {x1 : Int32} {x3 : Int32} {x4 : Int64} {h : hp} {s0 : Int32} (C : kC p s m args meth c cX12_cut 8 none RX12 wUX12_cut) (hK : kK G s) (hX7 : ∀ (x1 : Int32) (h : hp) (H : Heap) (locs : List Loc) (ls : Array Slot), kW SM G h (aS SM G) s H locs → lv_has ls 8 [(0, .ref (G.2.2 0)), (1, .int x1)] → X7 (x1, h) → W p l e rmX12_cut s m args below meth c H locs 0 0 (MQ below (va_Qv Q (kB SM G) (aS SM G)) args s 0 0 (aS SM G)) (F0 m 7 ls [])) {H : Heap} {locs : List Loc} {ls : Array Slot} (hW : kW SM G h (aS SM G) s H locs) (hl : lv_has ls 8 [(0, .ref (G.2.2 0)), (1, .int x1), (3, .int x3), (4, .long x4)]) (hq : w_X12_cut_135 Q X7 x1 x3 x4 h s0) : W p l e rmX12_cut s m args below meth c H locs 0 0 (MQ below (va_Qv Q (kB SM G) (aS SM G)) args s 0 0 (aS SM G)) (F0 m 135 ls [.int s0]) := by
  have hx := C.1
  have hb := C.2.1
  unfold w_X12_cut_135 at hq
  refine lv_istore (lv' := [(6, .int s0), (0, .ref (G.2.2 0)), (1, .int x1), (3, .int x3), (4, .long x4)]) hx hb dX12_cut_135 hl (by decide) rfl (fun ls hl => ?_)
  refine lv_iload_n hx hb dX12_cut_137 rfl (lv_at hl 3 rfl) ?_
  refine lv_bipush (v := 7) hx hb dX12_cut_138 (by decide) ?_
  refine lv_icmp_gt (tgt := 179) hx hb dX12_cut_140 (by decide) (fun c39 => ?_) (fun c39 => ?_)
  · have hq := hq.1 c39
    exact k_X12_cut_179 C hK hX7 hW (lv_sub hl [1, 2, 3, 4, 0] rfl) hq
  · have hq := hq.2 c39
    refine lv_iconst (v := 0) hx hb dX12_cut_143 (by decide) ?_
    refine lv_istore (lv' := [(7, .int 0), (6, .int s0), (0, .ref (G.2.2 0)), (1, .int x1), (3, .int x3), (4, .long x4)]) hx hb dX12_cut_144 hl (by decide) rfl (fun ls hl => ?_)
    exact k_X12_cut_146 C hK hX7 hW (lv_sub hl [2, 3, 4, 5, 1, 0] rfl) hq
theorem k_X12_cut_b85 {Q : hp → Prop} {X7 : Int32 × hp → Prop} {X85 : Int32 × Int64 → Prop} {x1 : Int32} {h : hp} (C : kC p s m args meth c cX12_cut 8 none RX12 wUX12_cut) (hK : kK G s) (hX7 : ∀ (x1 : Int32) (h : hp) (H : Heap) (locs : List Loc) (ls : Array Slot), kW SM G h (aS SM G) s H locs → lv_has ls 8 [(0, .ref (G.2.2 0)), (1, .int x1)] → X7 (x1, h) → W p l e rmX12_cut s m args below meth c H locs 0 0 (MQ below (va_Qv Q (kB SM G) (aS SM G)) args s 0 0 (aS SM G)) (F0 m 7 ls [])) (hX85 : ∀ (x3 : Int32) (x4 : Int64) (H : Heap) (locs : List Loc) (ls : Array Slot), kW SM G h (aS SM G) s H locs → lv_has ls 8 [(0, .ref (G.2.2 0)), (1, .int x1), (3, .int x3), (4, .long x4)] → X85 (x3, x4) → W p l e rmX12_cut s m args below meth c H locs 0 0 (MQ below (va_Qv Q (kB SM G) (aS SM G)) args s 0 0 (aS SM G)) (F0 m 85 ls [])) {x3 : Int32} {x4 : Int64} {H : Heap} {locs : List Loc} {ls : Array Slot} (hW : kW SM G h (aS SM G) s H locs) (hl : lv_has ls 8 [(0, .ref (G.2.2 0)), (1, .int x1), (3, .int x3), (4, .long x4)]) (hq : w_X12_cut_b85 Q X7 x1 h X85 x3 x4) : W p l e rmX12_cut s m args below meth c H locs 0 0 (MQ below (va_Qv Q (kB SM G) (aS SM G)) args s 0 0 (aS SM G)) (F0 m 85 ls []) := by
  have hx := C.1
  have hb := C.2.1
  unfold w_X12_cut_b85 at hq
  refine lv_aload_n hx hb dX12_cut_85 rfl (lv_at hl 0 rfl) ?_
  refine lv_iload_n hx hb dX12_cut_86 rfl (lv_at hl 1 rfl) ?_
  refine lv_iload_n hx hb dX12_cut_87 rfl (lv_at hl 2 rfl) ?_
  refine lv_iadd hx hb dX12_cut_88 ?_
  refine k_ci hW (va_runV (As := [.int (x1 + x3)]) (rest := []) (k_fix C) (c_X12_byteAt l G h (x1 + x3) _ hq) (cwV 1 C.2.2.2.2.2.1 (gU_V mw624 mw625 mw626 mw5 mw627) rfl rfl rfl (by decide +kernel) ⟨Nat.le_of_ble_eq_true rfl, Nat.le_of_ble_eq_true rfl⟩) (k_preV hK hW (shM_lt (rfl : shM 0 = 12) (by decide)) (ceM_12 (rfl : shM 0 = 12)) (q := (RX12, TX12, 73)) rfl) rfl rfl hl.1 rfl (lv_room (Nat.le_of_ble_eq_true rfl)) dX12_cut_89 ⟨Nat.le_refl 0, Nat.le_refl 0⟩) (fun r26 h27 H locs hq hW => ?_)
  rw [hq.1] at hW
  have hq := hq.2
  refine k_ci hW (va_runS (As := [.int r26]) (rest := []) (k_fix C) (c_X12_isLetter l G h r26 _ hq) (va_cwS 1 C.2.2.2.2.2.1 (gU_S mw632 mw633 mw5 mw634) rfl rfl rfl (by decide +kernel) ⟨Nat.le_of_ble_eq_true rfl, Nat.le_of_ble_eq_true rfl⟩) (k_preS hK hW) rfl rfl hl.1 rfl (lv_room (Nat.le_of_ble_eq_true rfl)) dX12_cut_92 ⟨Nat.le_refl 0, Nat.le_refl 0⟩) (fun r28 h29 H locs hq hW => ?_)
  rw [hq.1] at hW
  have hq := hq.2
  refine lv_if_eq (tgt := 124) hx hb dX12_cut_95 (by decide) (fun c30 => ?_) (fun c30 => ?_)
  · have hq := hq.1 c30
    refine lv_iload_n hx hb dX12_cut_124 rfl (lv_at hl 2 rfl) ?_
    refine lv_bipush (v := 8) hx hb dX12_cut_125 (by decide) ?_
    refine lv_icmp_le (tgt := 134) hx hb dX12_cut_127 (by decide) (fun c31 => ?_) (fun c31 => ?_)
    · have hq := hq.1 c31
      refine lv_iconst (v := 1) hx hb dX12_cut_134 (by decide) ?_
      exact k_X12_cut_135 C hK hX7 hW (lv_sub hl [0, 1, 2, 3] rfl) hq
    · have hq := hq.2 c31
      refine lv_iconst (v := 3) hx hb dX12_cut_130 (by decide) ?_
      refine lv_goto (tgt := 135) hx hb dX12_cut_131 (by decide) ?_
      exact k_X12_cut_135 C hK hX7 hW (lv_sub hl [0, 1, 2, 3] rfl) hq
  · have hq := hq.2 c30
    refine lv_iload_n hx hb dX12_cut_98 rfl (lv_at hl 2 rfl) ?_
    refine lv_bipush (v := 8) hx hb dX12_cut_99 (by decide) ?_
    refine lv_icmp_ge (tgt := 118) hx hb dX12_cut_101 (by decide) (fun c32 => ?_) (fun c32 => ?_)
    · have hq := hq.1 c32
      obtain ⟨x3_33, ex3_33⟩ : ∃ y : Int32, y = x3 + 1 := ⟨_, rfl⟩
      have hq := hq x3_33 ex3_33
      refine lv_iinc (v := x3_33) (lv' := [(3, .int x3_33), (0, .ref (G.2.2 0)), (1, .int x1), (4, .long x4)]) hx hb dX12_cut_118 hl (k := 2) rfl (by rw [ex3_33]; rfl) (by decide) rfl (fun ls hl => ?_)
      refine lv_goto (tgt := 85) hx hb dX12_cut_121 (by decide) ?_
      exact hX85 _ _ _ _ _ hW (lv_sub hl [1, 2, 0, 3] rfl) hq
    · have hq := hq.2 c32
      refine lv_lload hx hb dX12_cut_104 (lv_at hl 3 rfl) ?_
      refine lv_aload_n hx hb dX12_cut_106 rfl (lv_at hl 0 rfl) ?_
      refine lv_iload_n hx hb dX12_cut_107 rfl (lv_at hl 1 rfl) ?_
      refine lv_iload_n hx hb dX12_cut_108 rfl (lv_at hl 2 rfl) ?_
      refine lv_iadd hx hb dX12_cut_109 ?_
      refine k_ci hW (va_runV (As := [.int (x1 + x3)]) (rest := [.long x4]) (k_fix C) (c_X12_byteAt l G h (x1 + x3) _ hq) (cwV 1 C.2.2.2.2.2.1 (gU_V mw624 mw625 mw626 mw5 mw627) rfl rfl rfl (by decide +kernel) ⟨Nat.le_of_ble_eq_true rfl, Nat.le_of_ble_eq_true rfl⟩) (k_preV hK hW (shM_lt (rfl : shM 0 = 12) (by decide)) (ceM_12 (rfl : shM 0 = 12)) (q := (RX12, TX12, 73)) rfl) rfl rfl hl.1 rfl (lv_room (Nat.le_of_ble_eq_true rfl)) dX12_cut_110 ⟨Nat.le_refl 0, Nat.le_refl 0⟩) (fun r34 h35 H locs hq hW => ?_)
      rw [hq.1] at hW
      have hq := hq.2
      refine k_cl hW (va_runS (As := [.long x4, .int r34]) (rest := []) (k_fix C) (c_X12_appends l G h x4 r34 _ hq) (va_cwS 2 C.2.2.2.2.2.1 (gU_S mw322 mw323 mw5 mw324) rfl rfl rfl (by decide +kernel) ⟨Nat.le_of_ble_eq_true rfl, Nat.le_of_ble_eq_true rfl⟩) (k_preS hK hW) rfl rfl hl.1 rfl (lv_room (Nat.le_of_ble_eq_true rfl)) dX12_cut_113 ⟨Nat.le_refl 0, Nat.le_refl 0⟩) (fun r36 h37 H locs hq hW => ?_)
      rw [hq.1] at hW
      have hq := hq.2
      refine lv_lstore (lv' := [(4, .long r36), (0, .ref (G.2.2 0)), (1, .int x1), (3, .int x3)]) hx hb dX12_cut_116 hl (by decide) rfl (fun ls hl => ?_)
      obtain ⟨x3_38, ex3_38⟩ : ∃ y : Int32, y = x3 + 1 := ⟨_, rfl⟩
      have hq := hq x3_38 ex3_38
      refine lv_iinc (v := x3_38) (lv' := [(3, .int x3_38), (4, .long r36), (0, .ref (G.2.2 0)), (1, .int x1)]) hx hb dX12_cut_118 hl (k := 3) rfl (by rw [ex3_38]; rfl) (by decide) rfl (fun ls hl => ?_)
      refine lv_goto (tgt := 85) hx hb dX12_cut_121 (by decide) ?_
      exact hX85 _ _ _ _ _ hW (lv_sub hl [2, 3, 0, 1] rfl) hq
theorem k_X12_cut_85 {Q : hp → Prop} {X7 : Int32 × hp → Prop} {x1 : Int32} {h : hp} (C : kC p s m args meth c cX12_cut 8 none RX12 wUX12_cut) (hK : kK G s) (hX7 : ∀ (x1 : Int32) (h : hp) (H : Heap) (locs : List Loc) (ls : Array Slot), kW SM G h (aS SM G) s H locs → lv_has ls 8 [(0, .ref (G.2.2 0)), (1, .int x1)] → X7 (x1, h) → W p l e rmX12_cut s m args below meth c H locs 0 0 (MQ below (va_Qv Q (kB SM G) (aS SM G)) args s 0 0 (aS SM G)) (F0 m 7 ls [])) {x3 : Int32} {x4 : Int64} {H : Heap} {locs : List Loc} {ls : Array Slot} (hW : kW SM G h (aS SM G) s H locs) (hl : lv_has ls 8 [(0, .ref (G.2.2 0)), (1, .int x1), (3, .int x3), (4, .long x4)]) (hq : w_X12_cut_85 Q X7 x1 h x3 x4) : W p l e rmX12_cut s m args below meth c H locs 0 0 (MQ below (va_Qv Q (kB SM G) (aS SM G)) args s 0 0 (aS SM G)) (F0 m 85 ls []) := by
  have key := hq (fun (q : Int32 × Int64) => ∀ (H : Heap) (locs : List Loc) (ls : Array Slot), kW SM G h (aS SM G) s H locs → lv_has ls 8 [(0, .ref (G.2.2 0)), (1, .int x1), (3, .int q.1), (4, .long q.2)] → W p l e rmX12_cut s m args below meth c H locs 0 0 (MQ below (va_Qv Q (kB SM G) (aS SM G)) args s 0 0 (aS SM G)) (F0 m 85 ls []))
    (fun q hq H locs ls hW hl => k_X12_cut_b85 C hK hX7 (fun x3 x4 H locs ls hW hl hI => hI H locs ls hW hl) hW hl hq)
  exact key _ _ _ hW hl
theorem k_X12_cut_261 {Q : hp → Prop} {X7 : Int32 × hp → Prop} {x1 : Int32} {x3 : Int32} {x4 : Int32} {h : hp} {s0 : Int32} (C : kC p s m args meth c cX12_cut 8 none RX12 wUX12_cut) (hK : kK G s) (hX7 : ∀ (x1 : Int32) (h : hp) (H : Heap) (locs : List Loc) (ls : Array Slot), kW SM G h (aS SM G) s H locs → lv_has ls 8 [(0, .ref (G.2.2 0)), (1, .int x1)] → X7 (x1, h) → W p l e rmX12_cut s m args below meth c H locs 0 0 (MQ below (va_Qv Q (kB SM G) (aS SM G)) args s 0 0 (aS SM G)) (F0 m 7 ls [])) {H : Heap} {locs : List Loc} {ls : Array Slot} (hW : kW SM G h (aS SM G) s H locs) (hl : lv_has ls 8 [(0, .ref (G.2.2 0)), (1, .int x1), (3, .int x3), (4, .int x4)]) (hq : w_X12_cut_261 Q X7 x1 x3 x4 h s0) : W p l e rmX12_cut s m args below meth c H locs 0 0 (MQ below (va_Qv Q (kB SM G) (aS SM G)) args s 0 0 (aS SM G)) (F0 m 261 ls [.int s0, .ref (G.2.2 0)]) := by
  have hx := C.1
  have hb := C.2.1
  unfold w_X12_cut_261 at hq
  refine lv_iload_n hx hb dX12_cut_261 rfl (lv_at hl 1 rfl) ?_
  refine lv_iload hx hb dX12_cut_262 (lv_at hl 3 rfl) ?_
  refine lv_lconst (v := 0) hx hb dX12_cut_264 (by decide) ?_
  refine k_cv hW (va_runV (As := [.int s0, .int x1, .int x4, .long 0]) (rest := []) (k_fix C) (c_X12_token l G h s0 x1 x4 0 _ hq) (cwV 4 C.2.2.2.2.2.1 (gU_V mw628 mw629 mw630 mw5 mw631) rfl rfl rfl (by decide +kernel) ⟨Nat.le_of_ble_eq_true rfl, Nat.le_of_ble_eq_true rfl⟩) (k_preV hK hW (shM_lt (rfl : shM 0 = 12) (by decide)) (ceM_12 (rfl : shM 0 = 12)) (q := (RX12, TX12, 73)) rfl) rfl rfl hl.1 rfl (lv_room (Nat.le_of_ble_eq_true rfl)) dX12_cut_265 ⟨Nat.le_refl 0, Nat.le_refl 0⟩) (fun h59 H locs hq hW => ?_)
  refine lv_iload_n hx hb dX12_cut_268 rfl (lv_at hl 1 rfl) ?_
  refine lv_iload_n hx hb dX12_cut_269 rfl (lv_at hl 2 rfl) ?_
  refine lv_iadd hx hb dX12_cut_270 ?_
  refine lv_topi (fun x1_60 ex1_60 => ?_)
  have hq := hq x1_60 ex1_60
  refine lv_istore_n (lv' := [(1, .int x1_60), (0, .ref (G.2.2 0)), (3, .int x3), (4, .int x4)]) hx hb dX12_cut_271 rfl hl (by decide) rfl (fun ls hl => ?_)
  refine lv_goto (tgt := 291) hx hb dX12_cut_272 (by decide) ?_
  refine lv_goto (tgt := 7) hx hb dX12_cut_291 (by decide) ?_
  exact hX7 _ _ _ _ _ hW (lv_sub hl [1, 0] rfl) hq
theorem k_X12_cut_b208 {Q : hp → Prop} {X7 : Int32 × hp → Prop} {X208 : Int32 × Int32 → Prop} {x1 : Int32} {h : hp} (C : kC p s m args meth c cX12_cut 8 none RX12 wUX12_cut) (hK : kK G s) (hX7 : ∀ (x1 : Int32) (h : hp) (H : Heap) (locs : List Loc) (ls : Array Slot), kW SM G h (aS SM G) s H locs → lv_has ls 8 [(0, .ref (G.2.2 0)), (1, .int x1)] → X7 (x1, h) → W p l e rmX12_cut s m args below meth c H locs 0 0 (MQ below (va_Qv Q (kB SM G) (aS SM G)) args s 0 0 (aS SM G)) (F0 m 7 ls [])) (hX208 : ∀ (x3 : Int32) (x4 : Int32) (H : Heap) (locs : List Loc) (ls : Array Slot), kW SM G h (aS SM G) s H locs → lv_has ls 8 [(0, .ref (G.2.2 0)), (1, .int x1), (3, .int x3), (4, .int x4)] → X208 (x3, x4) → W p l e rmX12_cut s m args below meth c H locs 0 0 (MQ below (va_Qv Q (kB SM G) (aS SM G)) args s 0 0 (aS SM G)) (F0 m 208 ls [])) {x3 : Int32} {x4 : Int32} {H : Heap} {locs : List Loc} {ls : Array Slot} (hW : kW SM G h (aS SM G) s H locs) (hl : lv_has ls 8 [(0, .ref (G.2.2 0)), (1, .int x1), (3, .int x3), (4, .int x4)]) (hq : w_X12_cut_b208 Q X7 x1 h X208 x3 x4) : W p l e rmX12_cut s m args below meth c H locs 0 0 (MQ below (va_Qv Q (kB SM G) (aS SM G)) args s 0 0 (aS SM G)) (F0 m 208 ls []) := by
  have hx := C.1
  have hb := C.2.1
  unfold w_X12_cut_b208 at hq
  refine lv_aload_n hx hb dX12_cut_208 rfl (lv_at hl 0 rfl) ?_
  refine lv_iload_n hx hb dX12_cut_209 rfl (lv_at hl 1 rfl) ?_
  refine lv_iload_n hx hb dX12_cut_210 rfl (lv_at hl 2 rfl) ?_
  refine lv_iadd hx hb dX12_cut_211 ?_
  refine k_ci hW (va_runV (As := [.int (x1 + x3)]) (rest := []) (k_fix C) (c_X12_byteAt l G h (x1 + x3) _ hq) (cwV 1 C.2.2.2.2.2.1 (gU_V mw624 mw625 mw626 mw5 mw627) rfl rfl rfl (by decide +kernel) ⟨Nat.le_of_ble_eq_true rfl, Nat.le_of_ble_eq_true rfl⟩) (k_preV hK hW (shM_lt (rfl : shM 0 = 12) (by decide)) (ceM_12 (rfl : shM 0 = 12)) (q := (RX12, TX12, 73)) rfl) rfl rfl hl.1 rfl (lv_room (Nat.le_of_ble_eq_true rfl)) dX12_cut_212 ⟨Nat.le_refl 0, Nat.le_refl 0⟩) (fun r47 h48 H locs hq hW => ?_)
  rw [hq.1] at hW
  have hq := hq.2
  refine k_ci hW (va_runS (As := [.int r47]) (rest := []) (k_fix C) (c_X12_isDigit l G h r47 _ hq) (va_cwS 1 C.2.2.2.2.2.1 (gU_S mw635 mw636 mw5 mw637) rfl rfl rfl (by decide +kernel) ⟨Nat.le_of_ble_eq_true rfl, Nat.le_of_ble_eq_true rfl⟩) (k_preS hK hW) rfl rfl hl.1 rfl (lv_room (Nat.le_of_ble_eq_true rfl)) dX12_cut_215 ⟨Nat.le_refl 0, Nat.le_refl 0⟩) (fun r49 h50 H locs hq hW => ?_)
  rw [hq.1] at hW
  have hq := hq.2
  refine lv_if_eq (tgt := 250) hx hb dX12_cut_218 (by decide) (fun c51 => ?_) (fun c51 => ?_)
  · have hq := hq.1 c51
    refine lv_aload_n hx hb dX12_cut_250 rfl (lv_at hl 0 rfl) ?_
    refine lv_iload_n hx hb dX12_cut_251 rfl (lv_at hl 2 rfl) ?_
    refine lv_iconst (v := 4) hx hb dX12_cut_252 (by decide) ?_
    refine lv_icmp_le (tgt := 260) hx hb dX12_cut_253 (by decide) (fun c52 => ?_) (fun c52 => ?_)
    · have hq := hq.1 c52
      refine lv_iconst (v := 2) hx hb dX12_cut_260 (by decide) ?_
      exact k_X12_cut_261 C hK hX7 hW (lv_sub hl [0, 1, 2, 3] rfl) hq
    · have hq := hq.2 c52
      refine lv_iconst (v := 3) hx hb dX12_cut_256 (by decide) ?_
      refine lv_goto (tgt := 261) hx hb dX12_cut_257 (by decide) ?_
      exact k_X12_cut_261 C hK hX7 hW (lv_sub hl [0, 1, 2, 3] rfl) hq
  · have hq := hq.2 c51
    refine lv_iload_n hx hb dX12_cut_221 rfl (lv_at hl 2 rfl) ?_
    refine lv_iconst (v := 4) hx hb dX12_cut_222 (by decide) ?_
    refine lv_icmp_ge (tgt := 244) hx hb dX12_cut_223 (by decide) (fun c53 => ?_) (fun c53 => ?_)
    · have hq := hq.1 c53
      obtain ⟨x3_54, ex3_54⟩ : ∃ y : Int32, y = x3 + 1 := ⟨_, rfl⟩
      have hq := hq x3_54 ex3_54
      refine lv_iinc (v := x3_54) (lv' := [(3, .int x3_54), (0, .ref (G.2.2 0)), (1, .int x1), (4, .int x4)]) hx hb dX12_cut_244 hl (k := 2) rfl (by rw [ex3_54]; rfl) (by decide) rfl (fun ls hl => ?_)
      refine lv_goto (tgt := 208) hx hb dX12_cut_247 (by decide) ?_
      exact hX208 _ _ _ _ _ hW (lv_sub hl [1, 2, 0, 3] rfl) hq
    · have hq := hq.2 c53
      refine lv_bipush (v := 10) hx hb dX12_cut_226 (by decide) ?_
      refine lv_iload hx hb dX12_cut_228 (lv_at hl 3 rfl) ?_
      refine lv_imul hx hb dX12_cut_230 ?_
      refine lv_aload_n hx hb dX12_cut_231 rfl (lv_at hl 0 rfl) ?_
      refine lv_iload_n hx hb dX12_cut_232 rfl (lv_at hl 1 rfl) ?_
      refine lv_iload_n hx hb dX12_cut_233 rfl (lv_at hl 2 rfl) ?_
      refine lv_iadd hx hb dX12_cut_234 ?_
      refine k_ci hW (va_runV (As := [.int (x1 + x3)]) (rest := [.int (10 * x4)]) (k_fix C) (c_X12_byteAt l G h (x1 + x3) _ hq) (cwV 1 C.2.2.2.2.2.1 (gU_V mw624 mw625 mw626 mw5 mw627) rfl rfl rfl (by decide +kernel) ⟨Nat.le_of_ble_eq_true rfl, Nat.le_of_ble_eq_true rfl⟩) (k_preV hK hW (shM_lt (rfl : shM 0 = 12) (by decide)) (ceM_12 (rfl : shM 0 = 12)) (q := (RX12, TX12, 73)) rfl) rfl rfl hl.1 rfl (lv_room (Nat.le_of_ble_eq_true rfl)) dX12_cut_235 ⟨Nat.le_refl 0, Nat.le_refl 0⟩) (fun r55 h56 H locs hq hW => ?_)
      rw [hq.1] at hW
      have hq := hq.2
      refine lv_iadd hx hb dX12_cut_238 ?_
      refine lv_bipush (v := 48) hx hb dX12_cut_239 (by decide) ?_
      refine lv_isub hx hb dX12_cut_241 ?_
      refine lv_topi (fun x4_57 ex4_57 => ?_)
      have hq := hq x4_57 ex4_57
      refine lv_istore (lv' := [(4, .int x4_57), (0, .ref (G.2.2 0)), (1, .int x1), (3, .int x3)]) hx hb dX12_cut_242 hl (by decide) rfl (fun ls hl => ?_)
      obtain ⟨x3_58, ex3_58⟩ : ∃ y : Int32, y = x3 + 1 := ⟨_, rfl⟩
      have hq := hq x3_58 ex3_58
      refine lv_iinc (v := x3_58) (lv' := [(3, .int x3_58), (4, .int x4_57), (0, .ref (G.2.2 0)), (1, .int x1)]) hx hb dX12_cut_244 hl (k := 3) rfl (by rw [ex3_58]; rfl) (by decide) rfl (fun ls hl => ?_)
      refine lv_goto (tgt := 208) hx hb dX12_cut_247 (by decide) ?_
      exact hX208 _ _ _ _ _ hW (lv_sub hl [2, 3, 0, 1] rfl) hq
theorem k_X12_cut_208 {Q : hp → Prop} {X7 : Int32 × hp → Prop} {x1 : Int32} {h : hp} (C : kC p s m args meth c cX12_cut 8 none RX12 wUX12_cut) (hK : kK G s) (hX7 : ∀ (x1 : Int32) (h : hp) (H : Heap) (locs : List Loc) (ls : Array Slot), kW SM G h (aS SM G) s H locs → lv_has ls 8 [(0, .ref (G.2.2 0)), (1, .int x1)] → X7 (x1, h) → W p l e rmX12_cut s m args below meth c H locs 0 0 (MQ below (va_Qv Q (kB SM G) (aS SM G)) args s 0 0 (aS SM G)) (F0 m 7 ls [])) {x3 : Int32} {x4 : Int32} {H : Heap} {locs : List Loc} {ls : Array Slot} (hW : kW SM G h (aS SM G) s H locs) (hl : lv_has ls 8 [(0, .ref (G.2.2 0)), (1, .int x1), (3, .int x3), (4, .int x4)]) (hq : w_X12_cut_208 Q X7 x1 h x3 x4) : W p l e rmX12_cut s m args below meth c H locs 0 0 (MQ below (va_Qv Q (kB SM G) (aS SM G)) args s 0 0 (aS SM G)) (F0 m 208 ls []) := by
  have key := hq (fun (q : Int32 × Int32) => ∀ (H : Heap) (locs : List Loc) (ls : Array Slot), kW SM G h (aS SM G) s H locs → lv_has ls 8 [(0, .ref (G.2.2 0)), (1, .int x1), (3, .int q.1), (4, .int q.2)] → W p l e rmX12_cut s m args below meth c H locs 0 0 (MQ below (va_Qv Q (kB SM G) (aS SM G)) args s 0 0 (aS SM G)) (F0 m 208 ls []))
    (fun q hq H locs ls hW hl => k_X12_cut_b208 C hK hX7 (fun x3 x4 H locs ls hW hl hI => hI H locs ls hW hl) hW hl hq)
  exact key _ _ _ hW hl
theorem k_X12_cut_b7 {Q : hp → Prop} {X7 : Int32 × hp → Prop} (C : kC p s m args meth c cX12_cut 8 none RX12 wUX12_cut) (hK : kK G s) (hX7 : ∀ (x1 : Int32) (h : hp) (H : Heap) (locs : List Loc) (ls : Array Slot), kW SM G h (aS SM G) s H locs → lv_has ls 8 [(0, .ref (G.2.2 0)), (1, .int x1)] → X7 (x1, h) → W p l e rmX12_cut s m args below meth c H locs 0 0 (MQ below (va_Qv Q (kB SM G) (aS SM G)) args s 0 0 (aS SM G)) (F0 m 7 ls [])) {x1 : Int32} {h : hp} {H : Heap} {locs : List Loc} {ls : Array Slot} (hW : kW SM G h (aS SM G) s H locs) (hl : lv_has ls 8 [(0, .ref (G.2.2 0)), (1, .int x1)]) (hq : w_X12_cut_b7 Q X7 x1 h) : W p l e rmX12_cut s m args below meth c H locs 0 0 (MQ below (va_Qv Q (kB SM G) (aS SM G)) args s 0 0 (aS SM G)) (F0 m 7 ls []) := by
  have hx := C.1
  have hb := C.2.1
  unfold w_X12_cut_b7 at hq
  refine lv_aload_n hx hb dX12_cut_7 rfl (lv_at hl 0 rfl) ?_
  refine gt12_10 C hK hW (rfl : shM 0 = 12) (List.mem_cons_of_mem _ mw623) (fun _ h9 => List.mem_cons_of_mem _ (inU_wsX120 _ h9)) dX12_cut_8 ?_
  refine lv_sipush (v := 400) hx hb dX12_cut_11 (by decide) ?_
  refine lv_icmp_gt (tgt := 294) hx hb dX12_cut_14 (by decide) (fun c2 => ?_) (fun c2 => ?_)
  · have hq := hq.1 c2
    exact k_vret rfl C hW dX12_cut_294 hq
  · have hq := hq.2 c2
    refine lv_aload_n hx hb dX12_cut_17 rfl (lv_at hl 0 rfl) ?_
    refine lv_iload_n hx hb dX12_cut_18 rfl (lv_at hl 1 rfl) ?_
    refine k_ci hW (va_runV (As := [.int x1]) (rest := []) (k_fix C) (c_X12_byteAt l G h x1 _ hq) (cwV 1 C.2.2.2.2.2.1 (gU_V mw624 mw625 mw626 mw5 mw627) rfl rfl rfl (by decide +kernel) ⟨Nat.le_of_ble_eq_true rfl, Nat.le_of_ble_eq_true rfl⟩) (k_preV hK hW (shM_lt (rfl : shM 0 = 12) (by decide)) (ceM_12 (rfl : shM 0 = 12)) (q := (RX12, TX12, 73)) rfl) rfl rfl hl.1 rfl (lv_room (Nat.le_of_ble_eq_true rfl)) dX12_cut_19 ⟨Nat.le_refl 0, Nat.le_refl 0⟩) (fun r3 h4 H locs hq hW => ?_)
    rw [hq.1] at hW
    have hq := hq.2
    refine lv_istore_n (lv' := [(2, .int r3), (0, .ref (G.2.2 0)), (1, .int x1)]) hx hb dX12_cut_22 rfl hl (by decide) rfl (fun ls hl => ?_)
    refine lv_iload_n hx hb dX12_cut_23 rfl (lv_at hl 2 rfl) ?_
    refine lv_aload_n hx hb dX12_cut_24 rfl (lv_at hl 1 rfl) ?_
    refine gt12_4 C hK hW (rfl : shM 0 = 12) (List.mem_cons_of_mem _ mw605) (fun _ h9 => List.mem_cons_of_mem _ (inU_wsX120 _ h9)) dX12_cut_25 ?_
    refine lv_icmp_lt (tgt := 43) hx hb dX12_cut_28 (by decide) (fun c5 => ?_) (fun c5 => ?_)
    · have hq := hq.1 c5
      refine lv_iload_n hx hb dX12_cut_43 rfl (lv_at hl 0 rfl) ?_
      refine lv_bipush (v := 9) hx hb dX12_cut_44 (by decide) ?_
      refine lv_icmp_eq (tgt := 67) hx hb dX12_cut_46 (by decide) (fun c6 => ?_) (fun c6 => ?_)
      · have hq := hq.1 c6
        obtain ⟨x1_7, ex1_7⟩ : ∃ y : Int32, y = x1 + 1 := ⟨_, rfl⟩
        have hq := hq x1_7 ex1_7
        refine lv_iinc (v := x1_7) (lv' := [(1, .int x1_7), (2, .int r3), (0, .ref (G.2.2 0))]) hx hb dX12_cut_67 hl (k := 2) rfl (by rw [ex1_7]; rfl) (by decide) rfl (fun ls hl => ?_)
        refine lv_goto (tgt := 291) hx hb dX12_cut_70 (by decide) ?_
        refine lv_goto (tgt := 7) hx hb dX12_cut_291 (by decide) ?_
        exact hX7 _ _ _ _ _ hW (lv_sub hl [2, 0] rfl) hq
      · have hq := hq.2 c6
        refine lv_iload_n hx hb dX12_cut_49 rfl (lv_at hl 0 rfl) ?_
        refine lv_bipush (v := 10) hx hb dX12_cut_50 (by decide) ?_
        refine lv_icmp_eq (tgt := 67) hx hb dX12_cut_52 (by decide) (fun c8 => ?_) (fun c8 => ?_)
        · have hq := hq.1 c8
          obtain ⟨x1_9, ex1_9⟩ : ∃ y : Int32, y = x1 + 1 := ⟨_, rfl⟩
          have hq := hq x1_9 ex1_9
          refine lv_iinc (v := x1_9) (lv' := [(1, .int x1_9), (2, .int r3), (0, .ref (G.2.2 0))]) hx hb dX12_cut_67 hl (k := 2) rfl (by rw [ex1_9]; rfl) (by decide) rfl (fun ls hl => ?_)
          refine lv_goto (tgt := 291) hx hb dX12_cut_70 (by decide) ?_
          refine lv_goto (tgt := 7) hx hb dX12_cut_291 (by decide) ?_
          exact hX7 _ _ _ _ _ hW (lv_sub hl [2, 0] rfl) hq
        · have hq := hq.2 c8
          refine lv_iload_n hx hb dX12_cut_55 rfl (lv_at hl 0 rfl) ?_
          refine lv_bipush (v := 13) hx hb dX12_cut_56 (by decide) ?_
          refine lv_icmp_eq (tgt := 67) hx hb dX12_cut_58 (by decide) (fun c10 => ?_) (fun c10 => ?_)
          · have hq := hq.1 c10
            obtain ⟨x1_11, ex1_11⟩ : ∃ y : Int32, y = x1 + 1 := ⟨_, rfl⟩
            have hq := hq x1_11 ex1_11
            refine lv_iinc (v := x1_11) (lv' := [(1, .int x1_11), (2, .int r3), (0, .ref (G.2.2 0))]) hx hb dX12_cut_67 hl (k := 2) rfl (by rw [ex1_11]; rfl) (by decide) rfl (fun ls hl => ?_)
            refine lv_goto (tgt := 291) hx hb dX12_cut_70 (by decide) ?_
            refine lv_goto (tgt := 7) hx hb dX12_cut_291 (by decide) ?_
            exact hX7 _ _ _ _ _ hW (lv_sub hl [2, 0] rfl) hq
          · have hq := hq.2 c10
            refine lv_iload_n hx hb dX12_cut_61 rfl (lv_at hl 0 rfl) ?_
            refine lv_bipush (v := 32) hx hb dX12_cut_62 (by decide) ?_
            refine lv_icmp_ne (tgt := 73) hx hb dX12_cut_64 (by decide) (fun c12 => ?_) (fun c12 => ?_)
            · have hq := hq.1 c12
              refine lv_iload_n hx hb dX12_cut_73 rfl (lv_at hl 0 rfl) ?_
              refine k_ci hW (va_runS (As := [.int r3]) (rest := []) (k_fix C) (c_X12_isLetter l G h r3 _ hq) (va_cwS 1 C.2.2.2.2.2.1 (gU_S mw632 mw633 mw5 mw634) rfl rfl rfl (by decide +kernel) ⟨Nat.le_of_ble_eq_true rfl, Nat.le_of_ble_eq_true rfl⟩) (k_preS hK hW) rfl rfl hl.1 rfl (lv_room (Nat.le_of_ble_eq_true rfl)) dX12_cut_74 ⟨Nat.le_refl 0, Nat.le_refl 0⟩) (fun r13 h14 H locs hq hW => ?_)
              rw [hq.1] at hW
              have hq := hq.2
              refine lv_if_eq (tgt := 196) hx hb dX12_cut_77 (by decide) (fun c15 => ?_) (fun c15 => ?_)
              · have hq := hq.1 c15
                refine lv_iload_n hx hb dX12_cut_196 rfl (lv_at hl 0 rfl) ?_
                refine k_ci hW (va_runS (As := [.int r3]) (rest := []) (k_fix C) (c_X12_isDigit l G h r3 _ hq) (va_cwS 1 C.2.2.2.2.2.1 (gU_S mw635 mw636 mw5 mw637) rfl rfl rfl (by decide +kernel) ⟨Nat.le_of_ble_eq_true rfl, Nat.le_of_ble_eq_true rfl⟩) (k_preS hK hW) rfl rfl hl.1 rfl (lv_room (Nat.le_of_ble_eq_true rfl)) dX12_cut_197 ⟨Nat.le_refl 0, Nat.le_refl 0⟩) (fun r16 h17 H locs hq hW => ?_)
                rw [hq.1] at hW
                have hq := hq.2
                refine lv_if_eq (tgt := 275) hx hb dX12_cut_200 (by decide) (fun c18 => ?_) (fun c18 => ?_)
                · have hq := hq.1 c18
                  refine lv_iload_n hx hb dX12_cut_275 rfl (lv_at hl 2 rfl) ?_
                  refine lv_aload_n hx hb dX12_cut_276 rfl (lv_at hl 1 rfl) ?_
                  refine lv_iload_n hx hb dX12_cut_277 rfl (lv_at hl 2 rfl) ?_
                  refine lv_iload_n hx hb dX12_cut_278 rfl (lv_at hl 0 rfl) ?_
                  refine lv_aload_n hx hb dX12_cut_279 rfl (lv_at hl 1 rfl) ?_
                  refine lv_iload_n hx hb dX12_cut_280 rfl (lv_at hl 2 rfl) ?_
                  refine lv_iconst (v := 1) hx hb dX12_cut_281 (by decide) ?_
                  refine lv_iadd hx hb dX12_cut_282 ?_
                  refine k_ci hW (va_runV (As := [.int (x1 + 1)]) (rest := [.int r3, .int x1, .ref (G.2.2 0), .int x1]) (k_fix C) (c_X12_byteAt l G h (x1 + 1) _ hq) (cwV 1 C.2.2.2.2.2.1 (gU_V mw624 mw625 mw626 mw5 mw627) rfl rfl rfl (by decide +kernel) ⟨Nat.le_of_ble_eq_true rfl, Nat.le_of_ble_eq_true rfl⟩) (k_preV hK hW (shM_lt (rfl : shM 0 = 12) (by decide)) (ceM_12 (rfl : shM 0 = 12)) (q := (RX12, TX12, 73)) rfl) rfl rfl hl.1 rfl (lv_room (Nat.le_of_ble_eq_true rfl)) dX12_cut_283 ⟨Nat.le_refl 0, Nat.le_refl 0⟩) (fun r19 h20 H locs hq hW => ?_)
                  rw [hq.1] at hW
                  have hq := hq.2
                  refine k_ci hW (va_runV (As := [.int x1, .int r3, .int r19]) (rest := [.int x1]) (k_fix C) (c_X12_sign l G h x1 r3 r19 _ hq) (cwV 3 C.2.2.2.2.2.1 (gU_V mw638 mw639 mw640 mw5 mw641) rfl rfl rfl (by decide +kernel) ⟨Nat.le_of_ble_eq_true rfl, Nat.le_of_ble_eq_true rfl⟩) (k_preV hK hW (shM_lt (rfl : shM 0 = 12) (by decide)) (ceM_12 (rfl : shM 0 = 12)) (q := (RX12, TX12, 73)) rfl) rfl rfl hl.1 rfl (lv_room (Nat.le_of_ble_eq_true rfl)) dX12_cut_286 ⟨Nat.le_refl 0, Nat.le_refl 0⟩) (fun r22 h21 H locs hq hW => ?_)
                  refine lv_iadd hx hb dX12_cut_289 ?_
                  refine lv_topi (fun x1_23 ex1_23 => ?_)
                  have hq := hq x1_23 ex1_23
                  refine lv_istore_n (lv' := [(1, .int x1_23), (2, .int r3), (0, .ref (G.2.2 0))]) hx hb dX12_cut_290 rfl hl (by decide) rfl (fun ls hl => ?_)
                  refine lv_goto (tgt := 7) hx hb dX12_cut_291 (by decide) ?_
                  exact hX7 _ _ _ _ _ hW (lv_sub hl [2, 0] rfl) hq
                · have hq := hq.2 c18
                  refine lv_iconst (v := 0) hx hb dX12_cut_203 (by decide) ?_
                  refine lv_istore_n (lv' := [(3, .int 0), (2, .int r3), (0, .ref (G.2.2 0)), (1, .int x1)]) hx hb dX12_cut_204 rfl hl (by decide) rfl (fun ls hl => ?_)
                  refine lv_iconst (v := 0) hx hb dX12_cut_205 (by decide) ?_
                  refine lv_istore (lv' := [(4, .int 0), (3, .int 0), (2, .int r3), (0, .ref (G.2.2 0)), (1, .int x1)]) hx hb dX12_cut_206 hl (by decide) rfl (fun ls hl => ?_)
                  exact k_X12_cut_208 C hK hX7 hW (lv_sub hl [3, 4, 1, 0] rfl) hq
              · have hq := hq.2 c15
                refine lv_iconst (v := 0) hx hb dX12_cut_80 (by decide) ?_
                refine lv_istore_n (lv' := [(3, .int 0), (2, .int r3), (0, .ref (G.2.2 0)), (1, .int x1)]) hx hb dX12_cut_81 rfl hl (by decide) rfl (fun ls hl => ?_)
                refine lv_lconst (v := 0) hx hb dX12_cut_82 (by decide) ?_
                refine lv_lstore (lv' := [(4, .long 0), (3, .int 0), (2, .int r3), (0, .ref (G.2.2 0)), (1, .int x1)]) hx hb dX12_cut_83 hl (by decide) rfl (fun ls hl => ?_)
                exact k_X12_cut_85 C hK hX7 hW (lv_sub hl [3, 4, 1, 0] rfl) hq
            · have hq := hq.2 c12
              obtain ⟨x1_24, ex1_24⟩ : ∃ y : Int32, y = x1 + 1 := ⟨_, rfl⟩
              have hq := hq x1_24 ex1_24
              refine lv_iinc (v := x1_24) (lv' := [(1, .int x1_24), (2, .int r3), (0, .ref (G.2.2 0))]) hx hb dX12_cut_67 hl (k := 2) rfl (by rw [ex1_24]; rfl) (by decide) rfl (fun ls hl => ?_)
              refine lv_goto (tgt := 291) hx hb dX12_cut_70 (by decide) ?_
              refine lv_goto (tgt := 7) hx hb dX12_cut_291 (by decide) ?_
              exact hX7 _ _ _ _ _ hW (lv_sub hl [2, 0] rfl) hq
    · have hq := hq.2 c5
      refine lv_aload_n hx hb dX12_cut_31 rfl (lv_at hl 1 rfl) ?_
      refine lv_iconst (v := 0) hx hb dX12_cut_32 (by decide) ?_
      refine lv_aload_n hx hb dX12_cut_33 rfl (lv_at hl 1 rfl) ?_
      refine gt12_4 C hK hW (rfl : shM 0 = 12) (List.mem_cons_of_mem _ mw605) (fun _ h9 => List.mem_cons_of_mem _ (inU_wsX120 _ h9)) dX12_cut_34 ?_
      refine lv_iconst (v := 0) hx hb dX12_cut_37 (by decide) ?_
      refine lv_lconst (v := 0) hx hb dX12_cut_38 (by decide) ?_
      refine k_cv hW (va_runV (As := [.int 0, .int (gI h 0 4), .int 0, .long 0]) (rest := []) (k_fix C) (c_X12_token l G h 0 (gI h 0 4) 0 0 _ hq) (cwV 4 C.2.2.2.2.2.1 (gU_V mw628 mw629 mw630 mw5 mw631) rfl rfl rfl (by decide +kernel) ⟨Nat.le_of_ble_eq_true rfl, Nat.le_of_ble_eq_true rfl⟩) (k_preV hK hW (shM_lt (rfl : shM 0 = 12) (by decide)) (ceM_12 (rfl : shM 0 = 12)) (q := (RX12, TX12, 73)) rfl) rfl rfl hl.1 rfl (lv_room (Nat.le_of_ble_eq_true rfl)) dX12_cut_39 ⟨Nat.le_refl 0, Nat.le_refl 0⟩) (fun h25 H locs hq hW => ?_)
      exact k_vret rfl C hW dX12_cut_42 hq
theorem k_X12_cut_7 {Q : hp → Prop} (C : kC p s m args meth c cX12_cut 8 none RX12 wUX12_cut) (hK : kK G s) {x1 : Int32} {h : hp} {H : Heap} {locs : List Loc} {ls : Array Slot} (hW : kW SM G h (aS SM G) s H locs) (hl : lv_has ls 8 [(0, .ref (G.2.2 0)), (1, .int x1)]) (hq : w_X12_cut_7 Q x1 h) : W p l e rmX12_cut s m args below meth c H locs 0 0 (MQ below (va_Qv Q (kB SM G) (aS SM G)) args s 0 0 (aS SM G)) (F0 m 7 ls []) := by
  have key := hq (fun (q : Int32 × hp) => ∀ (H : Heap) (locs : List Loc) (ls : Array Slot), kW SM G q.2 (aS SM G) s H locs → lv_has ls 8 [(0, .ref (G.2.2 0)), (1, .int q.1)] → W p l e rmX12_cut s m args below meth c H locs 0 0 (MQ below (va_Qv Q (kB SM G) (aS SM G)) args s 0 0 (aS SM G)) (F0 m 7 ls []))
    (fun q hq H locs ls hW hl => k_X12_cut_b7 C hK (fun x1 h H locs ls hW hl hI => hI H locs ls hW hl) hW hl hq)
  exact key _ _ _ hW hl
theorem k_X12_cut_0 {Q : hp → Prop} {h : hp} (C : kC p s m args meth c cX12_cut 8 none RX12 wUX12_cut) (hK : kK G s) {H : Heap} {locs : List Loc} {ls : Array Slot} (hW : kW SM G h (aS SM G) s H locs) (hl : lv_has ls 8 [(0, .ref (G.2.2 0))]) (hq : w_X12_cut_0 Q h) : W p l e rmX12_cut s m args below meth c H locs 0 0 (MQ below (va_Qv Q (kB SM G) (aS SM G)) args s 0 0 (aS SM G)) (F0 m 0 ls []) := by
  have hx := C.1
  have hb := C.2.1
  unfold w_X12_cut_0 at hq
  refine lv_aload_n hx hb dX12_cut_0 rfl (lv_at hl 0 rfl) ?_
  refine lv_iconst (v := 0) hx hb dX12_cut_1 (by decide) ?_
  refine pt12_10 C hK hW (rfl : shM 0 = 12) (List.mem_cons_of_mem _ mw623) (fun _ h9 => List.mem_cons_of_mem _ (inU_wsX120 _ h9)) dX12_cut_2 (fun h1 H locs eh1 hW => ?_)
  have hq := hq h1 eh1
  refine lv_iconst (v := 0) hx hb dX12_cut_5 (by decide) ?_
  refine lv_istore_n (lv' := [(1, .int 0), (0, .ref (G.2.2 0))]) hx hb dX12_cut_6 rfl hl (by decide) rfl (fun ls hl => ?_)
  exact k_X12_cut_7 C hK hW (lv_sub hl [1, 0] rfl) hq
theorem c_X12_cut (l : Launch) (G : wG) (h : hp) (Q : hp → Prop) (hq : w_X12_cut h Q) : ctV l SM G yX12_cut wUX12_cut rmX12_cut h [.ref (G.2.2 0)] Q := by
  refine k_start (cc := cX12_cut) (maxL := 8) (rt := none) (own := RX12) (by decide +kernel) rfl rfl (Nat.le_of_ble_eq_true rfl) ?_
  intro p e s m below meth c ls C hK hW hl
  exact k_X12_cut_0 C hK hW hl hq
theorem k_X12_is_0 {Q : Int32 → Prop} {x1 : Int32} {h : hp} (C : kC p s m args meth c cX12_is 2 (some .boolean) RX12 wUX12_is) (hK : kK G s) {H : Heap} {locs : List Loc} {ls : Array Slot} (hW : kW SM G h (aS SM G) s H locs) (hl : lv_has ls 2 [(0, .ref (G.2.2 0)), (1, .int x1)]) (hq : w_X12_is_0 Q x1 h) : W p l e rmX12_is s m args below meth c H locs 0 0 (MQ below (va_Qi (fun r9 h9 => h9 = h ∧ Q r9) (kB SM G) (aS SM G)) args s 0 0 (aS SM G)) (F0 m 0 ls []) := by
  have hx := C.1
  have hb := C.2.1
  unfold w_X12_is_0 at hq
  refine lv_aload_n hx hb dX12_is_0 rfl (lv_at hl 0 rfl) ?_
  refine gt12_13 C hK hW (rfl : shM 0 = 12) (List.mem_cons_of_mem _ mw608) (fun _ h9 => List.mem_cons_of_mem _ (inU_wsX120 _ h9)) dX12_is_1 ?_
  refine lv_if_ne (tgt := 24) hx hb dX12_is_4 (by decide) (fun c1 => ?_) (fun c1 => ?_)
  · have hq := hq.1 c1
    refine lv_iconst (v := 0) hx hb dX12_is_24 (by decide) ?_
    exact k_zret rfl isZ_0.1 C hW dX12_is_25 ⟨rfl, hq⟩
  · have hq := hq.2 c1
    refine lv_aload_n hx hb dX12_is_7 rfl (lv_at hl 0 rfl) ?_
    refine gt12_5 C hK hW (rfl : shM 0 = 12) (List.mem_cons_of_mem _ mw265) (fun _ h9 => List.mem_cons_of_mem _ (inU_wsX120 _ h9)) dX12_is_8 ?_
    refine lv_aload_n hx hb dX12_is_11 rfl (lv_at hl 0 rfl) ?_
    refine gt12_11 C hK hW (rfl : shM 0 = 12) (List.mem_cons_of_mem _ mw606) (fun _ h9 => List.mem_cons_of_mem _ (inU_wsX120 _ h9)) dX12_is_12 ?_
    refine k_iald C hK hW (shM_lt (rfl : shM 3 = 14) (by decide)) (ceM_14 (rfl : shM 3 = 14) (rfl : lnM 3 = 403)) hq.1 dX12_is_15 ?_
    have hq := hq.2
    refine lv_iload_n hx hb dX12_is_16 rfl (lv_at hl 1 rfl) ?_
    refine lv_icmp_ne (tgt := 24) hx hb dX12_is_17 (by decide) (fun c2 => ?_) (fun c2 => ?_)
    · have hq := hq.1 c2
      refine lv_iconst (v := 0) hx hb dX12_is_24 (by decide) ?_
      exact k_zret rfl isZ_0.1 C hW dX12_is_25 ⟨rfl, hq⟩
    · have hq := hq.2 c2
      refine lv_iconst (v := 1) hx hb dX12_is_20 (by decide) ?_
      refine lv_goto (tgt := 25) hx hb dX12_is_21 (by decide) ?_
      exact k_zret rfl isZ_1.1 C hW dX12_is_25 ⟨rfl, hq⟩
theorem c_X12_is (l : Launch) (G : wG) (h : hp) (x1 : Int32) (Q : Int32 → Prop) (hq : w_X12_is h x1 Q) : ctI l SM G yX12_is wUX12_is rmX12_is h [.ref (G.2.2 0), .int x1] (fun r9 h9 => h9 = h ∧ Q r9) := by
  refine k_start (cc := cX12_is) (maxL := 2) (rt := (some .boolean)) (own := RX12) (by decide +kernel) rfl rfl (Nat.le_of_ble_eq_true rfl) ?_
  intro p e s m below meth c ls C hK hW hl
  exact k_X12_is_0 C hK hW hl hq
theorem k_X12_fail_0 {Q : hp → Prop} {x1 : Int32} {h : hp} (C : kC p s m args meth c cX12_fail 2 none RX12 wUX12_fail) (hK : kK G s) {H : Heap} {locs : List Loc} {ls : Array Slot} (hW : kW SM G h (aS SM G) s H locs) (hl : lv_has ls 2 [(0, .ref (G.2.2 0)), (1, .int x1)]) (hq : w_X12_fail_0 Q x1 h) : W p l e rmX12_fail s m args below meth c H locs 0 0 (MQ below (va_Qv Q (kB SM G) (aS SM G)) args s 0 0 (aS SM G)) (F0 m 0 ls []) := by
  have hx := C.1
  have hb := C.2.1
  unfold w_X12_fail_0 at hq
  refine lv_aload_n hx hb dX12_fail_0 rfl (lv_at hl 0 rfl) ?_
  refine gt12_13 C hK hW (rfl : shM 0 = 12) (List.mem_cons_of_mem _ mw608) (fun _ h9 => List.mem_cons_of_mem _ (inU_wsX120 _ h9)) dX12_fail_1 ?_
  refine lv_if_le (tgt := 8) hx hb dX12_fail_4 (by decide) (fun c1 => ?_) (fun c1 => ?_)
  · have hq := hq.1 c1
    refine lv_aload_n hx hb dX12_fail_8 rfl (lv_at hl 0 rfl) ?_
    refine lv_iload_n hx hb dX12_fail_9 rfl (lv_at hl 1 rfl) ?_
    refine pt12_13 C hK hW (rfl : shM 0 = 12) (List.mem_cons_of_mem _ mw608) (fun _ h9 => List.mem_cons_of_mem _ (inU_wsX120 _ h9)) dX12_fail_10 (fun h2 H locs eh2 hW => ?_)
    have hq := hq h2 eh2
    refine lv_aload_n hx hb dX12_fail_13 rfl (lv_at hl 0 rfl) ?_
    refine lv_aload_n hx hb dX12_fail_14 rfl (lv_at hl 0 rfl) ?_
    refine gt12_6 C hK hW (rfl : shM 0 = 12) (List.mem_cons_of_mem _ mw266) (fun _ h9 => List.mem_cons_of_mem _ (inU_wsX120 _ h9)) dX12_fail_15 ?_
    refine lv_aload_n hx hb dX12_fail_18 rfl (lv_at hl 0 rfl) ?_
    refine gt12_11 C hK hW (rfl : shM 0 = 12) (List.mem_cons_of_mem _ mw606) (fun _ h9 => List.mem_cons_of_mem _ (inU_wsX120 _ h9)) dX12_fail_19 ?_
    refine k_iald C hK hW (shM_lt (rfl : shM 4 = 14) (by decide)) (ceM_14 (rfl : shM 4 = 14) (rfl : lnM 4 = 403)) hq.1 dX12_fail_22 ?_
    have hq := hq.2
    refine pt12_14 C hK hW (rfl : shM 0 = 12) (List.mem_cons_of_mem _ mw615) (fun _ h9 => List.mem_cons_of_mem _ (inU_wsX120 _ h9)) dX12_fail_23 (fun h3 H locs eh3 hW => ?_)
    have hq := hq h3 eh3
    exact k_vret rfl C hW dX12_fail_26 hq
  · have hq := hq.2 c1
    exact k_vret rfl C hW dX12_fail_7 hq
theorem c_X12_fail (l : Launch) (G : wG) (h : hp) (x1 : Int32) (Q : hp → Prop) (hq : w_X12_fail h x1 Q) : ctV l SM G yX12_fail wUX12_fail rmX12_fail h [.ref (G.2.2 0), .int x1] Q := by
  refine k_start (cc := cX12_fail) (maxL := 2) (rt := none) (own := RX12) (by decide +kernel) rfl rfl (Nat.le_of_ble_eq_true rfl) ?_
  intro p e s m below meth c ls C hK hW hl
  exact k_X12_fail_0 C hK hW hl hq
theorem k_X12_amiss_46 {Q : hp → Prop} {x1 : Int32} {x3 : Int32} {h : hp} (C : kC p s m args meth c cX12_amiss 4 none RX12 wUX12_amiss) (hK : kK G s) {H : Heap} {locs : List Loc} {ls : Array Slot} (hW : kW SM G h (aS SM G) s H locs) (hl : lv_has ls 4 [(0, .ref (G.2.2 0)), (1, .int x1), (3, .int x3)]) (hq : w_X12_amiss_46 Q x1 x3 h) : W p l e rmX12_amiss s m args below meth c H locs 0 0 (MQ below (va_Qv Q (kB SM G) (aS SM G)) args s 0 0 (aS SM G)) (F0 m 46 ls []) := by
  have hx := C.1
  have hb := C.2.1
  unfold w_X12_amiss_46 at hq
  refine lv_aload_n hx hb dX12_amiss_46 rfl (lv_at hl 0 rfl) ?_
  refine lv_iload_n hx hb dX12_amiss_47 rfl (lv_at hl 1 rfl) ?_
  refine pt12_15 C hK hW (rfl : shM 0 = 12) (List.mem_cons_of_mem _ mw609) (fun _ h9 => List.mem_cons_of_mem _ (inU_wsX120 _ h9)) dX12_amiss_48 (fun h7 H locs eh7 hW => ?_)
  have hq := hq h7 eh7
  refine lv_aload_n hx hb dX12_amiss_51 rfl (lv_at hl 0 rfl) ?_
  refine lv_iload_n hx hb dX12_amiss_52 rfl (lv_at hl 2 rfl) ?_
  refine pt12_16 C hK hW (rfl : shM 0 = 12) (List.mem_cons_of_mem _ mw616) (fun _ h9 => List.mem_cons_of_mem _ (inU_wsX120 _ h9)) dX12_amiss_53 (fun h8 H locs eh8 hW => ?_)
  have hq := hq h8 eh8
  exact k_vret rfl C hW dX12_amiss_56 hq
theorem k_X12_amiss_0 {Q : hp → Prop} {x1 : Int32} {x2 : Int32} {h : hp} (C : kC p s m args meth c cX12_amiss 4 none RX12 wUX12_amiss) (hK : kK G s) {H : Heap} {locs : List Loc} {ls : Array Slot} (hW : kW SM G h (aS SM G) s H locs) (hl : lv_has ls 4 [(0, .ref (G.2.2 0)), (1, .int x1), (2, .int x2)]) (hq : w_X12_amiss_0 Q x1 x2 h) : W p l e rmX12_amiss s m args below meth c H locs 0 0 (MQ below (va_Qv Q (kB SM G) (aS SM G)) args s 0 0 (aS SM G)) (F0 m 0 ls []) := by
  have hx := C.1
  have hb := C.2.1
  unfold w_X12_amiss_0 at hq
  refine lv_aload_n hx hb dX12_amiss_0 rfl (lv_at hl 0 rfl) ?_
  refine gt12_6 C hK hW (rfl : shM 0 = 12) (List.mem_cons_of_mem _ mw266) (fun _ h9 => List.mem_cons_of_mem _ (inU_wsX120 _ h9)) dX12_amiss_1 ?_
  refine lv_iload_n hx hb dX12_amiss_4 rfl (lv_at hl 2 rfl) ?_
  refine k_iald C hK hW (shM_lt (rfl : shM 4 = 14) (by decide)) (ceM_14 (rfl : shM 4 = 14) (rfl : lnM 4 = 403)) hq.1 dX12_amiss_5 ?_
  have hq := hq.2
  refine lv_topi (fun x3_1 ex3_1 => ?_)
  have hq := hq x3_1 ex3_1
  refine lv_istore_n (lv' := [(3, .int x3_1), (0, .ref (G.2.2 0)), (1, .int x1), (2, .int x2)]) hx hb dX12_amiss_6 rfl hl (by decide) rfl (fun ls hl => ?_)
  refine lv_aload_n hx hb dX12_amiss_7 rfl (lv_at hl 1 rfl) ?_
  refine gt12_13 C hK hW (rfl : shM 0 = 12) (List.mem_cons_of_mem _ mw608) (fun _ h9 => List.mem_cons_of_mem _ (inU_wsX120 _ h9)) dX12_amiss_8 ?_
  refine lv_if_gt (tgt := 45) hx hb dX12_amiss_11 (by decide) (fun c2 => ?_) (fun c2 => ?_)
  · have hq := hq.1 c2
    exact k_vret rfl C hW dX12_amiss_45 hq
  · have hq := hq.2 c2
    refine lv_aload_n hx hb dX12_amiss_14 rfl (lv_at hl 1 rfl) ?_
    refine gt12_15 C hK hW (rfl : shM 0 = 12) (List.mem_cons_of_mem _ mw609) (fun _ h9 => List.mem_cons_of_mem _ (inU_wsX120 _ h9)) dX12_amiss_15 ?_
    refine lv_if_eq (tgt := 46) hx hb dX12_amiss_18 (by decide) (fun c3 => ?_) (fun c3 => ?_)
    · have hq := hq.1 c3
      exact k_X12_amiss_46 C hK hW (lv_sub hl [1, 2, 0] rfl) hq
    · have hq := hq.2 c3
      refine lv_iload_n hx hb dX12_amiss_21 rfl (lv_at hl 0 rfl) ?_
      refine lv_aload_n hx hb dX12_amiss_22 rfl (lv_at hl 1 rfl) ?_
      refine gt12_16 C hK hW (rfl : shM 0 = 12) (List.mem_cons_of_mem _ mw616) (fun _ h9 => List.mem_cons_of_mem _ (inU_wsX120 _ h9)) dX12_amiss_23 ?_
      refine lv_icmp_gt (tgt := 45) hx hb dX12_amiss_26 (by decide) (fun c4 => ?_) (fun c4 => ?_)
      · have hq := hq.1 c4
        exact k_vret rfl C hW dX12_amiss_45 hq
      · have hq := hq.2 c4
        refine lv_iload_n hx hb dX12_amiss_29 rfl (lv_at hl 0 rfl) ?_
        refine lv_aload_n hx hb dX12_amiss_30 rfl (lv_at hl 1 rfl) ?_
        refine gt12_16 C hK hW (rfl : shM 0 = 12) (List.mem_cons_of_mem _ mw616) (fun _ h9 => List.mem_cons_of_mem _ (inU_wsX120 _ h9)) dX12_amiss_31 ?_
        refine lv_icmp_ne (tgt := 46) hx hb dX12_amiss_34 (by decide) (fun c5 => ?_) (fun c5 => ?_)
        · have hq := hq.1 c5
          exact k_X12_amiss_46 C hK hW (lv_sub hl [1, 2, 0] rfl) hq
        · have hq := hq.2 c5
          refine lv_iload_n hx hb dX12_amiss_37 rfl (lv_at hl 2 rfl) ?_
          refine lv_aload_n hx hb dX12_amiss_38 rfl (lv_at hl 1 rfl) ?_
          refine gt12_15 C hK hW (rfl : shM 0 = 12) (List.mem_cons_of_mem _ mw609) (fun _ h9 => List.mem_cons_of_mem _ (inU_wsX120 _ h9)) dX12_amiss_39 ?_
          refine lv_icmp_lt (tgt := 46) hx hb dX12_amiss_42 (by decide) (fun c6 => ?_) (fun c6 => ?_)
          · have hq := hq.1 c6
            exact k_X12_amiss_46 C hK hW (lv_sub hl [1, 2, 0] rfl) hq
          · have hq := hq.2 c6
            exact k_vret rfl C hW dX12_amiss_45 hq
theorem c_X12_amiss (l : Launch) (G : wG) (h : hp) (x1 : Int32) (x2 : Int32) (Q : hp → Prop) (hq : w_X12_amiss h x1 x2 Q) : ctV l SM G yX12_amiss wUX12_amiss rmX12_amiss h [.ref (G.2.2 0), .int x1, .int x2] Q := by
  refine k_start (cc := cX12_amiss) (maxL := 4) (rt := none) (own := RX12) (by decide +kernel) rfl rfl (Nat.le_of_ble_eq_true rfl) ?_
  intro p e s m below meth c ls C hK hW hl
  exact k_X12_amiss_0 C hK hW hl hq
theorem k_X12_goesOn_0 {Q : hp → Prop} {h : hp} (C : kC p s m args meth c cX12_goesOn 1 none RX12 wUX12_goesOn) (hK : kK G s) {H : Heap} {locs : List Loc} {ls : Array Slot} (hW : kW SM G h (aS SM G) s H locs) (hl : lv_has ls 1 [(0, .ref (G.2.2 0))]) (hq : w_X12_goesOn_0 Q h) : W p l e rmX12_goesOn s m args below meth c H locs 0 0 (MQ below (va_Qv Q (kB SM G) (aS SM G)) args s 0 0 (aS SM G)) (F0 m 0 ls []) := by
  have hx := C.1
  have hb := C.2.1
  unfold w_X12_goesOn_0 at hq
  refine lv_aload_n hx hb dX12_goesOn_0 rfl (lv_at hl 0 rfl) ?_
  refine gt12_11 C hK hW (rfl : shM 0 = 12) (List.mem_cons_of_mem _ mw606) (fun _ h9 => List.mem_cons_of_mem _ (inU_wsX120 _ h9)) dX12_goesOn_1 ?_
  refine lv_sipush (v := 400) hx hb dX12_goesOn_4 (by decide) ?_
  refine lv_icmp_ne (tgt := 18) hx hb dX12_goesOn_7 (by decide) (fun c1 => ?_) (fun c1 => ?_)
  · have hq := hq.1 c1
    refine lv_aload_n hx hb dX12_goesOn_18 rfl (lv_at hl 0 rfl) ?_
    refine lv_dup hx hb dX12_goesOn_19 rfl ?_
    refine gt12_11 C hK hW (rfl : shM 0 = 12) (List.mem_cons_of_mem _ mw606) (fun _ h9 => List.mem_cons_of_mem _ (inU_wsX120 _ h9)) dX12_goesOn_20 ?_
    refine lv_iconst (v := 1) hx hb dX12_goesOn_23 (by decide) ?_
    refine lv_iadd hx hb dX12_goesOn_24 ?_
    refine pt12_11 C hK hW (rfl : shM 0 = 12) (List.mem_cons_of_mem _ mw606) (fun _ h9 => List.mem_cons_of_mem _ (inU_wsX120 _ h9)) dX12_goesOn_25 (fun h2 H locs eh2 hW => ?_)
    have hq := hq h2 eh2
    exact k_vret rfl C hW dX12_goesOn_28 hq
  · have hq := hq.2 c1
    refine lv_aload_n hx hb dX12_goesOn_10 rfl (lv_at hl 0 rfl) ?_
    refine lv_iconst (v := 2) hx hb dX12_goesOn_11 (by decide) ?_
    refine k_cv hW (va_runV (As := [.int 2]) (rest := []) (k_fix C) (c_X12_fail l G h 2 _ hq) (cwV 1 C.2.2.2.2.2.1 (gU_V mw654 mw655 mw656 mw5 mw657) rfl rfl rfl (by decide +kernel) ⟨Nat.le_of_ble_eq_true rfl, Nat.le_of_ble_eq_true rfl⟩) (k_preV hK hW (shM_lt (rfl : shM 0 = 12) (by decide)) (ceM_12 (rfl : shM 0 = 12)) (q := (RX12, TX12, 73)) rfl) rfl rfl hl.1 rfl (lv_room (Nat.le_of_ble_eq_true rfl)) dX12_goesOn_12 ⟨Nat.le_refl 0, Nat.le_refl 0⟩) (fun h3 H locs hq hW => ?_)
    refine lv_goto (tgt := 28) hx hb dX12_goesOn_15 (by decide) ?_
    exact k_vret rfl C hW dX12_goesOn_28 hq
theorem c_X12_goesOn (l : Launch) (G : wG) (h : hp) (Q : hp → Prop) (hq : w_X12_goesOn h Q) : ctV l SM G yX12_goesOn wUX12_goesOn rmX12_goesOn h [.ref (G.2.2 0)] Q := by
  refine k_start (cc := cX12_goesOn) (maxL := 1) (rt := none) (own := RX12) (by decide +kernel) rfl rfl (Nat.le_of_ble_eq_true rfl) ?_
  intro p e s m below meth c ls C hK hW hl
  exact k_X12_goesOn_0 C hK hW hl hq
theorem k_X12_must_0 {Q : hp → Prop} {x1 : Int32} {h : hp} (C : kC p s m args meth c cX12_must 2 none RX12 wUX12_must) (hK : kK G s) {H : Heap} {locs : List Loc} {ls : Array Slot} (hW : kW SM G h (aS SM G) s H locs) (hl : lv_has ls 2 [(0, .ref (G.2.2 0)), (1, .int x1)]) (hq : w_X12_must_0 Q x1 h) : W p l e rmX12_must s m args below meth c H locs 0 0 (MQ below (va_Qv Q (kB SM G) (aS SM G)) args s 0 0 (aS SM G)) (F0 m 0 ls []) := by
  have hx := C.1
  have hb := C.2.1
  unfold w_X12_must_0 at hq
  refine lv_aload_n hx hb dX12_must_0 rfl (lv_at hl 0 rfl) ?_
  refine lv_iload_n hx hb dX12_must_1 rfl (lv_at hl 1 rfl) ?_
  refine k_ci hW (va_runV (As := [.int x1]) (rest := []) (k_fix C) (c_X12_is l G h x1 _ hq) (cwV 1 C.2.2.2.2.2.1 (gU_V mw642 mw643 mw644 mw5 mw645) rfl rfl rfl (by decide +kernel) ⟨Nat.le_of_ble_eq_true rfl, Nat.le_of_ble_eq_true rfl⟩) (k_preV hK hW (shM_lt (rfl : shM 0 = 12) (by decide)) (ceM_12 (rfl : shM 0 = 12)) (q := (RX12, TX12, 73)) rfl) rfl rfl hl.1 rfl (lv_room (Nat.le_of_ble_eq_true rfl)) dX12_must_2 ⟨Nat.le_refl 0, Nat.le_refl 0⟩) (fun r1 h2 H locs hq hW => ?_)
  rw [hq.1] at hW
  have hq := hq.2
  refine lv_if_eq (tgt := 15) hx hb dX12_must_5 (by decide) (fun c3 => ?_) (fun c3 => ?_)
  · have hq := hq.1 c3
    refine lv_aload_n hx hb dX12_must_15 rfl (lv_at hl 0 rfl) ?_
    refine lv_iconst (v := 1) hx hb dX12_must_16 (by decide) ?_
    refine k_cv hW (va_runV (As := [.int 1]) (rest := []) (k_fix C) (c_X12_fail l G h 1 _ hq) (cwV 1 C.2.2.2.2.2.1 (gU_V mw654 mw655 mw656 mw5 mw657) rfl rfl rfl (by decide +kernel) ⟨Nat.le_of_ble_eq_true rfl, Nat.le_of_ble_eq_true rfl⟩) (k_preV hK hW (shM_lt (rfl : shM 0 = 12) (by decide)) (ceM_12 (rfl : shM 0 = 12)) (q := (RX12, TX12, 73)) rfl) rfl rfl hl.1 rfl (lv_room (Nat.le_of_ble_eq_true rfl)) dX12_must_17 ⟨Nat.le_refl 0, Nat.le_refl 0⟩) (fun h4 H locs hq hW => ?_)
    exact k_vret rfl C hW dX12_must_20 hq
  · have hq := hq.2 c3
    refine lv_aload_n hx hb dX12_must_8 rfl (lv_at hl 0 rfl) ?_
    refine k_cv hW (va_runV (As := []) (rest := []) (k_fix C) (c_X12_goesOn l G h _ hq) (cwV 0 C.2.2.2.2.2.1 (gU_V mw658 mw659 mw660 mw5 mw661) rfl rfl rfl (by decide +kernel) ⟨Nat.le_of_ble_eq_true rfl, Nat.le_of_ble_eq_true rfl⟩) (k_preV hK hW (shM_lt (rfl : shM 0 = 12) (by decide)) (ceM_12 (rfl : shM 0 = 12)) (q := (RX12, TX12, 73)) rfl) rfl rfl hl.1 rfl (lv_room (Nat.le_of_ble_eq_true rfl)) dX12_must_9 ⟨Nat.le_refl 0, Nat.le_refl 0⟩) (fun h5 H locs hq hW => ?_)
    refine lv_goto (tgt := 20) hx hb dX12_must_12 (by decide) ?_
    exact k_vret rfl C hW dX12_must_20 hq
theorem c_X12_must (l : Launch) (G : wG) (h : hp) (x1 : Int32) (Q : hp → Prop) (hq : w_X12_must h x1 Q) : ctV l SM G yX12_must wUX12_must rmX12_must h [.ref (G.2.2 0), .int x1] Q := by
  refine k_start (cc := cX12_must) (maxL := 2) (rt := none) (own := RX12) (by decide +kernel) rfl rfl (Nat.le_of_ble_eq_true rfl) ?_
  intro p e s m below meth c ls C hK hW hl
  exact k_X12_must_0 C hK hW hl hq
theorem k_X12_plain_b52 {Q : hp → Prop} {X52 : Int32 × hp → Prop} {x1 : Int32} (C : kC p s m args meth c cX12_plain 3 none RX12 wUX12_plain) (hK : kK G s) (hX52 : ∀ (x2 : Int32) (h : hp) (H : Heap) (locs : List Loc) (ls : Array Slot), kW SM G h (aS SM G) s H locs → lv_has ls 3 [(0, .ref (G.2.2 0)), (1, .int x1), (2, .int x2)] → X52 (x2, h) → W p l e rmX12_plain s m args below meth c H locs 0 0 (MQ below (va_Qv Q (kB SM G) (aS SM G)) args s 0 0 (aS SM G)) (F0 m 52 ls [])) {x2 : Int32} {h : hp} {H : Heap} {locs : List Loc} {ls : Array Slot} (hW : kW SM G h (aS SM G) s H locs) (hl : lv_has ls 3 [(0, .ref (G.2.2 0)), (1, .int x1), (2, .int x2)]) (hq : w_X12_plain_b52 Q x1 X52 x2 h) : W p l e rmX12_plain s m args below meth c H locs 0 0 (MQ below (va_Qv Q (kB SM G) (aS SM G)) args s 0 0 (aS SM G)) (F0 m 52 ls []) := by
  have hx := C.1
  have hb := C.2.1
  unfold w_X12_plain_b52 at hq
  refine lv_iload_n hx hb dX12_plain_52 rfl (lv_at hl 2 rfl) ?_
  refine lv_iconst (v := 2) hx hb dX12_plain_53 (by decide) ?_
  refine lv_icmp_ge (tgt := 85) hx hb dX12_plain_54 (by decide) (fun c8 => ?_) (fun c8 => ?_)
  · have hq := hq.1 c8
    exact k_vret rfl C hW dX12_plain_85 hq
  · have hq := hq.2 c8
    refine lv_aload_n hx hb dX12_plain_57 rfl (lv_at hl 0 rfl) ?_
    refine gt12_35 C hK hW (rfl : shM 0 = 12) (List.mem_cons_of_mem _ mw285) (fun _ h9 => List.mem_cons_of_mem _ (inU_wsX120 _ h9)) dX12_plain_58 ?_
    refine lv_iconst (v := 2) hx hb dX12_plain_61 (by decide) ?_
    refine lv_iload_n hx hb dX12_plain_62 rfl (lv_at hl 1 rfl) ?_
    refine lv_imul hx hb dX12_plain_63 ?_
    refine lv_iload_n hx hb dX12_plain_64 rfl (lv_at hl 2 rfl) ?_
    refine lv_iadd hx hb dX12_plain_65 ?_
    refine lv_iconst (v := 0) hx hb dX12_plain_66 (by decide) ?_
    refine k_iast okM C hK hW (shM_lt (rfl : shM 22 = 14) (by decide)) (fun g9 => ceM_14 (rfl : shM 22 = 14) (rfl : lnM 22 = 4)) hq.1 dX12_plain_67 (fun H locs hW => ?_)
    have hq := hq.2
    obtain ⟨h9, eh9⟩ : ∃ z : hp, z = sI h 22 (ix ((2 * x1) + x2)) 0 := ⟨_, rfl⟩
    rw [← eh9] at hW
    have hq := hq h9 eh9
    refine lv_aload_n hx hb dX12_plain_68 rfl (lv_at hl 0 rfl) ?_
    refine gt12_36 C hK hW (rfl : shM 0 = 12) (List.mem_cons_of_mem _ mw286) (fun _ h9 => List.mem_cons_of_mem _ (inU_wsX120 _ h9)) dX12_plain_69 ?_
    refine lv_iconst (v := 2) hx hb dX12_plain_72 (by decide) ?_
    refine lv_iload_n hx hb dX12_plain_73 rfl (lv_at hl 1 rfl) ?_
    refine lv_imul hx hb dX12_plain_74 ?_
    refine lv_iload_n hx hb dX12_plain_75 rfl (lv_at hl 2 rfl) ?_
    refine lv_iadd hx hb dX12_plain_76 ?_
    refine lv_iconst (v := 0) hx hb dX12_plain_77 (by decide) ?_
    refine k_iast okM C hK hW (shM_lt (rfl : shM 23 = 14) (by decide)) (fun g9 => ceM_14 (rfl : shM 23 = 14) (rfl : lnM 23 = 4)) hq.1 dX12_plain_78 (fun H locs hW => ?_)
    have hq := hq.2
    obtain ⟨h10, eh10⟩ : ∃ z : hp, z = sI h9 23 (ix ((2 * x1) + x2)) 0 := ⟨_, rfl⟩
    rw [← eh10] at hW
    have hq := hq h10 eh10
    obtain ⟨x2_11, ex2_11⟩ : ∃ y : Int32, y = x2 + 1 := ⟨_, rfl⟩
    have hq := hq x2_11 ex2_11
    refine lv_iinc (v := x2_11) (lv' := [(2, .int x2_11), (0, .ref (G.2.2 0)), (1, .int x1)]) hx hb dX12_plain_79 hl (k := 2) rfl (by rw [ex2_11]; rfl) (by decide) rfl (fun ls hl => ?_)
    refine lv_goto (tgt := 52) hx hb dX12_plain_82 (by decide) ?_
    exact hX52 _ _ _ _ _ hW (lv_sub hl [1, 2, 0] rfl) hq
theorem k_X12_plain_52 {Q : hp → Prop} {x1 : Int32} (C : kC p s m args meth c cX12_plain 3 none RX12 wUX12_plain) (hK : kK G s) {x2 : Int32} {h : hp} {H : Heap} {locs : List Loc} {ls : Array Slot} (hW : kW SM G h (aS SM G) s H locs) (hl : lv_has ls 3 [(0, .ref (G.2.2 0)), (1, .int x1), (2, .int x2)]) (hq : w_X12_plain_52 Q x1 x2 h) : W p l e rmX12_plain s m args below meth c H locs 0 0 (MQ below (va_Qv Q (kB SM G) (aS SM G)) args s 0 0 (aS SM G)) (F0 m 52 ls []) := by
  have key := hq (fun (q : Int32 × hp) => ∀ (H : Heap) (locs : List Loc) (ls : Array Slot), kW SM G q.2 (aS SM G) s H locs → lv_has ls 3 [(0, .ref (G.2.2 0)), (1, .int x1), (2, .int q.1)] → W p l e rmX12_plain s m args below meth c H locs 0 0 (MQ below (va_Qv Q (kB SM G) (aS SM G)) args s 0 0 (aS SM G)) (F0 m 52 ls []))
    (fun q hq H locs ls hW hl => k_X12_plain_b52 C hK (fun x2 h H locs ls hW hl hI => hI H locs ls hW hl) hW hl hq)
  exact key _ _ _ hW hl
theorem k_X12_plain_0 {Q : hp → Prop} {x1 : Int32} {h : hp} (C : kC p s m args meth c cX12_plain 3 none RX12 wUX12_plain) (hK : kK G s) {H : Heap} {locs : List Loc} {ls : Array Slot} (hW : kW SM G h (aS SM G) s H locs) (hl : lv_has ls 3 [(0, .ref (G.2.2 0)), (1, .int x1)]) (hq : w_X12_plain_0 Q x1 h) : W p l e rmX12_plain s m args below meth c H locs 0 0 (MQ below (va_Qv Q (kB SM G) (aS SM G)) args s 0 0 (aS SM G)) (F0 m 0 ls []) := by
  have hx := C.1
  have hb := C.2.1
  unfold w_X12_plain_0 at hq
  refine lv_aload_n hx hb dX12_plain_0 rfl (lv_at hl 0 rfl) ?_
  refine gt12_22 C hK hW (rfl : shM 0 = 12) (List.mem_cons_of_mem _ mw272) (fun _ h9 => List.mem_cons_of_mem _ (inU_wsX120 _ h9)) dX12_plain_1 ?_
  refine lv_iload_n hx hb dX12_plain_4 rfl (lv_at hl 1 rfl) ?_
  refine lv_iconst (v := 0) hx hb dX12_plain_5 (by decide) ?_
  refine k_iast okM C hK hW (shM_lt (rfl : shM 9 = 14) (by decide)) (fun g9 => ceM_14 (rfl : shM 9 = 14) (rfl : lnM 9 = 2)) hq.1 dX12_plain_6 (fun H locs hW => ?_)
  have hq := hq.2
  obtain ⟨h1, eh1⟩ : ∃ z : hp, z = sI h 9 (ix x1) 0 := ⟨_, rfl⟩
  rw [← eh1] at hW
  have hq := hq h1 eh1
  refine lv_aload_n hx hb dX12_plain_7 rfl (lv_at hl 0 rfl) ?_
  refine gt12_25 C hK hW (rfl : shM 0 = 12) (List.mem_cons_of_mem _ mw275) (fun _ h9 => List.mem_cons_of_mem _ (inU_wsX120 _ h9)) dX12_plain_8 ?_
  refine lv_iload_n hx hb dX12_plain_11 rfl (lv_at hl 1 rfl) ?_
  refine lv_bipush (v := 97) hx hb dX12_plain_12 (by decide) ?_
  refine k_iast okM C hK hW (shM_lt (rfl : shM 12 = 14) (by decide)) (fun g9 => ceM_14 (rfl : shM 12 = 14) (rfl : lnM 12 = 2)) hq.1 dX12_plain_14 (fun H locs hW => ?_)
  have hq := hq.2
  obtain ⟨h2, eh2⟩ : ∃ z : hp, z = sI h1 12 (ix x1) 97 := ⟨_, rfl⟩
  rw [← eh2] at hW
  have hq := hq h2 eh2
  refine lv_aload_n hx hb dX12_plain_15 rfl (lv_at hl 0 rfl) ?_
  refine gt12_26 C hK hW (rfl : shM 0 = 12) (List.mem_cons_of_mem _ mw276) (fun _ h9 => List.mem_cons_of_mem _ (inU_wsX120 _ h9)) dX12_plain_16 ?_
  refine lv_iload_n hx hb dX12_plain_19 rfl (lv_at hl 1 rfl) ?_
  refine lv_iconst (v := 0) hx hb dX12_plain_20 (by decide) ?_
  refine k_iast okM C hK hW (shM_lt (rfl : shM 13 = 14) (by decide)) (fun g9 => ceM_14 (rfl : shM 13 = 14) (rfl : lnM 13 = 2)) hq.1 dX12_plain_21 (fun H locs hW => ?_)
  have hq := hq.2
  obtain ⟨h3, eh3⟩ : ∃ z : hp, z = sI h2 13 (ix x1) 0 := ⟨_, rfl⟩
  rw [← eh3] at hW
  have hq := hq h3 eh3
  refine lv_aload_n hx hb dX12_plain_22 rfl (lv_at hl 0 rfl) ?_
  refine gt12_30 C hK hW (rfl : shM 0 = 12) (List.mem_cons_of_mem _ mw280) (fun _ h9 => List.mem_cons_of_mem _ (inU_wsX120 _ h9)) dX12_plain_23 ?_
  refine lv_iload_n hx hb dX12_plain_26 rfl (lv_at hl 1 rfl) ?_
  refine lv_iconst (v := 0) hx hb dX12_plain_27 (by decide) ?_
  refine k_iast okM C hK hW (shM_lt (rfl : shM 17 = 14) (by decide)) (fun g9 => ceM_14 (rfl : shM 17 = 14) (rfl : lnM 17 = 2)) hq.1 dX12_plain_28 (fun H locs hW => ?_)
  have hq := hq.2
  obtain ⟨h4, eh4⟩ : ∃ z : hp, z = sI h3 17 (ix x1) 0 := ⟨_, rfl⟩
  rw [← eh4] at hW
  have hq := hq h4 eh4
  refine lv_aload_n hx hb dX12_plain_29 rfl (lv_at hl 0 rfl) ?_
  refine gt12_32 C hK hW (rfl : shM 0 = 12) (List.mem_cons_of_mem _ mw282) (fun _ h9 => List.mem_cons_of_mem _ (inU_wsX120 _ h9)) dX12_plain_30 ?_
  refine lv_iload_n hx hb dX12_plain_33 rfl (lv_at hl 1 rfl) ?_
  refine lv_iconst (v := 3) hx hb dX12_plain_34 (by decide) ?_
  refine k_iast okM C hK hW (shM_lt (rfl : shM 19 = 14) (by decide)) (fun g9 => ceM_14 (rfl : shM 19 = 14) (rfl : lnM 19 = 2)) hq.1 dX12_plain_35 (fun H locs hW => ?_)
  have hq := hq.2
  obtain ⟨h5, eh5⟩ : ∃ z : hp, z = sI h4 19 (ix x1) 3 := ⟨_, rfl⟩
  rw [← eh5] at hW
  have hq := hq h5 eh5
  refine lv_aload_n hx hb dX12_plain_36 rfl (lv_at hl 0 rfl) ?_
  refine gt12_33 C hK hW (rfl : shM 0 = 12) (List.mem_cons_of_mem _ mw283) (fun _ h9 => List.mem_cons_of_mem _ (inU_wsX120 _ h9)) dX12_plain_37 ?_
  refine lv_iload_n hx hb dX12_plain_40 rfl (lv_at hl 1 rfl) ?_
  refine lv_iconst (v := 3) hx hb dX12_plain_41 (by decide) ?_
  refine k_iast okM C hK hW (shM_lt (rfl : shM 20 = 14) (by decide)) (fun g9 => ceM_14 (rfl : shM 20 = 14) (rfl : lnM 20 = 2)) hq.1 dX12_plain_42 (fun H locs hW => ?_)
  have hq := hq.2
  obtain ⟨h6, eh6⟩ : ∃ z : hp, z = sI h5 20 (ix x1) 3 := ⟨_, rfl⟩
  rw [← eh6] at hW
  have hq := hq h6 eh6
  refine lv_aload_n hx hb dX12_plain_43 rfl (lv_at hl 0 rfl) ?_
  refine gt12_34 C hK hW (rfl : shM 0 = 12) (List.mem_cons_of_mem _ mw284) (fun _ h9 => List.mem_cons_of_mem _ (inU_wsX120 _ h9)) dX12_plain_44 ?_
  refine lv_iload_n hx hb dX12_plain_47 rfl (lv_at hl 1 rfl) ?_
  refine lv_iconst (v := 0) hx hb dX12_plain_48 (by decide) ?_
  refine k_iast okM C hK hW (shM_lt (rfl : shM 21 = 14) (by decide)) (fun g9 => ceM_14 (rfl : shM 21 = 14) (rfl : lnM 21 = 2)) hq.1 dX12_plain_49 (fun H locs hW => ?_)
  have hq := hq.2
  obtain ⟨h7, eh7⟩ : ∃ z : hp, z = sI h6 21 (ix x1) 0 := ⟨_, rfl⟩
  rw [← eh7] at hW
  have hq := hq h7 eh7
  refine lv_iconst (v := 0) hx hb dX12_plain_50 (by decide) ?_
  refine lv_istore_n (lv' := [(2, .int 0), (0, .ref (G.2.2 0)), (1, .int x1)]) hx hb dX12_plain_51 rfl hl (by decide) rfl (fun ls hl => ?_)
  exact k_X12_plain_52 C hK hW (lv_sub hl [1, 2, 0] rfl) hq
theorem c_X12_plain (l : Launch) (G : wG) (h : hp) (x1 : Int32) (Q : hp → Prop) (hq : w_X12_plain h x1 Q) : ctV l SM G yX12_plain wUX12_plain rmX12_plain h [.ref (G.2.2 0), .int x1] Q := by
  refine k_start (cc := cX12_plain) (maxL := 3) (rt := none) (own := RX12) (by decide +kernel) rfl rfl (Nat.le_of_ble_eq_true rfl) ?_
  intro p e s m below meth c ls C hK hW hl
  exact k_X12_plain_0 C hK hW hl hq
theorem k_X12_roomFor_10 {Q : hp → Prop} {h : hp} (C : kC p s m args meth c cX12_roomFor 3 none RX12 wUX12_roomFor) (hK : kK G s) {H : Heap} {locs : List Loc} {ls : Array Slot} (hW : kW SM G h (aS SM G) s H locs) (hl : lv_has ls 3 [(0, .ref (G.2.2 0))]) (hq : w_X12_roomFor_10 Q h) : W p l e rmX12_roomFor s m args below meth c H locs 0 0 (MQ below (va_Qv Q (kB SM G) (aS SM G)) args s 0 0 (aS SM G)) (F0 m 10 ls []) := by
  have hx := C.1
  have hb := C.2.1
  unfold w_X12_roomFor_10 at hq
  refine lv_aload_n hx hb dX12_roomFor_10 rfl (lv_at hl 0 rfl) ?_
  refine gt12_13 C hK hW (rfl : shM 0 = 12) (List.mem_cons_of_mem _ mw608) (fun _ h9 => List.mem_cons_of_mem _ (inU_wsX120 _ h9)) dX12_roomFor_11 ?_
  refine lv_if_ne (tgt := 21) hx hb dX12_roomFor_14 (by decide) (fun c3 => ?_) (fun c3 => ?_)
  · have hq := hq.1 c3
    exact k_vret rfl C hW dX12_roomFor_21 hq
  · have hq := hq.2 c3
    refine lv_aload_n hx hb dX12_roomFor_17 rfl (lv_at hl 0 rfl) ?_
    refine k_cv hW (va_runV (As := []) (rest := []) (k_fix C) (c_X12_goesOn l G h _ hq) (cwV 0 C.2.2.2.2.2.1 (gU_V mw658 mw659 mw660 mw5 mw661) rfl rfl rfl (by decide +kernel) ⟨Nat.le_of_ble_eq_true rfl, Nat.le_of_ble_eq_true rfl⟩) (k_preV hK hW (shM_lt (rfl : shM 0 = 12) (by decide)) (ceM_12 (rfl : shM 0 = 12)) (q := (RX12, TX12, 73)) rfl) rfl rfl hl.1 rfl (lv_room (Nat.le_of_ble_eq_true rfl)) dX12_roomFor_18 ⟨Nat.le_refl 0, Nat.le_refl 0⟩) (fun h4 H locs hq hW => ?_)
    exact k_vret rfl C hW dX12_roomFor_21 hq
theorem k_X12_roomFor_0 {Q : hp → Prop} {x1 : Int32} {x2 : Int32} {h : hp} (C : kC p s m args meth c cX12_roomFor 3 none RX12 wUX12_roomFor) (hK : kK G s) {H : Heap} {locs : List Loc} {ls : Array Slot} (hW : kW SM G h (aS SM G) s H locs) (hl : lv_has ls 3 [(0, .ref (G.2.2 0)), (1, .int x1), (2, .int x2)]) (hq : w_X12_roomFor_0 Q x1 x2 h) : W p l e rmX12_roomFor s m args below meth c H locs 0 0 (MQ below (va_Qv Q (kB SM G) (aS SM G)) args s 0 0 (aS SM G)) (F0 m 0 ls []) := by
  have hx := C.1
  have hb := C.2.1
  unfold w_X12_roomFor_0 at hq
  refine lv_iload_n hx hb dX12_roomFor_0 rfl (lv_at hl 1 rfl) ?_
  refine lv_iload_n hx hb dX12_roomFor_1 rfl (lv_at hl 2 rfl) ?_
  refine lv_icmp_ne (tgt := 10) hx hb dX12_roomFor_2 (by decide) (fun c1 => ?_) (fun c1 => ?_)
  · have hq := hq.1 c1
    exact k_X12_roomFor_10 C hK hW (lv_sub hl [0] rfl) hq
  · have hq := hq.2 c1
    refine lv_aload_n hx hb dX12_roomFor_5 rfl (lv_at hl 0 rfl) ?_
    refine lv_iconst (v := 2) hx hb dX12_roomFor_6 (by decide) ?_
    refine k_cv hW (va_runV (As := [.int 2]) (rest := []) (k_fix C) (c_X12_fail l G h 2 _ hq) (cwV 1 C.2.2.2.2.2.1 (gU_V mw654 mw655 mw656 mw5 mw657) rfl rfl rfl (by decide +kernel) ⟨Nat.le_of_ble_eq_true rfl, Nat.le_of_ble_eq_true rfl⟩) (k_preV hK hW (shM_lt (rfl : shM 0 = 12) (by decide)) (ceM_12 (rfl : shM 0 = 12)) (q := (RX12, TX12, 73)) rfl) rfl rfl hl.1 rfl (lv_room (Nat.le_of_ble_eq_true rfl)) dX12_roomFor_7 ⟨Nat.le_refl 0, Nat.le_refl 0⟩) (fun h2 H locs hq hW => ?_)
    exact k_X12_roomFor_10 C hK hW (lv_sub hl [0] rfl) hq
theorem c_X12_roomFor (l : Launch) (G : wG) (h : hp) (x1 : Int32) (x2 : Int32) (Q : hp → Prop) (hq : w_X12_roomFor h x1 x2 Q) : ctV l SM G yX12_roomFor wUX12_roomFor rmX12_roomFor h [.ref (G.2.2 0), .int x1, .int x2] Q := by
  refine k_start (cc := cX12_roomFor) (maxL := 3) (rt := none) (own := RX12) (by decide +kernel) rfl rfl (Nat.le_of_ble_eq_true rfl) ?_
  intro p e s m below meth c ls C hK hW hl
  exact k_X12_roomFor_0 C hK hW hl hq
theorem k_X12_named_b12 {Q : Int32 → hp → Prop} {X12 : Int32 × hp → Prop} {x1 : Int32} (C : kC p s m args meth c cX12_named 3 (some .int) RX12 wUX12_named) (hK : kK G s) (hX12 : ∀ (x2 : Int32) (h : hp) (H : Heap) (locs : List Loc) (ls : Array Slot), kW SM G h (aS SM G) s H locs → lv_has ls 3 [(0, .ref (G.2.2 0)), (1, .int x1), (2, .int x2)] → X12 (x2, h) → W p l e rmX12_named s m args below meth c H locs 0 0 (MQ below (va_Qi Q (kB SM G) (aS SM G)) args s 0 0 (aS SM G)) (F0 m 12 ls [])) {x2 : Int32} {h : hp} {H : Heap} {locs : List Loc} {ls : Array Slot} (hW : kW SM G h (aS SM G) s H locs) (hl : lv_has ls 3 [(0, .ref (G.2.2 0)), (1, .int x1), (2, .int x2)]) (hq : w_X12_named_b12 Q x1 X12 x2 h) : W p l e rmX12_named s m args below meth c H locs 0 0 (MQ below (va_Qi Q (kB SM G) (aS SM G)) args s 0 0 (aS SM G)) (F0 m 12 ls []) := by
  have hx := C.1
  have hb := C.2.1
  unfold w_X12_named_b12 at hq
  refine lv_iload_n hx hb dX12_named_12 rfl (lv_at hl 2 rfl) ?_
  refine lv_aload_n hx hb dX12_named_13 rfl (lv_at hl 0 rfl) ?_
  refine gt12_20 C hK hW (rfl : shM 0 = 12) (List.mem_cons_of_mem _ mw612) (fun _ h9 => List.mem_cons_of_mem _ (inU_wsX120 _ h9)) dX12_named_14 ?_
  refine lv_icmp_ge (tgt := 55) hx hb dX12_named_17 (by decide) (fun c3 => ?_) (fun c3 => ?_)
  · have hq := hq.1 c3
    refine lv_iload_n hx hb dX12_named_55 rfl (lv_at hl 1 rfl) ?_
    exact k_iret rfl C hW dX12_named_56 hq
  · have hq := hq.2 c3
    refine lv_aload_n hx hb dX12_named_20 rfl (lv_at hl 0 rfl) ?_
    refine gt12_13 C hK hW (rfl : shM 0 = 12) (List.mem_cons_of_mem _ mw608) (fun _ h9 => List.mem_cons_of_mem _ (inU_wsX120 _ h9)) dX12_named_21 ?_
    refine lv_if_ne (tgt := 55) hx hb dX12_named_24 (by decide) (fun c4 => ?_) (fun c4 => ?_)
    · have hq := hq.1 c4
      refine lv_iload_n hx hb dX12_named_55 rfl (lv_at hl 1 rfl) ?_
      exact k_iret rfl C hW dX12_named_56 hq
    · have hq := hq.2 c4
      refine lv_aload_n hx hb dX12_named_27 rfl (lv_at hl 0 rfl) ?_
      refine gt12_21 C hK hW (rfl : shM 0 = 12) (List.mem_cons_of_mem _ mw271) (fun _ h9 => List.mem_cons_of_mem _ (inU_wsX120 _ h9)) dX12_named_28 ?_
      refine lv_iload_n hx hb dX12_named_31 rfl (lv_at hl 2 rfl) ?_
      refine k_lald C hK hW (shM_lt (rfl : shM 8 = 15) (by decide)) (ceM_15 (rfl : shM 8 = 15) (rfl : lnM 8 = 6)) hq.1 dX12_named_32 ?_
      have hq := hq.2
      refine lv_aload_n hx hb dX12_named_33 rfl (lv_at hl 0 rfl) ?_
      refine gt12_8 C hK hW (rfl : shM 0 = 12) (List.mem_cons_of_mem _ mw268) (fun _ h9 => List.mem_cons_of_mem _ (inU_wsX120 _ h9)) dX12_named_34 ?_
      refine lv_iload_n hx hb dX12_named_37 rfl (lv_at hl 1 rfl) ?_
      refine k_lald C hK hW (shM_lt (rfl : shM 6 = 15) (by decide)) (ceM_15 (rfl : shM 6 = 15) (rfl : lnM 6 = 403)) hq.1 dX12_named_38 ?_
      have hq := hq.2
      refine W.lcmp hx hb dX12_named_39 ?_
      refine lv_if_ne (tgt := 49) hx hb dX12_named_40 (by decide) (fun c5 => ?_) (fun c5 => ?_)
      · have hq := hq.1 (fun z => c5 ((lg_cmp_eq _ _).mpr z))
        obtain ⟨x2_6, ex2_6⟩ : ∃ y : Int32, y = x2 + 1 := ⟨_, rfl⟩
        have hq := hq x2_6 ex2_6
        refine lv_iinc (v := x2_6) (lv' := [(2, .int x2_6), (0, .ref (G.2.2 0)), (1, .int x1)]) hx hb dX12_named_49 hl (k := 2) rfl (by rw [ex2_6]; rfl) (by decide) rfl (fun ls hl => ?_)
        refine lv_goto (tgt := 12) hx hb dX12_named_52 (by decide) ?_
        exact hX12 _ _ _ _ _ hW (lv_sub hl [1, 2, 0] rfl) hq
      · have hq := hq.2 ((lg_cmp_eq _ _).mp c5)
        refine lv_aload_n hx hb dX12_named_43 rfl (lv_at hl 0 rfl) ?_
        refine lv_iconst (v := 3) hx hb dX12_named_44 (by decide) ?_
        refine lv_iload_n hx hb dX12_named_45 rfl (lv_at hl 1 rfl) ?_
        refine k_cv hW (va_runV (As := [.int 3, .int x1]) (rest := []) (k_fix C) (c_X12_amiss l G h 3 x1 _ hq) (cwV 2 C.2.2.2.2.2.1 (gU_V mw674 mw675 mw676 mw5 mw677) rfl rfl rfl (by decide +kernel) ⟨Nat.le_of_ble_eq_true rfl, Nat.le_of_ble_eq_true rfl⟩) (k_preV hK hW (shM_lt (rfl : shM 0 = 12) (by decide)) (ceM_12 (rfl : shM 0 = 12)) (q := (RX12, TX12, 73)) rfl) rfl rfl hl.1 rfl (lv_room (Nat.le_of_ble_eq_true rfl)) dX12_named_46 ⟨Nat.le_refl 0, Nat.le_refl 0⟩) (fun h7 H locs hq hW => ?_)
        obtain ⟨x2_8, ex2_8⟩ : ∃ y : Int32, y = x2 + 1 := ⟨_, rfl⟩
        have hq := hq x2_8 ex2_8
        refine lv_iinc (v := x2_8) (lv' := [(2, .int x2_8), (0, .ref (G.2.2 0)), (1, .int x1)]) hx hb dX12_named_49 hl (k := 2) rfl (by rw [ex2_8]; rfl) (by decide) rfl (fun ls hl => ?_)
        refine lv_goto (tgt := 12) hx hb dX12_named_52 (by decide) ?_
        exact hX12 _ _ _ _ _ hW (lv_sub hl [1, 2, 0] rfl) hq
theorem k_X12_named_12 {Q : Int32 → hp → Prop} {x1 : Int32} (C : kC p s m args meth c cX12_named 3 (some .int) RX12 wUX12_named) (hK : kK G s) {x2 : Int32} {h : hp} {H : Heap} {locs : List Loc} {ls : Array Slot} (hW : kW SM G h (aS SM G) s H locs) (hl : lv_has ls 3 [(0, .ref (G.2.2 0)), (1, .int x1), (2, .int x2)]) (hq : w_X12_named_12 Q x1 x2 h) : W p l e rmX12_named s m args below meth c H locs 0 0 (MQ below (va_Qi Q (kB SM G) (aS SM G)) args s 0 0 (aS SM G)) (F0 m 12 ls []) := by
  have key := hq (fun (q : Int32 × hp) => ∀ (H : Heap) (locs : List Loc) (ls : Array Slot), kW SM G q.2 (aS SM G) s H locs → lv_has ls 3 [(0, .ref (G.2.2 0)), (1, .int x1), (2, .int q.1)] → W p l e rmX12_named s m args below meth c H locs 0 0 (MQ below (va_Qi Q (kB SM G) (aS SM G)) args s 0 0 (aS SM G)) (F0 m 12 ls []))
    (fun q hq H locs ls hW hl => k_X12_named_b12 C hK (fun x2 h H locs ls hW hl hI => hI H locs ls hW hl) hW hl hq)
  exact key _ _ _ hW hl
theorem k_X12_named_0 {Q : Int32 → hp → Prop} {h : hp} (C : kC p s m args meth c cX12_named 3 (some .int) RX12 wUX12_named) (hK : kK G s) {H : Heap} {locs : List Loc} {ls : Array Slot} (hW : kW SM G h (aS SM G) s H locs) (hl : lv_has ls 3 [(0, .ref (G.2.2 0))]) (hq : w_X12_named_0 Q h) : W p l e rmX12_named s m args below meth c H locs 0 0 (MQ below (va_Qi Q (kB SM G) (aS SM G)) args s 0 0 (aS SM G)) (F0 m 0 ls []) := by
  have hx := C.1
  have hb := C.2.1
  unfold w_X12_named_0 at hq
  refine lv_aload_n hx hb dX12_named_0 rfl (lv_at hl 0 rfl) ?_
  refine gt12_11 C hK hW (rfl : shM 0 = 12) (List.mem_cons_of_mem _ mw606) (fun _ h9 => List.mem_cons_of_mem _ (inU_wsX120 _ h9)) dX12_named_1 ?_
  refine lv_topi (fun x1_1 ex1_1 => ?_)
  have hq := hq x1_1 ex1_1
  refine lv_istore_n (lv' := [(1, .int x1_1), (0, .ref (G.2.2 0))]) hx hb dX12_named_4 rfl hl (by decide) rfl (fun ls hl => ?_)
  refine lv_aload_n hx hb dX12_named_5 rfl (lv_at hl 1 rfl) ?_
  refine lv_iconst (v := 1) hx hb dX12_named_6 (by decide) ?_
  refine k_cv hW (va_runV (As := [.int 1]) (rest := []) (k_fix C) (c_X12_must l G h 1 _ hq) (cwV 1 C.2.2.2.2.2.1 (gU_V mw670 mw671 mw672 mw5 mw673) rfl rfl rfl (by decide +kernel) ⟨Nat.le_of_ble_eq_true rfl, Nat.le_of_ble_eq_true rfl⟩) (k_preV hK hW (shM_lt (rfl : shM 0 = 12) (by decide)) (ceM_12 (rfl : shM 0 = 12)) (q := (RX12, TX12, 73)) rfl) rfl rfl hl.1 rfl (lv_room (Nat.le_of_ble_eq_true rfl)) dX12_named_7 ⟨Nat.le_refl 0, Nat.le_refl 0⟩) (fun h2 H locs hq hW => ?_)
  refine lv_iconst (v := 0) hx hb dX12_named_10 (by decide) ?_
  refine lv_istore_n (lv' := [(2, .int 0), (1, .int x1_1), (0, .ref (G.2.2 0))]) hx hb dX12_named_11 rfl hl (by decide) rfl (fun ls hl => ?_)
  exact k_X12_named_12 C hK hW (lv_sub hl [2, 1, 0] rfl) hq
theorem c_X12_named (l : Launch) (G : wG) (h : hp) (Q : Int32 → hp → Prop) (hq : w_X12_named h Q) : ctI l SM G yX12_named wUX12_named rmX12_named h [.ref (G.2.2 0)] Q := by
  refine k_start (cc := cX12_named) (maxL := 3) (rt := (some .int)) (own := RX12) (by decide +kernel) rfl rfl (Nat.le_of_ble_eq_true rfl) ?_
  intro p e s m below meth c ls C hK hW hl
  exact k_X12_named_0 C hK hW hl hq
theorem k_X12_bounded_51 {Q : Int32 → hp → Prop} {x3 : Int32} {h : hp} (C : kC p s m args meth c cX12_bounded 4 (some .int) RX12 wUX12_bounded) (hK : kK G s) {H : Heap} {locs : List Loc} {ls : Array Slot} (hW : kW SM G h (aS SM G) s H locs) (hl : lv_has ls 4 [(0, .ref (G.2.2 0)), (3, .int x3)]) (hq : w_X12_bounded_51 Q x3 h) : W p l e rmX12_bounded s m args below meth c H locs 0 0 (MQ below (va_Qi Q (kB SM G) (aS SM G)) args s 0 0 (aS SM G)) (F0 m 51 ls []) := by
  have hx := C.1
  have hb := C.2.1
  unfold w_X12_bounded_51 at hq
  refine lv_aload_n hx hb dX12_bounded_51 rfl (lv_at hl 0 rfl) ?_
  refine k_cv hW (va_runV (As := []) (rest := []) (k_fix C) (c_X12_goesOn l G h _ hq) (cwV 0 C.2.2.2.2.2.1 (gU_V mw658 mw659 mw660 mw5 mw661) rfl rfl rfl (by decide +kernel) ⟨Nat.le_of_ble_eq_true rfl, Nat.le_of_ble_eq_true rfl⟩) (k_preV hK hW (shM_lt (rfl : shM 0 = 12) (by decide)) (ceM_12 (rfl : shM 0 = 12)) (q := (RX12, TX12, 73)) rfl) rfl rfl hl.1 rfl (lv_room (Nat.le_of_ble_eq_true rfl)) dX12_bounded_52 ⟨Nat.le_refl 0, Nat.le_refl 0⟩) (fun h8 H locs hq hW => ?_)
  refine lv_iload_n hx hb dX12_bounded_55 rfl (lv_at hl 1 rfl) ?_
  exact k_iret rfl C hW dX12_bounded_56 hq
theorem k_X12_bounded_42 {Q : Int32 → hp → Prop} {x3 : Int32} {h : hp} (C : kC p s m args meth c cX12_bounded 4 (some .int) RX12 wUX12_bounded) (hK : kK G s) {H : Heap} {locs : List Loc} {ls : Array Slot} (hW : kW SM G h (aS SM G) s H locs) (hl : lv_has ls 4 [(0, .ref (G.2.2 0)), (3, .int x3)]) (hq : w_X12_bounded_42 Q x3 h) : W p l e rmX12_bounded s m args below meth c H locs 0 0 (MQ below (va_Qi Q (kB SM G) (aS SM G)) args s 0 0 (aS SM G)) (F0 m 42 ls []) := by
  have hx := C.1
  have hb := C.2.1
  unfold w_X12_bounded_42 at hq
  refine lv_aload_n hx hb dX12_bounded_42 rfl (lv_at hl 0 rfl) ?_
  refine lv_iconst (v := 5) hx hb dX12_bounded_43 (by decide) ?_
  refine lv_aload_n hx hb dX12_bounded_44 rfl (lv_at hl 0 rfl) ?_
  refine gt12_11 C hK hW (rfl : shM 0 = 12) (List.mem_cons_of_mem _ mw606) (fun _ h9 => List.mem_cons_of_mem _ (inU_wsX120 _ h9)) dX12_bounded_45 ?_
  refine k_cv hW (va_runV (As := [.int 5, .int (gI h 0 11)]) (rest := []) (k_fix C) (c_X12_amiss l G h 5 (gI h 0 11) _ hq) (cwV 2 C.2.2.2.2.2.1 (gU_V mw674 mw675 mw676 mw5 mw677) rfl rfl rfl (by decide +kernel) ⟨Nat.le_of_ble_eq_true rfl, Nat.le_of_ble_eq_true rfl⟩) (k_preV hK hW (shM_lt (rfl : shM 0 = 12) (by decide)) (ceM_12 (rfl : shM 0 = 12)) (q := (RX12, TX12, 73)) rfl) rfl rfl hl.1 rfl (lv_room (Nat.le_of_ble_eq_true rfl)) dX12_bounded_48 ⟨Nat.le_refl 0, Nat.le_refl 0⟩) (fun h9 H locs hq hW => ?_)
  exact k_X12_bounded_51 C hK hW (lv_sub hl [0, 1] rfl) hq
theorem k_X12_bounded_15 {Q : Int32 → hp → Prop} {x1 : Int32} {h : hp} (C : kC p s m args meth c cX12_bounded 4 (some .int) RX12 wUX12_bounded) (hK : kK G s) {H : Heap} {locs : List Loc} {ls : Array Slot} (hW : kW SM G h (aS SM G) s H locs) (hl : lv_has ls 4 [(0, .ref (G.2.2 0)), (1, .int x1)]) (hq : w_X12_bounded_15 Q x1 h) : W p l e rmX12_bounded s m args below meth c H locs 0 0 (MQ below (va_Qi Q (kB SM G) (aS SM G)) args s 0 0 (aS SM G)) (F0 m 15 ls []) := by
  have hx := C.1
  have hb := C.2.1
  unfold w_X12_bounded_15 at hq
  refine lv_aload_n hx hb dX12_bounded_15 rfl (lv_at hl 0 rfl) ?_
  refine lv_iconst (v := 1) hx hb dX12_bounded_16 (by decide) ?_
  refine k_cv hW (va_runV (As := [.int 1]) (rest := []) (k_fix C) (c_X12_fail l G h 1 _ hq) (cwV 1 C.2.2.2.2.2.1 (gU_V mw654 mw655 mw656 mw5 mw657) rfl rfl rfl (by decide +kernel) ⟨Nat.le_of_ble_eq_true rfl, Nat.le_of_ble_eq_true rfl⟩) (k_preV hK hW (shM_lt (rfl : shM 0 = 12) (by decide)) (ceM_12 (rfl : shM 0 = 12)) (q := (RX12, TX12, 73)) rfl) rfl rfl hl.1 rfl (lv_room (Nat.le_of_ble_eq_true rfl)) dX12_bounded_17 ⟨Nat.le_refl 0, Nat.le_refl 0⟩) (fun h10 H locs hq hW => ?_)
  refine lv_iload_n hx hb dX12_bounded_20 rfl (lv_at hl 1 rfl) ?_
  exact k_iret rfl C hW dX12_bounded_21 hq
theorem k_X12_bounded_0 {Q : Int32 → hp → Prop} {x1 : Int32} {x2 : Int32} {h : hp} (C : kC p s m args meth c cX12_bounded 4 (some .int) RX12 wUX12_bounded) (hK : kK G s) {H : Heap} {locs : List Loc} {ls : Array Slot} (hW : kW SM G h (aS SM G) s H locs) (hl : lv_has ls 4 [(0, .ref (G.2.2 0)), (1, .int x1), (2, .int x2)]) (hq : w_X12_bounded_0 Q x1 x2 h) : W p l e rmX12_bounded s m args below meth c H locs 0 0 (MQ below (va_Qi Q (kB SM G) (aS SM G)) args s 0 0 (aS SM G)) (F0 m 0 ls []) := by
  have hx := C.1
  have hb := C.2.1
  unfold w_X12_bounded_0 at hq
  refine lv_aload_n hx hb dX12_bounded_0 rfl (lv_at hl 0 rfl) ?_
  refine gt12_13 C hK hW (rfl : shM 0 = 12) (List.mem_cons_of_mem _ mw608) (fun _ h9 => List.mem_cons_of_mem _ (inU_wsX120 _ h9)) dX12_bounded_1 ?_
  refine lv_if_gt (tgt := 15) hx hb dX12_bounded_4 (by decide) (fun c1 => ?_) (fun c1 => ?_)
  · have hq := hq.1 c1
    exact k_X12_bounded_15 C hK hW (lv_sub hl [0, 1] rfl) hq
  · have hq := hq.2 c1
    refine lv_aload_n hx hb dX12_bounded_7 rfl (lv_at hl 0 rfl) ?_
    refine lv_iconst (v := 2) hx hb dX12_bounded_8 (by decide) ?_
    refine k_ci hW (va_runV (As := [.int 2]) (rest := []) (k_fix C) (c_X12_is l G h 2 _ hq) (cwV 1 C.2.2.2.2.2.1 (gU_V mw642 mw643 mw644 mw5 mw645) rfl rfl rfl (by decide +kernel) ⟨Nat.le_of_ble_eq_true rfl, Nat.le_of_ble_eq_true rfl⟩) (k_preV hK hW (shM_lt (rfl : shM 0 = 12) (by decide)) (ceM_12 (rfl : shM 0 = 12)) (q := (RX12, TX12, 73)) rfl) rfl rfl hl.1 rfl (lv_room (Nat.le_of_ble_eq_true rfl)) dX12_bounded_9 ⟨Nat.le_refl 0, Nat.le_refl 0⟩) (fun r2 h3 H locs hq hW => ?_)
    rw [hq.1] at hW
    have hq := hq.2
    refine lv_if_ne (tgt := 22) hx hb dX12_bounded_12 (by decide) (fun c4 => ?_) (fun c4 => ?_)
    · have hq := hq.1 c4
      refine lv_aload_n hx hb dX12_bounded_22 rfl (lv_at hl 0 rfl) ?_
      refine gt12_7 C hK hW (rfl : shM 0 = 12) (List.mem_cons_of_mem _ mw267) (fun _ h9 => List.mem_cons_of_mem _ (inU_wsX120 _ h9)) dX12_bounded_23 ?_
      refine lv_aload_n hx hb dX12_bounded_26 rfl (lv_at hl 0 rfl) ?_
      refine gt12_11 C hK hW (rfl : shM 0 = 12) (List.mem_cons_of_mem _ mw606) (fun _ h9 => List.mem_cons_of_mem _ (inU_wsX120 _ h9)) dX12_bounded_27 ?_
      refine k_iald C hK hW (shM_lt (rfl : shM 5 = 14) (by decide)) (ceM_14 (rfl : shM 5 = 14) (rfl : lnM 5 = 403)) hq.1 dX12_bounded_30 ?_
      have hq := hq.2
      refine lv_topi (fun x3_5 ex3_5 => ?_)
      have hq := hq x3_5 ex3_5
      refine lv_istore_n (lv' := [(3, .int x3_5), (0, .ref (G.2.2 0)), (1, .int x1), (2, .int x2)]) hx hb dX12_bounded_31 rfl hl (by decide) rfl (fun ls hl => ?_)
      refine lv_iload_n hx hb dX12_bounded_32 rfl (lv_at hl 0 rfl) ?_
      refine lv_iload_n hx hb dX12_bounded_33 rfl (lv_at hl 2 rfl) ?_
      refine lv_icmp_lt (tgt := 42) hx hb dX12_bounded_34 (by decide) (fun c6 => ?_) (fun c6 => ?_)
      · have hq := hq.1 c6
        exact k_X12_bounded_42 C hK hW (lv_sub hl [1, 0] rfl) hq
      · have hq := hq.2 c6
        refine lv_iload_n hx hb dX12_bounded_37 rfl (lv_at hl 0 rfl) ?_
        refine lv_iload_n hx hb dX12_bounded_38 rfl (lv_at hl 3 rfl) ?_
        refine lv_icmp_le (tgt := 51) hx hb dX12_bounded_39 (by decide) (fun c7 => ?_) (fun c7 => ?_)
        · have hq := hq.1 c7
          exact k_X12_bounded_51 C hK hW (lv_sub hl [1, 0] rfl) hq
        · have hq := hq.2 c7
          exact k_X12_bounded_42 C hK hW (lv_sub hl [1, 0] rfl) hq
    · have hq := hq.2 c4
      exact k_X12_bounded_15 C hK hW (lv_sub hl [0, 1] rfl) hq
theorem c_X12_bounded (l : Launch) (G : wG) (h : hp) (x1 : Int32) (x2 : Int32) (Q : Int32 → hp → Prop) (hq : w_X12_bounded h x1 x2 Q) : ctI l SM G yX12_bounded wUX12_bounded rmX12_bounded h [.ref (G.2.2 0), .int x1, .int x2] Q := by
  refine k_start (cc := cX12_bounded) (maxL := 4) (rt := (some .int)) (own := RX12) (by decide +kernel) rfl rfl (Nat.le_of_ble_eq_true rfl) ?_
  intro p e s m below meth c ls C hK hW hl
  exact k_X12_bounded_0 C hK hW hl hq
theorem k_X12_emit_0 {Q : hp → Prop} {x1 : Int32} {x2 : Int32} {h : hp} (C : kC p s m args meth c cX12_emit 3 none RX12 wUX12_emit) (hK : kK G s) {H : Heap} {locs : List Loc} {ls : Array Slot} (hW : kW SM G h (aS SM G) s H locs) (hl : lv_has ls 3 [(0, .ref (G.2.2 0)), (1, .int x1), (2, .int x2)]) (hq : w_X12_emit_0 Q x1 x2 h) : W p l e rmX12_emit s m args below meth c H locs 0 0 (MQ below (va_Qv Q (kB SM G) (aS SM G)) args s 0 0 (aS SM G)) (F0 m 0 ls []) := by
  have hx := C.1
  have hb := C.2.1
  unfold w_X12_emit_0 at hq
  refine lv_aload_n hx hb dX12_emit_0 rfl (lv_at hl 0 rfl) ?_
  refine gt12_44 C hK hW (rfl : shM 0 = 12) (List.mem_cons_of_mem _ mw293) (fun _ h9 => List.mem_cons_of_mem _ (inU_wsX120 _ h9)) dX12_emit_1 ?_
  refine lv_aload_n hx hb dX12_emit_4 rfl (lv_at hl 0 rfl) ?_
  refine gt12_43 C hK hW (rfl : shM 0 = 12) (List.mem_cons_of_mem _ mw614) (fun _ h9 => List.mem_cons_of_mem _ (inU_wsX120 _ h9)) dX12_emit_5 ?_
  refine lv_iload_n hx hb dX12_emit_8 rfl (lv_at hl 1 rfl) ?_
  refine k_iast okM C hK hW (shM_lt (rfl : shM 29 = 14) (by decide)) (fun g9 => ceM_14 (rfl : shM 29 = 14) (rfl : lnM 29 = 840)) hq.1 dX12_emit_9 (fun H locs hW => ?_)
  have hq := hq.2
  obtain ⟨h1, eh1⟩ : ∃ z : hp, z = sI h 29 (ix (gI h 0 43)) x1 := ⟨_, rfl⟩
  rw [← eh1] at hW
  have hq := hq h1 eh1
  refine lv_aload_n hx hb dX12_emit_10 rfl (lv_at hl 0 rfl) ?_
  refine gt12_45 C hK hW (rfl : shM 0 = 12) (List.mem_cons_of_mem _ mw294) (fun _ h9 => List.mem_cons_of_mem _ (inU_wsX120 _ h9)) dX12_emit_11 ?_
  refine lv_aload_n hx hb dX12_emit_14 rfl (lv_at hl 0 rfl) ?_
  refine gt12_43 C hK hW (rfl : shM 0 = 12) (List.mem_cons_of_mem _ mw614) (fun _ h9 => List.mem_cons_of_mem _ (inU_wsX120 _ h9)) dX12_emit_15 ?_
  refine lv_iload_n hx hb dX12_emit_18 rfl (lv_at hl 2 rfl) ?_
  refine k_iast okM C hK hW (shM_lt (rfl : shM 30 = 14) (by decide)) (fun g9 => ceM_14 (rfl : shM 30 = 14) (rfl : lnM 30 = 840)) hq.1 dX12_emit_19 (fun H locs hW => ?_)
  have hq := hq.2
  obtain ⟨h2, eh2⟩ : ∃ z : hp, z = sI h1 30 (ix (gI h1 0 43)) x2 := ⟨_, rfl⟩
  rw [← eh2] at hW
  have hq := hq h2 eh2
  refine lv_aload_n hx hb dX12_emit_20 rfl (lv_at hl 0 rfl) ?_
  refine lv_dup hx hb dX12_emit_21 rfl ?_
  refine gt12_43 C hK hW (rfl : shM 0 = 12) (List.mem_cons_of_mem _ mw614) (fun _ h9 => List.mem_cons_of_mem _ (inU_wsX120 _ h9)) dX12_emit_22 ?_
  refine lv_iconst (v := 1) hx hb dX12_emit_25 (by decide) ?_
  refine lv_iadd hx hb dX12_emit_26 ?_
  refine pt12_43 C hK hW (rfl : shM 0 = 12) (List.mem_cons_of_mem _ mw614) (fun _ h9 => List.mem_cons_of_mem _ (inU_wsX120 _ h9)) dX12_emit_27 (fun h3 H locs eh3 hW => ?_)
  have hq := hq h3 eh3
  exact k_vret rfl C hW dX12_emit_30 hq
theorem c_X12_emit (l : Launch) (G : wG) (h : hp) (x1 : Int32) (x2 : Int32) (Q : hp → Prop) (hq : w_X12_emit h x1 x2 Q) : ctV l SM G yX12_emit wUX12_emit rmX12_emit h [.ref (G.2.2 0), .int x1, .int x2] Q := by
  refine k_start (cc := cX12_emit) (maxL := 3) (rt := none) (own := RX12) (by decide +kernel) rfl rfl (Nat.le_of_ble_eq_true rfl) ?_
  intro p e s m below meth c ls C hK hW hl
  exact k_X12_emit_0 C hK hW hl hq
end LINKS
