section LINKS
variable {p : Program} {l : Launch} {e : Env} {s : State} {m : MethodId} {args : Array Value} {below : List Frame} {meth : Method} {c : Code} {G : wG}
theorem k_X12_few_43 {Q : Int32 → hp → Prop} {X16 : Int32 × hp → Prop} {x1 : Int32} {x2 : Int32} {h : hp} {s0 : Int32} {s1 : Int32} (C : kC p s m args meth c cX12_few 6 (some .int) RX12 wUX12_few) (hK : kK G s) (hX16 : ∀ (x2 : Int32) (h : hp) (H : Heap) (locs : List Loc) (ls : Array Slot), kW SM G h (aS SM G) s H locs → lv_has ls 6 [(0, .ref (G.2.2 0)), (1, .int x1), (2, .int x2)] → X16 (x2, h) → W p l e rmX12_few s m args below meth c H locs 0 0 (MQ below (va_Qi Q (kB SM G) (aS SM G)) args s 0 0 (aS SM G)) (F0 m 16 ls [])) {H : Heap} {locs : List Loc} {ls : Array Slot} (hW : kW SM G h (aS SM G) s H locs) (hl : lv_has ls 6 [(0, .ref (G.2.2 0)), (1, .int x1), (2, .int x2)]) (hq : w_X12_few_43 Q X16 x1 x2 h s0 s1) : W p l e rmX12_few s m args below meth c H locs 0 0 (MQ below (va_Qi Q (kB SM G) (aS SM G)) args s 0 0 (aS SM G)) (F0 m 43 ls [.int s0, .int s1, .ref (G.2.2 37)]) := by
  have hx := C.1
  have hb := C.2.1
  unfold w_X12_few_43 at hq
  refine k_iast okM C hK hW (shM_lt (rfl : shM 37 = 14) (by decide)) (fun g9 => ceM_14 (rfl : shM 37 = 14) (rfl : lnM 37 = 10000)) hq.1 dX12_few_43 (fun H locs hW => ?_)
  have hq := hq.2
  obtain ⟨h10, eh10⟩ : ∃ z : hp, z = sI h 37 (ix s1) s0 := ⟨_, rfl⟩
  rw [← eh10] at hW
  have hq := hq h10 eh10
  obtain ⟨x2_11, ex2_11⟩ : ∃ y : Int32, y = x2 + 1 := ⟨_, rfl⟩
  have hq := hq x2_11 ex2_11
  refine lv_iinc (v := x2_11) (lv' := [(2, .int x2_11), (0, .ref (G.2.2 0)), (1, .int x1)]) hx hb dX12_few_44 hl (k := 2) rfl (by rw [ex2_11]; rfl) (by decide) rfl (fun ls hl => ?_)
  refine lv_goto (tgt := 16) hx hb dX12_few_47 (by decide) ?_
  exact hX16 _ _ _ _ _ hW (lv_sub hl [1, 2, 0] rfl) hq
theorem k_X12_few_139 {Q : Int32 → hp → Prop} {X52 : Int32 × hp → Prop} {X67 : Int32 × Int32 × hp → Prop} {x2 : Int32} {x4 : Int32} {x5 : Int32} {h : hp} {s0 : Int32} (C : kC p s m args meth c cX12_few 6 (some .int) RX12 wUX12_few) (hK : kK G s) (hX52 : ∀ (x2 : Int32) (h : hp) (H : Heap) (locs : List Loc) (ls : Array Slot), kW SM G h (aS SM G) s H locs → lv_has ls 6 [(0, .ref (G.2.2 0)), (2, .int x2)] → X52 (x2, h) → W p l e rmX12_few s m args below meth c H locs 0 0 (MQ below (va_Qi Q (kB SM G) (aS SM G)) args s 0 0 (aS SM G)) (F0 m 52 ls [])) (hX67 : ∀ (x3 : Int32) (x4 : Int32) (h : hp) (H : Heap) (locs : List Loc) (ls : Array Slot), kW SM G h (aS SM G) s H locs → lv_has ls 6 [(0, .ref (G.2.2 0)), (2, .int x2), (3, .int x3), (4, .int x4)] → X67 (x3, x4, h) → W p l e rmX12_few s m args below meth c H locs 0 0 (MQ below (va_Qi Q (kB SM G) (aS SM G)) args s 0 0 (aS SM G)) (F0 m 67 ls [])) {H : Heap} {locs : List Loc} {ls : Array Slot} (hW : kW SM G h (aS SM G) s H locs) (hl : lv_has ls 6 [(0, .ref (G.2.2 0)), (2, .int x2), (4, .int x4), (5, .int x5)]) (hq : w_X12_few_139 Q X52 X67 x2 x4 x5 h s0) : W p l e rmX12_few s m args below meth c H locs 0 0 (MQ below (va_Qi Q (kB SM G) (aS SM G)) args s 0 0 (aS SM G)) (F0 m 139 ls [.int s0]) := by
  have hx := C.1
  have hb := C.2.1
  unfold w_X12_few_139 at hq
  refine lv_istore_n (lv' := [(3, .int s0), (0, .ref (G.2.2 0)), (2, .int x2), (4, .int x4), (5, .int x5)]) hx hb dX12_few_139 rfl hl (by decide) rfl (fun ls hl => ?_)
  refine lv_aload_n hx hb dX12_few_140 rfl (lv_at hl 1 rfl) ?_
  refine gt12_56 C hK hW (rfl : shM 0 = 12) (List.mem_cons_of_mem _ mw302) (fun _ h9 => List.mem_cons_of_mem _ (inU_wsX120 _ h9)) dX12_few_141 ?_
  refine lv_iload hx hb dX12_few_144 (lv_at hl 3 rfl) ?_
  refine lv_iload hx hb dX12_few_146 (lv_at hl 4 rfl) ?_
  refine k_iast okM C hK hW (shM_lt (rfl : shM 37 = 14) (by decide)) (fun g9 => ceM_14 (rfl : shM 37 = 14) (rfl : lnM 37 = 10000)) hq.1 dX12_few_148 (fun H locs hW => ?_)
  have hq := hq.2
  obtain ⟨h28, eh28⟩ : ∃ z : hp, z = sI h 37 (ix x4) x5 := ⟨_, rfl⟩
  rw [← eh28] at hW
  have hq := hq h28 eh28
  obtain ⟨x4_29, ex4_29⟩ : ∃ y : Int32, y = x4 + 1 := ⟨_, rfl⟩
  have hq := hq x4_29 ex4_29
  refine lv_iinc (v := x4_29) (lv' := [(4, .int x4_29), (3, .int s0), (0, .ref (G.2.2 0)), (2, .int x2), (5, .int x5)]) hx hb dX12_few_149 hl (k := 3) rfl (by rw [ex4_29]; rfl) (by decide) rfl (fun ls hl => ?_)
  refine lv_goto (tgt := 67) hx hb dX12_few_152 (by decide) ?_
  exact hX67 _ _ _ _ _ _ hW (lv_sub hl [2, 3, 1, 0] rfl) hq
theorem k_X12_few_b67 {Q : Int32 → hp → Prop} {X52 : Int32 × hp → Prop} {X67 : Int32 × Int32 × hp → Prop} {x2 : Int32} (C : kC p s m args meth c cX12_few 6 (some .int) RX12 wUX12_few) (hK : kK G s) (hX52 : ∀ (x2 : Int32) (h : hp) (H : Heap) (locs : List Loc) (ls : Array Slot), kW SM G h (aS SM G) s H locs → lv_has ls 6 [(0, .ref (G.2.2 0)), (2, .int x2)] → X52 (x2, h) → W p l e rmX12_few s m args below meth c H locs 0 0 (MQ below (va_Qi Q (kB SM G) (aS SM G)) args s 0 0 (aS SM G)) (F0 m 52 ls [])) (hX67 : ∀ (x3 : Int32) (x4 : Int32) (h : hp) (H : Heap) (locs : List Loc) (ls : Array Slot), kW SM G h (aS SM G) s H locs → lv_has ls 6 [(0, .ref (G.2.2 0)), (2, .int x2), (3, .int x3), (4, .int x4)] → X67 (x3, x4, h) → W p l e rmX12_few s m args below meth c H locs 0 0 (MQ below (va_Qi Q (kB SM G) (aS SM G)) args s 0 0 (aS SM G)) (F0 m 67 ls [])) {x3 : Int32} {x4 : Int32} {h : hp} {H : Heap} {locs : List Loc} {ls : Array Slot} (hW : kW SM G h (aS SM G) s H locs) (hl : lv_has ls 6 [(0, .ref (G.2.2 0)), (2, .int x2), (3, .int x3), (4, .int x4)]) (hq : w_X12_few_b67 Q X52 x2 X67 x3 x4 h) : W p l e rmX12_few s m args below meth c H locs 0 0 (MQ below (va_Qi Q (kB SM G) (aS SM G)) args s 0 0 (aS SM G)) (F0 m 67 ls []) := by
  have hx := C.1
  have hb := C.2.1
  unfold w_X12_few_b67 at hq
  refine lv_iload hx hb dX12_few_67 (lv_at hl 3 rfl) ?_
  refine lv_aload_n hx hb dX12_few_69 rfl (lv_at hl 0 rfl) ?_
  refine k_ci hW (va_runV (As := []) (rest := [.int x4]) (k_fix C) (c_X12_worldAll l G h _ hq) (cwV 0 C.2.2.2.2.2.1 (gU_V mw888 mw889 mw890 mw5 mw891) rfl rfl rfl (by decide +kernel) ⟨Nat.le_of_ble_eq_true rfl, Nat.le_of_ble_eq_true rfl⟩) (k_preV hK hW (shM_lt (rfl : shM 0 = 12) (by decide)) (ceM_12 (rfl : shM 0 = 12)) (q := (RX12, TX12, 73)) rfl) rfl rfl hl.1 rfl (lv_room (Nat.le_of_ble_eq_true rfl)) dX12_few_70 ⟨Nat.le_refl 0, Nat.le_refl 0⟩) (fun r14 h15 H locs hq hW => ?_)
  rw [hq.1] at hW
  have hq := hq.2
  refine lv_icmp_ge (tgt := 155) hx hb dX12_few_73 (by decide) (fun c16 => ?_) (fun c16 => ?_)
  · have hq := hq.1 c16
    refine lv_iload_n hx hb dX12_few_155 rfl (lv_at hl 2 rfl) ?_
    refine lv_if_ne (tgt := 161) hx hb dX12_few_156 (by decide) (fun c17 => ?_) (fun c17 => ?_)
    · have hq := hq.1 c17
      obtain ⟨x2_18, ex2_18⟩ : ∃ y : Int32, y = x2 + 1 := ⟨_, rfl⟩
      have hq := hq x2_18 ex2_18
      refine lv_iinc (v := x2_18) (lv' := [(2, .int x2_18), (0, .ref (G.2.2 0)), (3, .int x3), (4, .int x4)]) hx hb dX12_few_161 hl (k := 1) rfl (by rw [ex2_18]; rfl) (by decide) rfl (fun ls hl => ?_)
      refine lv_goto (tgt := 52) hx hb dX12_few_164 (by decide) ?_
      exact hX52 _ _ _ _ _ hW (lv_sub hl [1, 0] rfl) hq
    · have hq := hq.2 c17
      refine lv_iload_n hx hb dX12_few_159 rfl (lv_at hl 1 rfl) ?_
      exact k_iret rfl C hW dX12_few_160 hq
  · have hq := hq.2 c16
    refine lv_aload_n hx hb dX12_few_76 rfl (lv_at hl 0 rfl) ?_
    refine gt12_56 C hK hW (rfl : shM 0 = 12) (List.mem_cons_of_mem _ mw302) (fun _ h9 => List.mem_cons_of_mem _ (inU_wsX120 _ h9)) dX12_few_77 ?_
    refine lv_iload hx hb dX12_few_80 (lv_at hl 3 rfl) ?_
    refine k_iald C hK hW (shM_lt (rfl : shM 37 = 14) (by decide)) (ceM_14 (rfl : shM 37 = 14) (rfl : lnM 37 = 10000)) hq.1 dX12_few_82 ?_
    have hq := hq.2
    refine lv_if_ge (tgt := 89) hx hb dX12_few_83 (by decide) (fun c19 => ?_) (fun c19 => ?_)
    · have hq := hq.1 c19
      refine lv_aload_n hx hb dX12_few_89 rfl (lv_at hl 0 rfl) ?_
      refine gt12_52 C hK hW (rfl : shM 0 = 12) (List.mem_cons_of_mem _ mw300) (fun _ h9 => List.mem_cons_of_mem _ (inU_wsX120 _ h9)) dX12_few_90 ?_
      refine lv_aload_n hx hb dX12_few_93 rfl (lv_at hl 0 rfl) ?_
      refine lv_ldc2 (v := 10000) hx hb C.2.2.2.2.1 (C.2.2.2.2.2.1 _ (List.mem_cons_of_mem _ mw1114)) dX12_few_94 ?_
      refine lv_aload_n hx hb dX12_few_97 rfl (lv_at hl 0 rfl) ?_
      refine gt12_56 C hK hW (rfl : shM 0 = 12) (List.mem_cons_of_mem _ mw302) (fun _ h9 => List.mem_cons_of_mem _ (inU_wsX120 _ h9)) dX12_few_98 ?_
      refine lv_iload hx hb dX12_few_101 (lv_at hl 3 rfl) ?_
      refine k_iald C hK hW (shM_lt (rfl : shM 37 = 14) (by decide)) (ceM_14 (rfl : shM 37 = 14) (rfl : lnM 37 = 10000)) hq.1 dX12_few_103 ?_
      have hq := hq.2
      refine lv_i2l (v := (gI h 37 (ix x4)).toInt64) hx hb dX12_few_104 rfl ?_
      refine lv_lmul hx hb dX12_few_105 ?_
      refine lv_aload_n hx hb dX12_few_106 rfl (lv_at hl 0 rfl) ?_
      refine lv_iload hx hb dX12_few_107 (lv_at hl 3 rfl) ?_
      refine lv_iload_n hx hb dX12_few_109 rfl (lv_at hl 1 rfl) ?_
      refine lv_i2l (v := x2.toInt64) hx hb dX12_few_110 rfl ?_
      refine k_cl hW (va_runV (As := [.int x4, .long (x2.toInt64)]) (rest := [.long (10000 * ((gI h 37 (ix x4)).toInt64)), .ref (G.2.2 0), .ref (G.2.2 35)]) (k_fix C) (c_X12_worldComes l G h x4 (x2.toInt64) _ hq) (cwV 2 C.2.2.2.2.2.1 (gU_V mw892 mw893 mw894 mw5 mw895) rfl rfl rfl (by decide +kernel) ⟨Nat.le_of_ble_eq_true rfl, Nat.le_of_ble_eq_true rfl⟩) (k_preV hK hW (shM_lt (rfl : shM 0 = 12) (by decide)) (ceM_12 (rfl : shM 0 = 12)) (q := (RX12, TX12, 73)) rfl) rfl rfl hl.1 rfl (lv_room (Nat.le_of_ble_eq_true rfl)) dX12_few_111 ⟨Nat.le_refl 0, Nat.le_refl 0⟩) (fun r20 h21 H locs hq hW => ?_)
      rw [hq.1] at hW
      have hq := hq.2
      refine lv_ladd hx hb dX12_few_114 ?_
      refine lv_iload hx hb dX12_few_115 (lv_at hl 3 rfl) ?_
      refine k_ci hW (va_runV (As := [.long ((10000 * ((gI h 37 (ix x4)).toInt64)) + r20), .int x4]) (rest := [.ref (G.2.2 35)]) (k_fix C) (c_X12_keyAt l G h ((10000 * ((gI h 37 (ix x4)).toInt64)) + r20) x4 _ hq) (cwV 2 C.2.2.2.2.2.1 (gU_V mw900 mw901 mw902 mw5 mw903) rfl rfl rfl (by decide +kernel) ⟨Nat.le_of_ble_eq_true rfl, Nat.le_of_ble_eq_true rfl⟩) (k_preV hK hW (shM_lt (rfl : shM 0 = 12) (by decide)) (ceM_12 (rfl : shM 0 = 12)) (q := (RX12, TX12, 73)) rfl) rfl rfl hl.1 rfl (lv_room (Nat.le_of_ble_eq_true rfl)) dX12_few_117 ⟨Nat.le_refl 0, Nat.le_refl 0⟩) (fun r23 h22 H locs hq hW => ?_)
      refine k_iald C hK hW (shM_lt (rfl : shM 35 = 14) (by decide)) (ceM_14 (rfl : shM 35 = 14) (rfl : lnM 35 = 32768)) hq.1 dX12_few_120 ?_
      have hq := hq.2
      refine lv_topi (fun x5_24 ex5_24 => ?_)
      have hq := hq x5_24 ex5_24
      refine lv_istore (lv' := [(5, .int x5_24), (0, .ref (G.2.2 0)), (2, .int x2), (3, .int x3), (4, .int x4)]) hx hb dX12_few_121 hl (by decide) rfl (fun ls hl => ?_)
      refine lv_iload_n hx hb dX12_few_123 rfl (lv_at hl 3 rfl) ?_
      refine lv_if_ne (tgt := 134) hx hb dX12_few_124 (by decide) (fun c25 => ?_) (fun c25 => ?_)
      · have hq := hq.1 c25
        refine lv_iconst (v := 1) hx hb dX12_few_134 (by decide) ?_
        refine lv_goto (tgt := 139) hx hb dX12_few_135 (by decide) ?_
        exact k_X12_few_139 C hK hX52 hX67 hW (lv_sub hl [1, 2, 4, 0] rfl) hq
      · have hq := hq.2 c25
        refine lv_iload hx hb dX12_few_127 (lv_at hl 0 rfl) ?_
        refine lv_iload hx hb dX12_few_129 (lv_at hl 4 rfl) ?_
        refine lv_icmp_eq (tgt := 138) hx hb dX12_few_131 (by decide) (fun c26 => ?_) (fun c26 => ?_)
        · have hq := hq.1 c26
          refine lv_iconst (v := 0) hx hb dX12_few_138 (by decide) ?_
          exact k_X12_few_139 C hK hX52 hX67 hW (lv_sub hl [1, 2, 4, 0] rfl) hq
        · have hq := hq.2 c26
          refine lv_iconst (v := 1) hx hb dX12_few_134 (by decide) ?_
          refine lv_goto (tgt := 139) hx hb dX12_few_135 (by decide) ?_
          exact k_X12_few_139 C hK hX52 hX67 hW (lv_sub hl [1, 2, 4, 0] rfl) hq
    · have hq := hq.2 c19
      refine lv_goto (tgt := 149) hx hb dX12_few_86 (by decide) ?_
      obtain ⟨x4_27, ex4_27⟩ : ∃ y : Int32, y = x4 + 1 := ⟨_, rfl⟩
      have hq := hq x4_27 ex4_27
      refine lv_iinc (v := x4_27) (lv' := [(4, .int x4_27), (0, .ref (G.2.2 0)), (2, .int x2), (3, .int x3)]) hx hb dX12_few_149 hl (k := 3) rfl (by rw [ex4_27]; rfl) (by decide) rfl (fun ls hl => ?_)
      refine lv_goto (tgt := 67) hx hb dX12_few_152 (by decide) ?_
      exact hX67 _ _ _ _ _ _ hW (lv_sub hl [1, 2, 3, 0] rfl) hq
theorem k_X12_few_67 {Q : Int32 → hp → Prop} {X52 : Int32 × hp → Prop} {x2 : Int32} (C : kC p s m args meth c cX12_few 6 (some .int) RX12 wUX12_few) (hK : kK G s) (hX52 : ∀ (x2 : Int32) (h : hp) (H : Heap) (locs : List Loc) (ls : Array Slot), kW SM G h (aS SM G) s H locs → lv_has ls 6 [(0, .ref (G.2.2 0)), (2, .int x2)] → X52 (x2, h) → W p l e rmX12_few s m args below meth c H locs 0 0 (MQ below (va_Qi Q (kB SM G) (aS SM G)) args s 0 0 (aS SM G)) (F0 m 52 ls [])) {x3 : Int32} {x4 : Int32} {h : hp} {H : Heap} {locs : List Loc} {ls : Array Slot} (hW : kW SM G h (aS SM G) s H locs) (hl : lv_has ls 6 [(0, .ref (G.2.2 0)), (2, .int x2), (3, .int x3), (4, .int x4)]) (hq : w_X12_few_67 Q X52 x2 x3 x4 h) : W p l e rmX12_few s m args below meth c H locs 0 0 (MQ below (va_Qi Q (kB SM G) (aS SM G)) args s 0 0 (aS SM G)) (F0 m 67 ls []) := by
  have key := hq (fun (q : Int32 × Int32 × hp) => ∀ (H : Heap) (locs : List Loc) (ls : Array Slot), kW SM G q.2.2 (aS SM G) s H locs → lv_has ls 6 [(0, .ref (G.2.2 0)), (2, .int x2), (3, .int q.1), (4, .int q.2.1)] → W p l e rmX12_few s m args below meth c H locs 0 0 (MQ below (va_Qi Q (kB SM G) (aS SM G)) args s 0 0 (aS SM G)) (F0 m 67 ls []))
    (fun q hq H locs ls hW hl => k_X12_few_b67 C hK hX52 (fun x3 x4 h H locs ls hW hl hI => hI H locs ls hW hl) hW hl hq)
  exact key _ _ _ hW hl
theorem k_X12_few_b52 {Q : Int32 → hp → Prop} {X52 : Int32 × hp → Prop} (C : kC p s m args meth c cX12_few 6 (some .int) RX12 wUX12_few) (hK : kK G s) (hX52 : ∀ (x2 : Int32) (h : hp) (H : Heap) (locs : List Loc) (ls : Array Slot), kW SM G h (aS SM G) s H locs → lv_has ls 6 [(0, .ref (G.2.2 0)), (2, .int x2)] → X52 (x2, h) → W p l e rmX12_few s m args below meth c H locs 0 0 (MQ below (va_Qi Q (kB SM G) (aS SM G)) args s 0 0 (aS SM G)) (F0 m 52 ls [])) {x2 : Int32} {h : hp} {H : Heap} {locs : List Loc} {ls : Array Slot} (hW : kW SM G h (aS SM G) s H locs) (hl : lv_has ls 6 [(0, .ref (G.2.2 0)), (2, .int x2)]) (hq : w_X12_few_b52 Q X52 x2 h) : W p l e rmX12_few s m args below meth c H locs 0 0 (MQ below (va_Qi Q (kB SM G) (aS SM G)) args s 0 0 (aS SM G)) (F0 m 52 ls []) := by
  have hx := C.1
  have hb := C.2.1
  unfold w_X12_few_b52 at hq
  refine lv_iload_n hx hb dX12_few_52 rfl (lv_at hl 1 rfl) ?_
  refine lv_bipush (v := 10) hx hb dX12_few_53 (by decide) ?_
  refine lv_icmp_ge (tgt := 167) hx hb dX12_few_55 (by decide) (fun c12 => ?_) (fun c12 => ?_)
  · have hq := hq.1 c12
    refine lv_bipush (v := (-2)) hx hb dX12_few_167 (by decide) ?_
    exact k_iret rfl C hW dX12_few_169 hq
  · have hq := hq.2 c12
    refine lv_aload_n hx hb dX12_few_58 rfl (lv_at hl 0 rfl) ?_
    refine k_cv hW (va_runV (As := []) (rest := []) (k_fix C) (c_X12_clears l G h _ hq) (cwV 0 C.2.2.2.2.2.1 (gU_V mw884 mw885 mw886 mw5 mw887) rfl rfl rfl (by decide +kernel) ⟨Nat.le_of_ble_eq_true rfl, Nat.le_of_ble_eq_true rfl⟩) (k_preV hK hW (shM_lt (rfl : shM 0 = 12) (by decide)) (ceM_12 (rfl : shM 0 = 12)) (q := (RX12, TX12, 73)) rfl) rfl rfl hl.1 rfl (lv_room (Nat.le_of_ble_eq_true rfl)) dX12_few_59 ⟨Nat.le_refl 0, Nat.le_refl 0⟩) (fun h13 H locs hq hW => ?_)
    refine lv_iconst (v := 0) hx hb dX12_few_62 (by decide) ?_
    refine lv_istore_n (lv' := [(3, .int 0), (0, .ref (G.2.2 0)), (2, .int x2)]) hx hb dX12_few_63 rfl hl (by decide) rfl (fun ls hl => ?_)
    refine lv_iconst (v := 0) hx hb dX12_few_64 (by decide) ?_
    refine lv_istore (lv' := [(4, .int 0), (3, .int 0), (0, .ref (G.2.2 0)), (2, .int x2)]) hx hb dX12_few_65 hl (by decide) rfl (fun ls hl => ?_)
    exact k_X12_few_67 C hK hX52 hW (lv_sub hl [2, 3, 1, 0] rfl) hq
theorem k_X12_few_52 {Q : Int32 → hp → Prop} (C : kC p s m args meth c cX12_few 6 (some .int) RX12 wUX12_few) (hK : kK G s) {x2 : Int32} {h : hp} {H : Heap} {locs : List Loc} {ls : Array Slot} (hW : kW SM G h (aS SM G) s H locs) (hl : lv_has ls 6 [(0, .ref (G.2.2 0)), (2, .int x2)]) (hq : w_X12_few_52 Q x2 h) : W p l e rmX12_few s m args below meth c H locs 0 0 (MQ below (va_Qi Q (kB SM G) (aS SM G)) args s 0 0 (aS SM G)) (F0 m 52 ls []) := by
  have key := hq (fun (q : Int32 × hp) => ∀ (H : Heap) (locs : List Loc) (ls : Array Slot), kW SM G q.2 (aS SM G) s H locs → lv_has ls 6 [(0, .ref (G.2.2 0)), (2, .int q.1)] → W p l e rmX12_few s m args below meth c H locs 0 0 (MQ below (va_Qi Q (kB SM G) (aS SM G)) args s 0 0 (aS SM G)) (F0 m 52 ls []))
    (fun q hq H locs ls hW hl => k_X12_few_b52 C hK (fun x2 h H locs ls hW hl hI => hI H locs ls hW hl) hW hl hq)
  exact key _ _ _ hW hl
theorem k_X12_few_b16 {Q : Int32 → hp → Prop} {X16 : Int32 × hp → Prop} {x1 : Int32} (C : kC p s m args meth c cX12_few 6 (some .int) RX12 wUX12_few) (hK : kK G s) (hX16 : ∀ (x2 : Int32) (h : hp) (H : Heap) (locs : List Loc) (ls : Array Slot), kW SM G h (aS SM G) s H locs → lv_has ls 6 [(0, .ref (G.2.2 0)), (1, .int x1), (2, .int x2)] → X16 (x2, h) → W p l e rmX12_few s m args below meth c H locs 0 0 (MQ below (va_Qi Q (kB SM G) (aS SM G)) args s 0 0 (aS SM G)) (F0 m 16 ls [])) {x2 : Int32} {h : hp} {H : Heap} {locs : List Loc} {ls : Array Slot} (hW : kW SM G h (aS SM G) s H locs) (hl : lv_has ls 6 [(0, .ref (G.2.2 0)), (1, .int x1), (2, .int x2)]) (hq : w_X12_few_b16 Q x1 X16 x2 h) : W p l e rmX12_few s m args below meth c H locs 0 0 (MQ below (va_Qi Q (kB SM G) (aS SM G)) args s 0 0 (aS SM G)) (F0 m 16 ls []) := by
  have hx := C.1
  have hb := C.2.1
  unfold w_X12_few_b16 at hq
  refine lv_iload_n hx hb dX12_few_16 rfl (lv_at hl 2 rfl) ?_
  refine lv_aload_n hx hb dX12_few_17 rfl (lv_at hl 0 rfl) ?_
  refine k_ci hW (va_runV (As := []) (rest := [.int x2]) (k_fix C) (c_X12_worldAll l G h _ hq) (cwV 0 C.2.2.2.2.2.1 (gU_V mw888 mw889 mw890 mw5 mw891) rfl rfl rfl (by decide +kernel) ⟨Nat.le_of_ble_eq_true rfl, Nat.le_of_ble_eq_true rfl⟩) (k_preV hK hW (shM_lt (rfl : shM 0 = 12) (by decide)) (ceM_12 (rfl : shM 0 = 12)) (q := (RX12, TX12, 73)) rfl) rfl rfl hl.1 rfl (lv_room (Nat.le_of_ble_eq_true rfl)) dX12_few_18 ⟨Nat.le_refl 0, Nat.le_refl 0⟩) (fun r4 h5 H locs hq hW => ?_)
  rw [hq.1] at hW
  have hq := hq.2
  refine lv_icmp_ge (tgt := 50) hx hb dX12_few_21 (by decide) (fun c6 => ?_) (fun c6 => ?_)
  · have hq := hq.1 c6
    refine lv_iconst (v := 1) hx hb dX12_few_50 (by decide) ?_
    refine lv_istore_n (lv' := [(2, .int 1), (0, .ref (G.2.2 0)), (1, .int x1)]) hx hb dX12_few_51 rfl hl (by decide) rfl (fun ls hl => ?_)
    exact k_X12_few_52 C hK hW (lv_sub hl [1, 0] rfl) hq
  · have hq := hq.2 c6
    refine lv_aload_n hx hb dX12_few_24 rfl (lv_at hl 0 rfl) ?_
    refine gt12_56 C hK hW (rfl : shM 0 = 12) (List.mem_cons_of_mem _ mw302) (fun _ h9 => List.mem_cons_of_mem _ (inU_wsX120 _ h9)) dX12_few_25 ?_
    refine lv_iload_n hx hb dX12_few_28 rfl (lv_at hl 2 rfl) ?_
    refine lv_aload_n hx hb dX12_few_29 rfl (lv_at hl 0 rfl) ?_
    refine lv_iload_n hx hb dX12_few_30 rfl (lv_at hl 2 rfl) ?_
    refine k_ci hW (va_runV (As := [.int x2]) (rest := [.int x2, .ref (G.2.2 37)]) (k_fix C) (c_X12_fullPlaces l G h x2 _ hq) (cwV 1 C.2.2.2.2.2.1 (gU_V mw1002 mw1003 mw1004 mw5 mw1005) rfl rfl rfl (by decide +kernel) ⟨Nat.le_of_ble_eq_true rfl, Nat.le_of_ble_eq_true rfl⟩) (k_preV hK hW (shM_lt (rfl : shM 0 = 12) (by decide)) (ceM_12 (rfl : shM 0 = 12)) (q := (RX12, TX12, 73)) rfl) rfl rfl hl.1 rfl (lv_room (Nat.le_of_ble_eq_true rfl)) dX12_few_31 ⟨Nat.le_refl 0, Nat.le_refl 0⟩) (fun r7 h8 H locs hq hW => ?_)
    rw [hq.1] at hW
    have hq := hq.2
    refine lv_iload_n hx hb dX12_few_34 rfl (lv_at hl 1 rfl) ?_
    refine lv_icmp_gt (tgt := 42) hx hb dX12_few_35 (by decide) (fun c9 => ?_) (fun c9 => ?_)
    · have hq := hq.1 c9
      refine lv_iconst (v := (-1)) hx hb dX12_few_42 (by decide) ?_
      exact k_X12_few_43 C hK hX16 hW (lv_sub hl [0, 1, 2] rfl) hq
    · have hq := hq.2 c9
      refine lv_iconst (v := 0) hx hb dX12_few_38 (by decide) ?_
      refine lv_goto (tgt := 43) hx hb dX12_few_39 (by decide) ?_
      exact k_X12_few_43 C hK hX16 hW (lv_sub hl [0, 1, 2] rfl) hq
theorem k_X12_few_16 {Q : Int32 → hp → Prop} {x1 : Int32} (C : kC p s m args meth c cX12_few 6 (some .int) RX12 wUX12_few) (hK : kK G s) {x2 : Int32} {h : hp} {H : Heap} {locs : List Loc} {ls : Array Slot} (hW : kW SM G h (aS SM G) s H locs) (hl : lv_has ls 6 [(0, .ref (G.2.2 0)), (1, .int x1), (2, .int x2)]) (hq : w_X12_few_16 Q x1 x2 h) : W p l e rmX12_few s m args below meth c H locs 0 0 (MQ below (va_Qi Q (kB SM G) (aS SM G)) args s 0 0 (aS SM G)) (F0 m 16 ls []) := by
  have key := hq (fun (q : Int32 × hp) => ∀ (H : Heap) (locs : List Loc) (ls : Array Slot), kW SM G q.2 (aS SM G) s H locs → lv_has ls 6 [(0, .ref (G.2.2 0)), (1, .int x1), (2, .int q.1)] → W p l e rmX12_few s m args below meth c H locs 0 0 (MQ below (va_Qi Q (kB SM G) (aS SM G)) args s 0 0 (aS SM G)) (F0 m 16 ls []))
    (fun q hq H locs ls hW hl => k_X12_few_b16 C hK (fun x2 h H locs ls hW hl hI => hI H locs ls hW hl) hW hl hq)
  exact key _ _ _ hW hl
theorem k_X12_few_0 {Q : Int32 → hp → Prop} {x1 : Int32} {h : hp} (C : kC p s m args meth c cX12_few 6 (some .int) RX12 wUX12_few) (hK : kK G s) {H : Heap} {locs : List Loc} {ls : Array Slot} (hW : kW SM G h (aS SM G) s H locs) (hl : lv_has ls 6 [(0, .ref (G.2.2 0)), (1, .int x1)]) (hq : w_X12_few_0 Q x1 h) : W p l e rmX12_few s m args below meth c H locs 0 0 (MQ below (va_Qi Q (kB SM G) (aS SM G)) args s 0 0 (aS SM G)) (F0 m 0 ls []) := by
  have hx := C.1
  have hb := C.2.1
  unfold w_X12_few_0 at hq
  refine lv_iload_n hx hb dX12_few_0 rfl (lv_at hl 1 rfl) ?_
  refine lv_i2l (v := x1.toInt64) hx hb dX12_few_1 rfl ?_
  refine lv_lconst (v := 0) hx hb dX12_few_2 (by decide) ?_
  refine lv_ldc2 (v := 4) hx hb C.2.2.2.2.1 (C.2.2.2.2.2.1 _ (List.mem_cons_of_mem _ mw993)) dX12_few_3 ?_
  refine k_ci hW (va_runS (As := [.long (x1.toInt64), .long 0, .long 4]) (rest := []) (k_fix C) (c_X12_in l G h (x1.toInt64) 0 4 _ hq) (va_cwS 3 C.2.2.2.2.2.1 (gU_S mw762 mw763 mw5 mw764) rfl rfl rfl (by decide +kernel) ⟨Nat.le_of_ble_eq_true rfl, Nat.le_of_ble_eq_true rfl⟩) (k_preS hK hW) rfl rfl hl.1 rfl (lv_room (Nat.le_of_ble_eq_true rfl)) dX12_few_6 ⟨Nat.le_refl 0, Nat.le_refl 0⟩) (fun r1 h2 H locs hq hW => ?_)
  rw [hq.1] at hW
  have hq := hq.2
  refine lv_if_ne (tgt := 14) hx hb dX12_few_9 (by decide) (fun c3 => ?_) (fun c3 => ?_)
  · have hq := hq.1 c3
    refine lv_iconst (v := 0) hx hb dX12_few_14 (by decide) ?_
    refine lv_istore_n (lv' := [(2, .int 0), (0, .ref (G.2.2 0)), (1, .int x1)]) hx hb dX12_few_15 rfl hl (by decide) rfl (fun ls hl => ?_)
    exact k_X12_few_16 C hK hW (lv_sub hl [1, 2, 0] rfl) hq
  · have hq := hq.2 c3
    refine lv_iconst (v := (-1)) hx hb dX12_few_12 (by decide) ?_
    exact k_iret rfl C hW dX12_few_13 hq
theorem c_X12_few (l : Launch) (G : wG) (h : hp) (x1 : Int32) (Q : Int32 → hp → Prop) (hq : w_X12_few h x1 Q) : ctI l SM G yX12_few wUX12_few rmX12_few h [.ref (G.2.2 0), .int x1] Q := by
  refine k_start (cc := cX12_few) (maxL := 6) (rt := (some .int)) (own := RX12) (by decide +kernel) rfl rfl (Nat.le_of_ble_eq_true rfl) ?_
  intro p e s m below meth c ls C hK hW hl
  exact k_X12_few_0 C hK hW hl hq
theorem k_X12_tell__0 {Q : Int32 → hp → Prop} {x1 : Int32} {x2 : Int64} {h : hp} (C : kC p s m args meth c cX12_tell_ 4 (some .int) RX12 wUX12_tell_) (hK : kK G s) {H : Heap} {locs : List Loc} {ls : Array Slot} (hW : kW SM G h (aS SM G) s H locs) (hl : lv_has ls 4 [(0, .ref (G.2.2 0)), (1, .int x1), (2, .long x2)]) (hq : w_X12_tell__0 Q x1 x2 h) : W p l e rmX12_tell_ s m args below meth c H locs 0 0 (MQ below (va_Qi Q (kB SM G) (aS SM G)) args s 0 0 (aS SM G)) (F0 m 0 ls []) := by
  have hx := C.1
  have hb := C.2.1
  unfold w_X12_tell__0 at hq
  refine lv_aload_n hx hb dX12_tell__0 rfl (lv_at hl 0 rfl) ?_
  refine gt12_57 C hK hW (rfl : shM 0 = 12) (List.mem_cons_of_mem _ mw617) (fun _ h9 => List.mem_cons_of_mem _ (inU_wsX120 _ h9)) dX12_tell__1 ?_
  refine lv_bipush (v := 20) hx hb dX12_tell__4 (by decide) ?_
  refine lv_icmp_eq (tgt := 36) hx hb dX12_tell__6 (by decide) (fun c1 => ?_) (fun c1 => ?_)
  · have hq := hq.1 c1
    refine lv_iconst (v := (-1)) hx hb dX12_tell__36 (by decide) ?_
    exact k_iret rfl C hW dX12_tell__37 hq
  · have hq := hq.2 c1
    refine lv_iload_n hx hb dX12_tell__9 rfl (lv_at hl 1 rfl) ?_
    refine lv_i2l (v := x1.toInt64) hx hb dX12_tell__10 rfl ?_
    refine lv_ldc2 (v := (-99)) hx hb C.2.2.2.2.1 (C.2.2.2.2.2.1 _ (List.mem_cons_of_mem _ mw946)) dX12_tell__11 ?_
    refine lv_ldc2 (v := 99) hx hb C.2.2.2.2.1 (C.2.2.2.2.2.1 _ (List.mem_cons_of_mem _ mw947)) dX12_tell__14 ?_
    refine k_ci hW (va_runS (As := [.long (x1.toInt64), .long (-99), .long 99]) (rest := []) (k_fix C) (c_X12_in l G h (x1.toInt64) (-99) 99 _ hq) (va_cwS 3 C.2.2.2.2.2.1 (gU_S mw762 mw763 mw5 mw764) rfl rfl rfl (by decide +kernel) ⟨Nat.le_of_ble_eq_true rfl, Nat.le_of_ble_eq_true rfl⟩) (k_preS hK hW) rfl rfl hl.1 rfl (lv_room (Nat.le_of_ble_eq_true rfl)) dX12_tell__17 ⟨Nat.le_refl 0, Nat.le_refl 0⟩) (fun r2 h3 H locs hq hW => ?_)
    rw [hq.1] at hW
    have hq := hq.2
    refine lv_if_eq (tgt := 36) hx hb dX12_tell__20 (by decide) (fun c4 => ?_) (fun c4 => ?_)
    · have hq := hq.1 c4
      refine lv_iconst (v := (-1)) hx hb dX12_tell__36 (by decide) ?_
      exact k_iret rfl C hW dX12_tell__37 hq
    · have hq := hq.2 c4
      refine lv_lload_n hx hb dX12_tell__23 rfl (lv_at hl 2 rfl) ?_
      refine lv_ldc2 (v := (-1000000000000000)) hx hb C.2.2.2.2.1 (C.2.2.2.2.2.1 _ (List.mem_cons_of_mem _ mw948)) dX12_tell__24 ?_
      refine lv_ldc2 (v := 1000000000000000) hx hb C.2.2.2.2.1 (C.2.2.2.2.2.1 _ (List.mem_cons_of_mem _ mw949)) dX12_tell__27 ?_
      refine k_ci hW (va_runS (As := [.long x2, .long (-1000000000000000), .long 1000000000000000]) (rest := []) (k_fix C) (c_X12_in l G h x2 (-1000000000000000) 1000000000000000 _ hq) (va_cwS 3 C.2.2.2.2.2.1 (gU_S mw762 mw763 mw5 mw764) rfl rfl rfl (by decide +kernel) ⟨Nat.le_of_ble_eq_true rfl, Nat.le_of_ble_eq_true rfl⟩) (k_preS hK hW) rfl rfl hl.1 rfl (lv_room (Nat.le_of_ble_eq_true rfl)) dX12_tell__30 ⟨Nat.le_refl 0, Nat.le_refl 0⟩) (fun r5 h6 H locs hq hW => ?_)
      rw [hq.1] at hW
      have hq := hq.2
      refine lv_if_ne (tgt := 38) hx hb dX12_tell__33 (by decide) (fun c7 => ?_) (fun c7 => ?_)
      · have hq := hq.1 c7
        refine lv_aload_n hx hb dX12_tell__38 rfl (lv_at hl 0 rfl) ?_
        refine gt12_58 C hK hW (rfl : shM 0 = 12) (List.mem_cons_of_mem _ mw303) (fun _ h9 => List.mem_cons_of_mem _ (inU_wsX120 _ h9)) dX12_tell__39 ?_
        refine lv_aload_n hx hb dX12_tell__42 rfl (lv_at hl 0 rfl) ?_
        refine gt12_57 C hK hW (rfl : shM 0 = 12) (List.mem_cons_of_mem _ mw617) (fun _ h9 => List.mem_cons_of_mem _ (inU_wsX120 _ h9)) dX12_tell__43 ?_
        refine lv_iload_n hx hb dX12_tell__46 rfl (lv_at hl 1 rfl) ?_
        refine k_iast okM C hK hW (shM_lt (rfl : shM 38 = 14) (by decide)) (fun g9 => ceM_14 (rfl : shM 38 = 14) (rfl : lnM 38 = 20)) hq.1 dX12_tell__47 (fun H locs hW => ?_)
        have hq := hq.2
        obtain ⟨h8, eh8⟩ : ∃ z : hp, z = sI h 38 (ix (gI h 0 57)) x1 := ⟨_, rfl⟩
        rw [← eh8] at hW
        have hq := hq h8 eh8
        refine lv_aload_n hx hb dX12_tell__48 rfl (lv_at hl 0 rfl) ?_
        refine gt12_59 C hK hW (rfl : shM 0 = 12) (List.mem_cons_of_mem _ mw304) (fun _ h9 => List.mem_cons_of_mem _ (inU_wsX120 _ h9)) dX12_tell__49 ?_
        refine lv_aload_n hx hb dX12_tell__52 rfl (lv_at hl 0 rfl) ?_
        refine gt12_57 C hK hW (rfl : shM 0 = 12) (List.mem_cons_of_mem _ mw617) (fun _ h9 => List.mem_cons_of_mem _ (inU_wsX120 _ h9)) dX12_tell__53 ?_
        refine lv_lload_n hx hb dX12_tell__56 rfl (lv_at hl 2 rfl) ?_
        refine k_last okM C hK hW (shM_lt (rfl : shM 39 = 15) (by decide)) (fun g9 => ceM_15 (rfl : shM 39 = 15) (rfl : lnM 39 = 20)) hq.1 dX12_tell__57 (fun H locs hW => ?_)
        have hq := hq.2
        obtain ⟨h9, eh9⟩ : ∃ z : hp, z = sL h8 39 (ix (gI h8 0 57)) x2 := ⟨_, rfl⟩
        rw [← eh9] at hW
        have hq := hq h9 eh9
        refine lv_aload_n hx hb dX12_tell__58 rfl (lv_at hl 0 rfl) ?_
        refine lv_dup hx hb dX12_tell__59 rfl ?_
        refine gt12_57 C hK hW (rfl : shM 0 = 12) (List.mem_cons_of_mem _ mw617) (fun _ h9 => List.mem_cons_of_mem _ (inU_wsX120 _ h9)) dX12_tell__60 ?_
        refine lv_iconst (v := 1) hx hb dX12_tell__63 (by decide) ?_
        refine lv_iadd hx hb dX12_tell__64 ?_
        refine pt12_57 C hK hW (rfl : shM 0 = 12) (List.mem_cons_of_mem _ mw617) (fun _ h9 => List.mem_cons_of_mem _ (inU_wsX120 _ h9)) dX12_tell__65 (fun h10 H locs eh10 hW => ?_)
        have hq := hq h10 eh10
        refine lv_aload_n hx hb dX12_tell__68 rfl (lv_at hl 0 rfl) ?_
        refine gt12_57 C hK hW (rfl : shM 0 = 12) (List.mem_cons_of_mem _ mw617) (fun _ h9 => List.mem_cons_of_mem _ (inU_wsX120 _ h9)) dX12_tell__69 ?_
        refine lv_iconst (v := 1) hx hb dX12_tell__72 (by decide) ?_
        refine lv_isub hx hb dX12_tell__73 ?_
        exact k_iret rfl C hW dX12_tell__74 hq
      · have hq := hq.2 c7
        refine lv_iconst (v := (-1)) hx hb dX12_tell__36 (by decide) ?_
        exact k_iret rfl C hW dX12_tell__37 hq
theorem c_X12_tell_ (l : Launch) (G : wG) (h : hp) (x1 : Int32) (x2 : Int64) (Q : Int32 → hp → Prop) (hq : w_X12_tell_ h x1 x2 Q) : ctI l SM G yX12_tell_ wUX12_tell_ rmX12_tell_ h [.ref (G.2.2 0), .int x1, .long x2] Q := by
  refine k_start (cc := cX12_tell_) (maxL := 4) (rt := (some .int)) (own := RX12) (by decide +kernel) rfl rfl (Nat.le_of_ble_eq_true rfl) ?_
  intro p e s m below meth c ls C hK hW hl
  exact k_X12_tell__0 C hK hW hl hq
theorem k_X12_forget_0 {Q : Int32 → hp → Prop} {h : hp} (C : kC p s m args meth c cX12_forget 2 (some .int) RX12 wUX12_forget) (hK : kK G s) {H : Heap} {locs : List Loc} {ls : Array Slot} (hW : kW SM G h (aS SM G) s H locs) (hl : lv_has ls 2 [(0, .ref (G.2.2 0))]) (hq : w_X12_forget_0 Q h) : W p l e rmX12_forget s m args below meth c H locs 0 0 (MQ below (va_Qi Q (kB SM G) (aS SM G)) args s 0 0 (aS SM G)) (F0 m 0 ls []) := by
  have hx := C.1
  have hb := C.2.1
  unfold w_X12_forget_0 at hq
  refine lv_aload_n hx hb dX12_forget_0 rfl (lv_at hl 0 rfl) ?_
  refine gt12_57 C hK hW (rfl : shM 0 = 12) (List.mem_cons_of_mem _ mw617) (fun _ h9 => List.mem_cons_of_mem _ (inU_wsX120 _ h9)) dX12_forget_1 ?_
  refine lv_topi (fun x1_1 ex1_1 => ?_)
  have hq := hq x1_1 ex1_1
  refine lv_istore_n (lv' := [(1, .int x1_1), (0, .ref (G.2.2 0))]) hx hb dX12_forget_4 rfl hl (by decide) rfl (fun ls hl => ?_)
  refine lv_aload_n hx hb dX12_forget_5 rfl (lv_at hl 1 rfl) ?_
  refine lv_iconst (v := 0) hx hb dX12_forget_6 (by decide) ?_
  refine pt12_57 C hK hW (rfl : shM 0 = 12) (List.mem_cons_of_mem _ mw617) (fun _ h9 => List.mem_cons_of_mem _ (inU_wsX120 _ h9)) dX12_forget_7 (fun h2 H locs eh2 hW => ?_)
  have hq := hq h2 eh2
  refine lv_iload_n hx hb dX12_forget_10 rfl (lv_at hl 0 rfl) ?_
  exact k_iret rfl C hW dX12_forget_11 hq
theorem c_X12_forget (l : Launch) (G : wG) (h : hp) (Q : Int32 → hp → Prop) (hq : w_X12_forget h Q) : ctI l SM G yX12_forget wUX12_forget rmX12_forget h [.ref (G.2.2 0)] Q := by
  refine k_start (cc := cX12_forget) (maxL := 2) (rt := (some .int)) (own := RX12) (by decide +kernel) rfl rfl (Nat.le_of_ble_eq_true rfl) ?_
  intro p e s m below meth c ls C hK hW hl
  exact k_X12_forget_0 C hK hW hl hq
theorem k_X12_isRight_0 {Q : Int32 → Prop} {x1 : Int32} {x2 : Int32} {h : hp} (C : kC p s m args meth c cX12_isRight 3 (some .boolean) RX12 wUX12_isRight) (hK : kK G s) {H : Heap} {locs : List Loc} {ls : Array Slot} (hW : kW SM G h (aS SM G) s H locs) (hl : lv_has ls 3 [(0, .ref (G.2.2 0)), (1, .int x1), (2, .int x2)]) (hq : w_X12_isRight_0 Q x1 x2 h) : W p l e rmX12_isRight s m args below meth c H locs 0 0 (MQ below (va_Qi (fun r9 h9 => h9 = h ∧ Q r9) (kB SM G) (aS SM G)) args s 0 0 (aS SM G)) (F0 m 0 ls []) := by
  have hx := C.1
  have hb := C.2.1
  unfold w_X12_isRight_0 at hq
  refine lv_aload_n hx hb dX12_isRight_0 rfl (lv_at hl 0 rfl) ?_
  refine lv_iload_n hx hb dX12_isRight_1 rfl (lv_at hl 1 rfl) ?_
  refine lv_aload_n hx hb dX12_isRight_2 rfl (lv_at hl 0 rfl) ?_
  refine gt12_58 C hK hW (rfl : shM 0 = 12) (List.mem_cons_of_mem _ mw303) (fun _ h9 => List.mem_cons_of_mem _ (inU_wsX120 _ h9)) dX12_isRight_3 ?_
  refine lv_iload_n hx hb dX12_isRight_6 rfl (lv_at hl 2 rfl) ?_
  refine k_iald C hK hW (shM_lt (rfl : shM 38 = 14) (by decide)) (ceM_14 (rfl : shM 38 = 14) (rfl : lnM 38 = 20)) hq.1 dX12_isRight_7 ?_
  have hq := hq.2
  refine lv_i2l (v := (gI h 38 (ix x2)).toInt64) hx hb dX12_isRight_8 rfl ?_
  refine k_cl hW (va_runV (As := [.int x1, .long ((gI h 38 (ix x2)).toInt64)]) (rest := []) (k_fix C) (c_X12_worldComes l G h x1 ((gI h 38 (ix x2)).toInt64) _ hq) (cwV 2 C.2.2.2.2.2.1 (gU_V mw892 mw893 mw894 mw5 mw895) rfl rfl rfl (by decide +kernel) ⟨Nat.le_of_ble_eq_true rfl, Nat.le_of_ble_eq_true rfl⟩) (k_preV hK hW (shM_lt (rfl : shM 0 = 12) (by decide)) (ceM_12 (rfl : shM 0 = 12)) (q := (RX12, TX12, 73)) rfl) rfl rfl hl.1 rfl (lv_room (Nat.le_of_ble_eq_true rfl)) dX12_isRight_9 ⟨Nat.le_refl 0, Nat.le_refl 0⟩) (fun r1 h2 H locs hq hW => ?_)
  rw [hq.1] at hW
  have hq := hq.2
  refine lv_aload_n hx hb dX12_isRight_12 rfl (lv_at hl 0 rfl) ?_
  refine gt12_59 C hK hW (rfl : shM 0 = 12) (List.mem_cons_of_mem _ mw304) (fun _ h9 => List.mem_cons_of_mem _ (inU_wsX120 _ h9)) dX12_isRight_13 ?_
  refine lv_iload_n hx hb dX12_isRight_16 rfl (lv_at hl 2 rfl) ?_
  refine k_lald C hK hW (shM_lt (rfl : shM 39 = 15) (by decide)) (ceM_15 (rfl : shM 39 = 15) (rfl : lnM 39 = 20)) hq.1 dX12_isRight_17 ?_
  have hq := hq.2
  refine W.lcmp hx hb dX12_isRight_18 ?_
  refine lv_if_ne (tgt := 26) hx hb dX12_isRight_19 (by decide) (fun c3 => ?_) (fun c3 => ?_)
  · have hq := hq.1 (fun z => c3 ((lg_cmp_eq _ _).mpr z))
    refine lv_iconst (v := 0) hx hb dX12_isRight_26 (by decide) ?_
    exact k_zret rfl isZ_0.1 C hW dX12_isRight_27 ⟨rfl, hq⟩
  · have hq := hq.2 ((lg_cmp_eq _ _).mp c3)
    refine lv_iconst (v := 1) hx hb dX12_isRight_22 (by decide) ?_
    refine lv_goto (tgt := 27) hx hb dX12_isRight_23 (by decide) ?_
    exact k_zret rfl isZ_1.1 C hW dX12_isRight_27 ⟨rfl, hq⟩
theorem c_X12_isRight (l : Launch) (G : wG) (h : hp) (x1 : Int32) (x2 : Int32) (Q : Int32 → Prop) (hq : w_X12_isRight h x1 x2 Q) : ctI l SM G yX12_isRight wUX12_isRight rmX12_isRight h [.ref (G.2.2 0), .int x1, .int x2] (fun r9 h9 => h9 = h ∧ Q r9) := by
  refine k_start (cc := cX12_isRight) (maxL := 3) (rt := (some .boolean)) (own := RX12) (by decide +kernel) rfl rfl (Nat.le_of_ble_eq_true rfl) ?_
  intro p e s m below meth c ls C hK hW hl
  exact k_X12_isRight_0 C hK hW hl hq
theorem k_X12_isFit_b18 {Q : Int32 → Prop} {X18 : Int32 × Int32 → Prop} {x1 : Int32} {x2 : Int32} {x3 : Int32} {h : hp} (C : kC p s m args meth c cX12_isFit 7 (some .boolean) RX12 wUX12_isFit) (hK : kK G s) (hX18 : ∀ (x5 : Int32) (x6 : Int32) (H : Heap) (locs : List Loc) (ls : Array Slot), kW SM G h (aS SM G) s H locs → lv_has ls 7 [(0, .ref (G.2.2 0)), (1, .int x1), (2, .int x2), (3, .int x3), (5, .int x5), (6, .int x6)] → X18 (x5, x6) → W p l e rmX12_isFit s m args below meth c H locs 0 0 (MQ below (va_Qi (fun r9 h9 => h9 = h ∧ Q r9) (kB SM G) (aS SM G)) args s 0 0 (aS SM G)) (F0 m 18 ls [])) {x5 : Int32} {x6 : Int32} {H : Heap} {locs : List Loc} {ls : Array Slot} (hW : kW SM G h (aS SM G) s H locs) (hl : lv_has ls 7 [(0, .ref (G.2.2 0)), (1, .int x1), (2, .int x2), (3, .int x3), (5, .int x5), (6, .int x6)]) (hq : w_X12_isFit_b18 Q x1 x2 x3 h X18 x5 x6) : W p l e rmX12_isFit s m args below meth c H locs 0 0 (MQ below (va_Qi (fun r9 h9 => h9 = h ∧ Q r9) (kB SM G) (aS SM G)) args s 0 0 (aS SM G)) (F0 m 18 ls []) := by
  have hx := C.1
  have hb := C.2.1
  unfold w_X12_isFit_b18 at hq
  refine lv_iload hx hb dX12_isFit_18 (lv_at hl 5 rfl) ?_
  refine lv_iload_n hx hb dX12_isFit_20 rfl (lv_at hl 2 rfl) ?_
  refine lv_icmp_ge (tgt := 43) hx hb dX12_isFit_21 (by decide) (fun c4 => ?_) (fun c4 => ?_)
  · have hq := hq.1 c4
    refine lv_iload hx hb dX12_isFit_43 (lv_at hl 4 rfl) ?_
    refine lv_iload_n hx hb dX12_isFit_45 rfl (lv_at hl 3 rfl) ?_
    refine lv_icmp_gt (tgt := 53) hx hb dX12_isFit_46 (by decide) (fun c5 => ?_) (fun c5 => ?_)
    · have hq := hq.1 c5
      refine lv_iconst (v := 0) hx hb dX12_isFit_53 (by decide) ?_
      exact k_zret rfl isZ_0.1 C hW dX12_isFit_54 ⟨rfl, hq⟩
    · have hq := hq.2 c5
      refine lv_iconst (v := 1) hx hb dX12_isFit_49 (by decide) ?_
      refine lv_goto (tgt := 54) hx hb dX12_isFit_50 (by decide) ?_
      exact k_zret rfl isZ_1.1 C hW dX12_isFit_54 ⟨rfl, hq⟩
  · have hq := hq.2 c4
    refine lv_aload_n hx hb dX12_isFit_24 rfl (lv_at hl 0 rfl) ?_
    refine lv_iload_n hx hb dX12_isFit_25 rfl (lv_at hl 1 rfl) ?_
    refine lv_iload hx hb dX12_isFit_26 (lv_at hl 5 rfl) ?_
    refine k_ci hW (va_runV (As := [.int x1, .int x6]) (rest := []) (k_fix C) (c_X12_isRight l G h x1 x6 _ hq) (cwV 2 C.2.2.2.2.2.1 (gU_V mw1006 mw1007 mw1008 mw5 mw1009) rfl rfl rfl (by decide +kernel) ⟨Nat.le_of_ble_eq_true rfl, Nat.le_of_ble_eq_true rfl⟩) (k_preV hK hW (shM_lt (rfl : shM 0 = 12) (by decide)) (ceM_12 (rfl : shM 0 = 12)) (q := (RX12, TX12, 73)) rfl) rfl rfl hl.1 rfl (lv_room (Nat.le_of_ble_eq_true rfl)) dX12_isFit_28 ⟨Nat.le_refl 0, Nat.le_refl 0⟩) (fun r6 h7 H locs hq hW => ?_)
    rw [hq.1] at hW
    have hq := hq.2
    refine lv_if_ne (tgt := 37) hx hb dX12_isFit_31 (by decide) (fun c8 => ?_) (fun c8 => ?_)
    · have hq := hq.1 c8
      obtain ⟨x6_9, ex6_9⟩ : ∃ y : Int32, y = x6 + 1 := ⟨_, rfl⟩
      have hq := hq x6_9 ex6_9
      refine lv_iinc (v := x6_9) (lv' := [(6, .int x6_9), (0, .ref (G.2.2 0)), (1, .int x1), (2, .int x2), (3, .int x3), (5, .int x5)]) hx hb dX12_isFit_37 hl (k := 5) rfl (by rw [ex6_9]; rfl) (by decide) rfl (fun ls hl => ?_)
      refine lv_goto (tgt := 18) hx hb dX12_isFit_40 (by decide) ?_
      exact hX18 _ _ _ _ _ hW (lv_sub hl [1, 2, 3, 4, 5, 0] rfl) hq
    · have hq := hq.2 c8
      obtain ⟨x5_10, ex5_10⟩ : ∃ y : Int32, y = x5 + 1 := ⟨_, rfl⟩
      have hq := hq x5_10 ex5_10
      refine lv_iinc (v := x5_10) (lv' := [(5, .int x5_10), (0, .ref (G.2.2 0)), (1, .int x1), (2, .int x2), (3, .int x3), (6, .int x6)]) hx hb dX12_isFit_34 hl (k := 4) rfl (by rw [ex5_10]; rfl) (by decide) rfl (fun ls hl => ?_)
      obtain ⟨x6_11, ex6_11⟩ : ∃ y : Int32, y = x6 + 1 := ⟨_, rfl⟩
      have hq := hq x6_11 ex6_11
      refine lv_iinc (v := x6_11) (lv' := [(6, .int x6_11), (5, .int x5_10), (0, .ref (G.2.2 0)), (1, .int x1), (2, .int x2), (3, .int x3)]) hx hb dX12_isFit_37 hl (k := 5) rfl (by rw [ex6_11]; rfl) (by decide) rfl (fun ls hl => ?_)
      refine lv_goto (tgt := 18) hx hb dX12_isFit_40 (by decide) ?_
      exact hX18 _ _ _ _ _ hW (lv_sub hl [2, 3, 4, 5, 1, 0] rfl) hq
theorem k_X12_isFit_18 {Q : Int32 → Prop} {x1 : Int32} {x2 : Int32} {x3 : Int32} {h : hp} (C : kC p s m args meth c cX12_isFit 7 (some .boolean) RX12 wUX12_isFit) (hK : kK G s) {x5 : Int32} {x6 : Int32} {H : Heap} {locs : List Loc} {ls : Array Slot} (hW : kW SM G h (aS SM G) s H locs) (hl : lv_has ls 7 [(0, .ref (G.2.2 0)), (1, .int x1), (2, .int x2), (3, .int x3), (5, .int x5), (6, .int x6)]) (hq : w_X12_isFit_18 Q x1 x2 x3 h x5 x6) : W p l e rmX12_isFit s m args below meth c H locs 0 0 (MQ below (va_Qi (fun r9 h9 => h9 = h ∧ Q r9) (kB SM G) (aS SM G)) args s 0 0 (aS SM G)) (F0 m 18 ls []) := by
  have key := hq (fun (q : Int32 × Int32) => ∀ (H : Heap) (locs : List Loc) (ls : Array Slot), kW SM G h (aS SM G) s H locs → lv_has ls 7 [(0, .ref (G.2.2 0)), (1, .int x1), (2, .int x2), (3, .int x3), (5, .int q.1), (6, .int q.2)] → W p l e rmX12_isFit s m args below meth c H locs 0 0 (MQ below (va_Qi (fun r9 h9 => h9 = h ∧ Q r9) (kB SM G) (aS SM G)) args s 0 0 (aS SM G)) (F0 m 18 ls []))
    (fun q hq H locs ls hW hl => k_X12_isFit_b18 C hK (fun x5 x6 H locs ls hW hl hI => hI H locs ls hW hl) hW hl hq)
  exact key _ _ _ hW hl
theorem k_X12_isFit_0 {Q : Int32 → Prop} {x1 : Int32} {x2 : Int32} {x3 : Int32} {x4 : Int32} {h : hp} (C : kC p s m args meth c cX12_isFit 7 (some .boolean) RX12 wUX12_isFit) (hK : kK G s) {H : Heap} {locs : List Loc} {ls : Array Slot} (hW : kW SM G h (aS SM G) s H locs) (hl : lv_has ls 7 [(0, .ref (G.2.2 0)), (1, .int x1), (2, .int x2), (3, .int x3), (4, .int x4)]) (hq : w_X12_isFit_0 Q x1 x2 x3 x4 h) : W p l e rmX12_isFit s m args below meth c H locs 0 0 (MQ below (va_Qi (fun r9 h9 => h9 = h ∧ Q r9) (kB SM G) (aS SM G)) args s 0 0 (aS SM G)) (F0 m 0 ls []) := by
  have hx := C.1
  have hb := C.2.1
  unfold w_X12_isFit_0 at hq
  refine lv_aload_n hx hb dX12_isFit_0 rfl (lv_at hl 0 rfl) ?_
  refine lv_iload_n hx hb dX12_isFit_1 rfl (lv_at hl 1 rfl) ?_
  refine k_ci hW (va_runV (As := [.int x1]) (rest := []) (k_fix C) (c_X12_fullPlaces l G h x1 _ hq) (cwV 1 C.2.2.2.2.2.1 (gU_V mw1002 mw1003 mw1004 mw5 mw1005) rfl rfl rfl (by decide +kernel) ⟨Nat.le_of_ble_eq_true rfl, Nat.le_of_ble_eq_true rfl⟩) (k_preV hK hW (shM_lt (rfl : shM 0 = 12) (by decide)) (ceM_12 (rfl : shM 0 = 12)) (q := (RX12, TX12, 73)) rfl) rfl rfl hl.1 rfl (lv_room (Nat.le_of_ble_eq_true rfl)) dX12_isFit_2 ⟨Nat.le_refl 0, Nat.le_refl 0⟩) (fun r1 h2 H locs hq hW => ?_)
  rw [hq.1] at hW
  have hq := hq.2
  refine lv_iload hx hb dX12_isFit_5 (lv_at hl 4 rfl) ?_
  refine lv_icmp_le (tgt := 12) hx hb dX12_isFit_7 (by decide) (fun c3 => ?_) (fun c3 => ?_)
  · have hq := hq.1 c3
    refine lv_iconst (v := 0) hx hb dX12_isFit_12 (by decide) ?_
    refine lv_istore (lv' := [(5, .int 0), (0, .ref (G.2.2 0)), (1, .int x1), (2, .int x2), (3, .int x3), (4, .int x4)]) hx hb dX12_isFit_13 hl (by decide) rfl (fun ls hl => ?_)
    refine lv_iconst (v := 0) hx hb dX12_isFit_15 (by decide) ?_
    refine lv_istore (lv' := [(6, .int 0), (5, .int 0), (0, .ref (G.2.2 0)), (1, .int x1), (2, .int x2), (3, .int x3), (4, .int x4)]) hx hb dX12_isFit_16 hl (by decide) rfl (fun ls hl => ?_)
    exact k_X12_isFit_18 C hK hW (lv_sub hl [2, 3, 4, 5, 1, 0] rfl) hq
  · have hq := hq.2 c3
    refine lv_iconst (v := 0) hx hb dX12_isFit_10 (by decide) ?_
    exact k_zret rfl isZ_0.1 C hW dX12_isFit_11 ⟨rfl, hq⟩
theorem c_X12_isFit (l : Launch) (G : wG) (h : hp) (x1 : Int32) (x2 : Int32) (x3 : Int32) (x4 : Int32) (Q : Int32 → Prop) (hq : w_X12_isFit h x1 x2 x3 x4 Q) : ctI l SM G yX12_isFit wUX12_isFit rmX12_isFit h [.ref (G.2.2 0), .int x1, .int x2, .int x3, .int x4] (fun r9 h9 => h9 = h ∧ Q r9) := by
  refine k_start (cc := cX12_isFit) (maxL := 7) (rt := (some .boolean)) (own := RX12) (by decide +kernel) rfl rfl (Nat.le_of_ble_eq_true rfl) ?_
  intro p e s m below meth c ls C hK hW hl
  exact k_X12_isFit_0 C hK hW hl hq
theorem k_X12_isAsked_0 {Q : Int32 → Prop} {x1 : Int32} {x2 : Int32} {x3 : Int32} {h : hp} (C : kC p s m args meth c cX12_isAsked 4 (some .boolean) RX12 wUX12_isAsked) (hK : kK G s) {H : Heap} {locs : List Loc} {ls : Array Slot} (hW : kW SM G h (aS SM G) s H locs) (hl : lv_has ls 4 [(0, .ref (G.2.2 0)), (1, .int x1), (2, .int x2), (3, .int x3)]) (hq : w_X12_isAsked_0 Q x1 x2 x3 h) : W p l e rmX12_isAsked s m args below meth c H locs 0 0 (MQ below (va_Qi (fun r9 h9 => h9 = h ∧ Q r9) (kB SM G) (aS SM G)) args s 0 0 (aS SM G)) (F0 m 0 ls []) := by
  have hx := C.1
  have hb := C.2.1
  unfold w_X12_isAsked_0 at hq
  refine lv_iload_n hx hb dX12_isAsked_0 rfl (lv_at hl 1 rfl) ?_
  refine lv_i2l (v := x1.toInt64) hx hb dX12_isAsked_1 rfl ?_
  refine lv_lconst (v := 0) hx hb dX12_isAsked_2 (by decide) ?_
  refine lv_aload_n hx hb dX12_isAsked_3 rfl (lv_at hl 0 rfl) ?_
  refine gt12_57 C hK hW (rfl : shM 0 = 12) (List.mem_cons_of_mem _ mw617) (fun _ h9 => List.mem_cons_of_mem _ (inU_wsX120 _ h9)) dX12_isAsked_4 ?_
  refine lv_i2l (v := (gI h 0 57).toInt64) hx hb dX12_isAsked_7 rfl ?_
  refine k_ci hW (va_runS (As := [.long (x1.toInt64), .long 0, .long ((gI h 0 57).toInt64)]) (rest := []) (k_fix C) (c_X12_in l G h (x1.toInt64) 0 ((gI h 0 57).toInt64) _ hq) (va_cwS 3 C.2.2.2.2.2.1 (gU_S mw762 mw763 mw5 mw764) rfl rfl rfl (by decide +kernel) ⟨Nat.le_of_ble_eq_true rfl, Nat.le_of_ble_eq_true rfl⟩) (k_preS hK hW) rfl rfl hl.1 rfl (lv_room (Nat.le_of_ble_eq_true rfl)) dX12_isAsked_8 ⟨Nat.le_refl 0, Nat.le_refl 0⟩) (fun r1 h2 H locs hq hW => ?_)
  rw [hq.1] at hW
  have hq := hq.2
  refine lv_if_eq (tgt := 42) hx hb dX12_isAsked_11 (by decide) (fun c3 => ?_) (fun c3 => ?_)
  · have hq := hq.1 c3
    refine lv_iconst (v := 0) hx hb dX12_isAsked_42 (by decide) ?_
    exact k_zret rfl isZ_0.1 C hW dX12_isAsked_43 ⟨rfl, hq⟩
  · have hq := hq.2 c3
    refine lv_iload_n hx hb dX12_isAsked_14 rfl (lv_at hl 2 rfl) ?_
    refine lv_i2l (v := x2.toInt64) hx hb dX12_isAsked_15 rfl ?_
    refine lv_lconst (v := 0) hx hb dX12_isAsked_16 (by decide) ?_
    refine lv_ldc2 (v := 20) hx hb C.2.2.2.2.1 (C.2.2.2.2.2.1 _ (List.mem_cons_of_mem _ mw992)) dX12_isAsked_17 ?_
    refine k_ci hW (va_runS (As := [.long (x2.toInt64), .long 0, .long 20]) (rest := []) (k_fix C) (c_X12_in l G h (x2.toInt64) 0 20 _ hq) (va_cwS 3 C.2.2.2.2.2.1 (gU_S mw762 mw763 mw5 mw764) rfl rfl rfl (by decide +kernel) ⟨Nat.le_of_ble_eq_true rfl, Nat.le_of_ble_eq_true rfl⟩) (k_preS hK hW) rfl rfl hl.1 rfl (lv_room (Nat.le_of_ble_eq_true rfl)) dX12_isAsked_20 ⟨Nat.le_refl 0, Nat.le_refl 0⟩) (fun r4 h5 H locs hq hW => ?_)
    rw [hq.1] at hW
    have hq := hq.2
    refine lv_if_eq (tgt := 42) hx hb dX12_isAsked_23 (by decide) (fun c6 => ?_) (fun c6 => ?_)
    · have hq := hq.1 c6
      refine lv_iconst (v := 0) hx hb dX12_isAsked_42 (by decide) ?_
      exact k_zret rfl isZ_0.1 C hW dX12_isAsked_43 ⟨rfl, hq⟩
    · have hq := hq.2 c6
      refine lv_iload_n hx hb dX12_isAsked_26 rfl (lv_at hl 3 rfl) ?_
      refine lv_i2l (v := x3.toInt64) hx hb dX12_isAsked_27 rfl ?_
      refine lv_lconst (v := 0) hx hb dX12_isAsked_28 (by decide) ?_
      refine lv_ldc2 (v := 4) hx hb C.2.2.2.2.1 (C.2.2.2.2.2.1 _ (List.mem_cons_of_mem _ mw993)) dX12_isAsked_29 ?_
      refine k_ci hW (va_runS (As := [.long (x3.toInt64), .long 0, .long 4]) (rest := []) (k_fix C) (c_X12_in l G h (x3.toInt64) 0 4 _ hq) (va_cwS 3 C.2.2.2.2.2.1 (gU_S mw762 mw763 mw5 mw764) rfl rfl rfl (by decide +kernel) ⟨Nat.le_of_ble_eq_true rfl, Nat.le_of_ble_eq_true rfl⟩) (k_preS hK hW) rfl rfl hl.1 rfl (lv_room (Nat.le_of_ble_eq_true rfl)) dX12_isAsked_32 ⟨Nat.le_refl 0, Nat.le_refl 0⟩) (fun r7 h8 H locs hq hW => ?_)
      rw [hq.1] at hW
      have hq := hq.2
      refine lv_if_eq (tgt := 42) hx hb dX12_isAsked_35 (by decide) (fun c9 => ?_) (fun c9 => ?_)
      · have hq := hq.1 c9
        refine lv_iconst (v := 0) hx hb dX12_isAsked_42 (by decide) ?_
        exact k_zret rfl isZ_0.1 C hW dX12_isAsked_43 ⟨rfl, hq⟩
      · have hq := hq.2 c9
        refine lv_iconst (v := 1) hx hb dX12_isAsked_38 (by decide) ?_
        refine lv_goto (tgt := 43) hx hb dX12_isAsked_39 (by decide) ?_
        exact k_zret rfl isZ_1.1 C hW dX12_isAsked_43 ⟨rfl, hq⟩
theorem c_X12_isAsked (l : Launch) (G : wG) (h : hp) (x1 : Int32) (x2 : Int32) (x3 : Int32) (Q : Int32 → Prop) (hq : w_X12_isAsked h x1 x2 x3 Q) : ctI l SM G yX12_isAsked wUX12_isAsked rmX12_isAsked h [.ref (G.2.2 0), .int x1, .int x2, .int x3] (fun r9 h9 => h9 = h ∧ Q r9) := by
  refine k_start (cc := cX12_isAsked) (maxL := 4) (rt := (some .boolean)) (own := RX12) (by decide +kernel) rfl rfl (Nat.le_of_ble_eq_true rfl) ?_
  intro p e s m below meth c ls C hK hW hl
  exact k_X12_isAsked_0 C hK hW hl hq
theorem k_X12_fillsFits_b6 {Q : Int32 → hp → Prop} {X6 : Int32 × Int32 × hp → Prop} {x1 : Int32} {x2 : Int32} {x3 : Int32} (C : kC p s m args meth c cX12_fillsFits 6 (some .int) RX12 wUX12_fillsFits) (hK : kK G s) (hX6 : ∀ (x4 : Int32) (x5 : Int32) (h : hp) (H : Heap) (locs : List Loc) (ls : Array Slot), kW SM G h (aS SM G) s H locs → lv_has ls 6 [(0, .ref (G.2.2 0)), (1, .int x1), (2, .int x2), (3, .int x3), (4, .int x4), (5, .int x5)] → X6 (x4, x5, h) → W p l e rmX12_fillsFits s m args below meth c H locs 0 0 (MQ below (va_Qi Q (kB SM G) (aS SM G)) args s 0 0 (aS SM G)) (F0 m 6 ls [])) {x4 : Int32} {x5 : Int32} {h : hp} {H : Heap} {locs : List Loc} {ls : Array Slot} (hW : kW SM G h (aS SM G) s H locs) (hl : lv_has ls 6 [(0, .ref (G.2.2 0)), (1, .int x1), (2, .int x2), (3, .int x3), (4, .int x4), (5, .int x5)]) (hq : w_X12_fillsFits_b6 Q x1 x2 x3 X6 x4 x5 h) : W p l e rmX12_fillsFits s m args below meth c H locs 0 0 (MQ below (va_Qi Q (kB SM G) (aS SM G)) args s 0 0 (aS SM G)) (F0 m 6 ls []) := by
  have hx := C.1
  have hb := C.2.1
  unfold w_X12_fillsFits_b6 at hq
  refine lv_iload hx hb dX12_fillsFits_6 (lv_at hl 5 rfl) ?_
  refine lv_aload_n hx hb dX12_fillsFits_8 rfl (lv_at hl 0 rfl) ?_
  refine k_ci hW (va_runV (As := []) (rest := [.int x5]) (k_fix C) (c_X12_worldAll l G h _ hq) (cwV 0 C.2.2.2.2.2.1 (gU_V mw888 mw889 mw890 mw5 mw891) rfl rfl rfl (by decide +kernel) ⟨Nat.le_of_ble_eq_true rfl, Nat.le_of_ble_eq_true rfl⟩) (k_preV hK hW (shM_lt (rfl : shM 0 = 12) (by decide)) (ceM_12 (rfl : shM 0 = 12)) (q := (RX12, TX12, 73)) rfl) rfl rfl hl.1 rfl (lv_room (Nat.le_of_ble_eq_true rfl)) dX12_fillsFits_9 ⟨Nat.le_refl 0, Nat.le_refl 0⟩) (fun r1 h2 H locs hq hW => ?_)
  rw [hq.1] at hW
  have hq := hq.2
  refine lv_icmp_ge (tgt := 50) hx hb dX12_fillsFits_12 (by decide) (fun c3 => ?_) (fun c3 => ?_)
  · have hq := hq.1 c3
    refine lv_iload hx hb dX12_fillsFits_50 (lv_at hl 4 rfl) ?_
    exact k_iret rfl C hW dX12_fillsFits_52 hq
  · have hq := hq.2 c3
    refine lv_aload_n hx hb dX12_fillsFits_15 rfl (lv_at hl 0 rfl) ?_
    refine gt12_60 C hK hW (rfl : shM 0 = 12) (List.mem_cons_of_mem _ mw305) (fun _ h9 => List.mem_cons_of_mem _ (inU_wsX120 _ h9)) dX12_fillsFits_16 ?_
    refine lv_iload hx hb dX12_fillsFits_19 (lv_at hl 5 rfl) ?_
    refine lv_aload_n hx hb dX12_fillsFits_21 rfl (lv_at hl 0 rfl) ?_
    refine lv_iload hx hb dX12_fillsFits_22 (lv_at hl 5 rfl) ?_
    refine lv_iload_n hx hb dX12_fillsFits_24 rfl (lv_at hl 1 rfl) ?_
    refine lv_iload_n hx hb dX12_fillsFits_25 rfl (lv_at hl 2 rfl) ?_
    refine lv_iload_n hx hb dX12_fillsFits_26 rfl (lv_at hl 3 rfl) ?_
    refine k_ci hW (va_runV (As := [.int x5, .int x1, .int x2, .int x3]) (rest := [.int x5, .ref (G.2.2 40)]) (k_fix C) (c_X12_isFit l G h x5 x1 x2 x3 _ hq) (cwV 4 C.2.2.2.2.2.1 (gU_V mw998 mw999 mw1000 mw5 mw1001) rfl rfl rfl (by decide +kernel) ⟨Nat.le_of_ble_eq_true rfl, Nat.le_of_ble_eq_true rfl⟩) (k_preV hK hW (shM_lt (rfl : shM 0 = 12) (by decide)) (ceM_12 (rfl : shM 0 = 12)) (q := (RX12, TX12, 73)) rfl) rfl rfl hl.1 rfl (lv_room (Nat.le_of_ble_eq_true rfl)) dX12_fillsFits_27 ⟨Nat.le_refl 0, Nat.le_refl 0⟩) (fun r4 h5 H locs hq hW => ?_)
    rw [hq.1] at hW
    have hq := hq.2
    refine k_zast okM C hK hW (shM_lt (rfl : shM 40 = 16) (by decide)) (fun g9 => ceM_16 (rfl : shM 40 = 16) (rfl : lnM 40 = 10000)) hq.1 dX12_fillsFits_30 (fun H locs hW => ?_)
    have hq := hq.2
    obtain ⟨h6, eh6⟩ : ∃ z : hp, z = sI h 40 (ix x5) (jz r4) := ⟨_, rfl⟩
    rw [← eh6] at hW
    have hq := hq h6 eh6
    refine lv_aload_n hx hb dX12_fillsFits_31 rfl (lv_at hl 0 rfl) ?_
    refine gt12_60 C hK hW (rfl : shM 0 = 12) (List.mem_cons_of_mem _ mw305) (fun _ h9 => List.mem_cons_of_mem _ (inU_wsX120 _ h9)) dX12_fillsFits_32 ?_
    refine lv_iload hx hb dX12_fillsFits_35 (lv_at hl 5 rfl) ?_
    refine k_zald C hK hW (shM_lt (rfl : shM 40 = 16) (by decide)) (ceM_16 (rfl : shM 40 = 16) (rfl : lnM 40 = 10000)) hq.1 dX12_fillsFits_37 ?_
    have hq := hq.2
    refine lv_if_eq (tgt := 44) hx hb dX12_fillsFits_38 (by decide) (fun c7 => ?_) (fun c7 => ?_)
    · have hq := hq.1 c7
      obtain ⟨x5_8, ex5_8⟩ : ∃ y : Int32, y = x5 + 1 := ⟨_, rfl⟩
      have hq := hq x5_8 ex5_8
      refine lv_iinc (v := x5_8) (lv' := [(5, .int x5_8), (0, .ref (G.2.2 0)), (1, .int x1), (2, .int x2), (3, .int x3), (4, .int x4)]) hx hb dX12_fillsFits_44 hl (k := 5) rfl (by rw [ex5_8]; rfl) (by decide) rfl (fun ls hl => ?_)
      refine lv_goto (tgt := 6) hx hb dX12_fillsFits_47 (by decide) ?_
      exact hX6 _ _ _ _ _ _ hW (lv_sub hl [1, 2, 3, 4, 5, 0] rfl) hq
    · have hq := hq.2 c7
      obtain ⟨x4_9, ex4_9⟩ : ∃ y : Int32, y = x4 + 1 := ⟨_, rfl⟩
      have hq := hq x4_9 ex4_9
      refine lv_iinc (v := x4_9) (lv' := [(4, .int x4_9), (0, .ref (G.2.2 0)), (1, .int x1), (2, .int x2), (3, .int x3), (5, .int x5)]) hx hb dX12_fillsFits_41 hl (k := 4) rfl (by rw [ex4_9]; rfl) (by decide) rfl (fun ls hl => ?_)
      obtain ⟨x5_10, ex5_10⟩ : ∃ y : Int32, y = x5 + 1 := ⟨_, rfl⟩
      have hq := hq x5_10 ex5_10
      refine lv_iinc (v := x5_10) (lv' := [(5, .int x5_10), (4, .int x4_9), (0, .ref (G.2.2 0)), (1, .int x1), (2, .int x2), (3, .int x3)]) hx hb dX12_fillsFits_44 hl (k := 5) rfl (by rw [ex5_10]; rfl) (by decide) rfl (fun ls hl => ?_)
      refine lv_goto (tgt := 6) hx hb dX12_fillsFits_47 (by decide) ?_
      exact hX6 _ _ _ _ _ _ hW (lv_sub hl [2, 3, 4, 5, 1, 0] rfl) hq
theorem k_X12_fillsFits_6 {Q : Int32 → hp → Prop} {x1 : Int32} {x2 : Int32} {x3 : Int32} (C : kC p s m args meth c cX12_fillsFits 6 (some .int) RX12 wUX12_fillsFits) (hK : kK G s) {x4 : Int32} {x5 : Int32} {h : hp} {H : Heap} {locs : List Loc} {ls : Array Slot} (hW : kW SM G h (aS SM G) s H locs) (hl : lv_has ls 6 [(0, .ref (G.2.2 0)), (1, .int x1), (2, .int x2), (3, .int x3), (4, .int x4), (5, .int x5)]) (hq : w_X12_fillsFits_6 Q x1 x2 x3 x4 x5 h) : W p l e rmX12_fillsFits s m args below meth c H locs 0 0 (MQ below (va_Qi Q (kB SM G) (aS SM G)) args s 0 0 (aS SM G)) (F0 m 6 ls []) := by
  have key := hq (fun (q : Int32 × Int32 × hp) => ∀ (H : Heap) (locs : List Loc) (ls : Array Slot), kW SM G q.2.2 (aS SM G) s H locs → lv_has ls 6 [(0, .ref (G.2.2 0)), (1, .int x1), (2, .int x2), (3, .int x3), (4, .int q.1), (5, .int q.2.1)] → W p l e rmX12_fillsFits s m args below meth c H locs 0 0 (MQ below (va_Qi Q (kB SM G) (aS SM G)) args s 0 0 (aS SM G)) (F0 m 6 ls []))
    (fun q hq H locs ls hW hl => k_X12_fillsFits_b6 C hK (fun x4 x5 h H locs ls hW hl hI => hI H locs ls hW hl) hW hl hq)
  exact key _ _ _ hW hl
theorem k_X12_fillsFits_0 {Q : Int32 → hp → Prop} {x1 : Int32} {x2 : Int32} {x3 : Int32} {h : hp} (C : kC p s m args meth c cX12_fillsFits 6 (some .int) RX12 wUX12_fillsFits) (hK : kK G s) {H : Heap} {locs : List Loc} {ls : Array Slot} (hW : kW SM G h (aS SM G) s H locs) (hl : lv_has ls 6 [(0, .ref (G.2.2 0)), (1, .int x1), (2, .int x2), (3, .int x3)]) (hq : w_X12_fillsFits_0 Q x1 x2 x3 h) : W p l e rmX12_fillsFits s m args below meth c H locs 0 0 (MQ below (va_Qi Q (kB SM G) (aS SM G)) args s 0 0 (aS SM G)) (F0 m 0 ls []) := by
  have hx := C.1
  have hb := C.2.1
  unfold w_X12_fillsFits_0 at hq
  refine lv_iconst (v := 0) hx hb dX12_fillsFits_0 (by decide) ?_
  refine lv_istore (lv' := [(4, .int 0), (0, .ref (G.2.2 0)), (1, .int x1), (2, .int x2), (3, .int x3)]) hx hb dX12_fillsFits_1 hl (by decide) rfl (fun ls hl => ?_)
  refine lv_iconst (v := 0) hx hb dX12_fillsFits_3 (by decide) ?_
  refine lv_istore (lv' := [(5, .int 0), (4, .int 0), (0, .ref (G.2.2 0)), (1, .int x1), (2, .int x2), (3, .int x3)]) hx hb dX12_fillsFits_4 hl (by decide) rfl (fun ls hl => ?_)
  exact k_X12_fillsFits_6 C hK hW (lv_sub hl [2, 3, 4, 5, 1, 0] rfl) hq
theorem c_X12_fillsFits (l : Launch) (G : wG) (h : hp) (x1 : Int32) (x2 : Int32) (x3 : Int32) (Q : Int32 → hp → Prop) (hq : w_X12_fillsFits h x1 x2 x3 Q) : ctI l SM G yX12_fillsFits wUX12_fillsFits rmX12_fillsFits h [.ref (G.2.2 0), .int x1, .int x2, .int x3] Q := by
  refine k_start (cc := cX12_fillsFits) (maxL := 6) (rt := (some .int)) (own := RX12) (by decide +kernel) rfl rfl (Nat.le_of_ble_eq_true rfl) ?_
  intro p e s m below meth c ls C hK hW hl
  exact k_X12_fillsFits_0 C hK hW hl hq
theorem k_X12_fits_b42 {Q : Int32 → hp → Prop} {X42 : Int32 × Int32 → Prop} {x4 : Int32} {h : hp} (C : kC p s m args meth c cX12_fits 8 (some .int) RX12 wUX12_fits) (hK : kK G s) (hX42 : ∀ (x6 : Int32) (x7 : Int32) (H : Heap) (locs : List Loc) (ls : Array Slot), kW SM G h (aS SM G) s H locs → lv_has ls 8 [(0, .ref (G.2.2 0)), (4, .int x4), (6, .int x6), (7, .int x7)] → X42 (x6, x7) → W p l e rmX12_fits s m args below meth c H locs 0 0 (MQ below (va_Qi Q (kB SM G) (aS SM G)) args s 0 0 (aS SM G)) (F0 m 42 ls [])) {x6 : Int32} {x7 : Int32} {H : Heap} {locs : List Loc} {ls : Array Slot} (hW : kW SM G h (aS SM G) s H locs) (hl : lv_has ls 8 [(0, .ref (G.2.2 0)), (4, .int x4), (6, .int x6), (7, .int x7)]) (hq : w_X12_fits_b42 Q x4 h X42 x6 x7) : W p l e rmX12_fits s m args below meth c H locs 0 0 (MQ below (va_Qi Q (kB SM G) (aS SM G)) args s 0 0 (aS SM G)) (F0 m 42 ls []) := by
  have hx := C.1
  have hb := C.2.1
  unfold w_X12_fits_b42 at hq
  refine lv_iload hx hb dX12_fits_42 (lv_at hl 3 rfl) ?_
  refine lv_aload_n hx hb dX12_fits_44 rfl (lv_at hl 0 rfl) ?_
  refine k_ci hW (va_runV (As := []) (rest := [.int x7]) (k_fix C) (c_X12_worldAll l G h _ hq) (cwV 0 C.2.2.2.2.2.1 (gU_V mw888 mw889 mw890 mw5 mw891) rfl rfl rfl (by decide +kernel) ⟨Nat.le_of_ble_eq_true rfl, Nat.le_of_ble_eq_true rfl⟩) (k_preV hK hW (shM_lt (rfl : shM 0 = 12) (by decide)) (ceM_12 (rfl : shM 0 = 12)) (q := (RX12, TX12, 73)) rfl) rfl rfl hl.1 rfl (lv_room (Nat.le_of_ble_eq_true rfl)) dX12_fits_45 ⟨Nat.le_refl 0, Nat.le_refl 0⟩) (fun r8 h9 H locs hq hW => ?_)
  rw [hq.1] at hW
  have hq := hq.2
  refine lv_icmp_ge (tgt := 83) hx hb dX12_fits_48 (by decide) (fun c10 => ?_) (fun c10 => ?_)
  · have hq := hq.1 c10
    refine lv_iconst (v := (-1)) hx hb dX12_fits_83 (by decide) ?_
    exact k_iret rfl C hW dX12_fits_84 hq
  · have hq := hq.2 c10
    refine lv_aload_n hx hb dX12_fits_51 rfl (lv_at hl 0 rfl) ?_
    refine gt12_60 C hK hW (rfl : shM 0 = 12) (List.mem_cons_of_mem _ mw305) (fun _ h9 => List.mem_cons_of_mem _ (inU_wsX120 _ h9)) dX12_fits_52 ?_
    refine lv_iload hx hb dX12_fits_55 (lv_at hl 3 rfl) ?_
    refine k_zald C hK hW (shM_lt (rfl : shM 40 = 16) (by decide)) (ceM_16 (rfl : shM 40 = 16) (rfl : lnM 40 = 10000)) hq.1 dX12_fits_57 ?_
    have hq := hq.2
    refine lv_if_ne (tgt := 64) hx hb dX12_fits_58 (by decide) (fun c11 => ?_) (fun c11 => ?_)
    · have hq := hq.1 c11
      refine lv_iload hx hb dX12_fits_64 (lv_at hl 2 rfl) ?_
      refine lv_iload hx hb dX12_fits_66 (lv_at hl 1 rfl) ?_
      refine lv_icmp_ne (tgt := 74) hx hb dX12_fits_68 (by decide) (fun c12 => ?_) (fun c12 => ?_)
      · have hq := hq.1 c12
        obtain ⟨x6_13, ex6_13⟩ : ∃ y : Int32, y = x6 + 1 := ⟨_, rfl⟩
        have hq := hq x6_13 ex6_13
        refine lv_iinc (v := x6_13) (lv' := [(6, .int x6_13), (0, .ref (G.2.2 0)), (4, .int x4), (7, .int x7)]) hx hb dX12_fits_74 hl (k := 2) rfl (by rw [ex6_13]; rfl) (by decide) rfl (fun ls hl => ?_)
        obtain ⟨x7_14, ex7_14⟩ : ∃ y : Int32, y = x7 + 1 := ⟨_, rfl⟩
        have hq := hq x7_14 ex7_14
        refine lv_iinc (v := x7_14) (lv' := [(7, .int x7_14), (6, .int x6_13), (0, .ref (G.2.2 0)), (4, .int x4)]) hx hb dX12_fits_77 hl (k := 3) rfl (by rw [ex7_14]; rfl) (by decide) rfl (fun ls hl => ?_)
        refine lv_goto (tgt := 42) hx hb dX12_fits_80 (by decide) ?_
        exact hX42 _ _ _ _ _ hW (lv_sub hl [2, 3, 1, 0] rfl) hq
      · have hq := hq.2 c12
        refine lv_iload hx hb dX12_fits_71 (lv_at hl 3 rfl) ?_
        exact k_iret rfl C hW dX12_fits_73 hq
    · have hq := hq.2 c11
      refine lv_goto (tgt := 77) hx hb dX12_fits_61 (by decide) ?_
      obtain ⟨x7_15, ex7_15⟩ : ∃ y : Int32, y = x7 + 1 := ⟨_, rfl⟩
      have hq := hq x7_15 ex7_15
      refine lv_iinc (v := x7_15) (lv' := [(7, .int x7_15), (0, .ref (G.2.2 0)), (4, .int x4), (6, .int x6)]) hx hb dX12_fits_77 hl (k := 3) rfl (by rw [ex7_15]; rfl) (by decide) rfl (fun ls hl => ?_)
      refine lv_goto (tgt := 42) hx hb dX12_fits_80 (by decide) ?_
      exact hX42 _ _ _ _ _ hW (lv_sub hl [1, 2, 3, 0] rfl) hq
theorem k_X12_fits_42 {Q : Int32 → hp → Prop} {x4 : Int32} {h : hp} (C : kC p s m args meth c cX12_fits 8 (some .int) RX12 wUX12_fits) (hK : kK G s) {x6 : Int32} {x7 : Int32} {H : Heap} {locs : List Loc} {ls : Array Slot} (hW : kW SM G h (aS SM G) s H locs) (hl : lv_has ls 8 [(0, .ref (G.2.2 0)), (4, .int x4), (6, .int x6), (7, .int x7)]) (hq : w_X12_fits_42 Q x4 h x6 x7) : W p l e rmX12_fits s m args below meth c H locs 0 0 (MQ below (va_Qi Q (kB SM G) (aS SM G)) args s 0 0 (aS SM G)) (F0 m 42 ls []) := by
  have key := hq (fun (q : Int32 × Int32) => ∀ (H : Heap) (locs : List Loc) (ls : Array Slot), kW SM G h (aS SM G) s H locs → lv_has ls 8 [(0, .ref (G.2.2 0)), (4, .int x4), (6, .int q.1), (7, .int q.2)] → W p l e rmX12_fits s m args below meth c H locs 0 0 (MQ below (va_Qi Q (kB SM G) (aS SM G)) args s 0 0 (aS SM G)) (F0 m 42 ls []))
    (fun q hq H locs ls hW hl => k_X12_fits_b42 C hK (fun x6 x7 H locs ls hW hl hI => hI H locs ls hW hl) hW hl hq)
  exact key _ _ _ hW hl
theorem k_X12_fits_0 {Q : Int32 → hp → Prop} {x1 : Int32} {x2 : Int32} {x3 : Int32} {x4 : Int32} {h : hp} (C : kC p s m args meth c cX12_fits 8 (some .int) RX12 wUX12_fits) (hK : kK G s) {H : Heap} {locs : List Loc} {ls : Array Slot} (hW : kW SM G h (aS SM G) s H locs) (hl : lv_has ls 8 [(0, .ref (G.2.2 0)), (1, .int x1), (2, .int x2), (3, .int x3), (4, .int x4)]) (hq : w_X12_fits_0 Q x1 x2 x3 x4 h) : W p l e rmX12_fits s m args below meth c H locs 0 0 (MQ below (va_Qi Q (kB SM G) (aS SM G)) args s 0 0 (aS SM G)) (F0 m 0 ls []) := by
  have hx := C.1
  have hb := C.2.1
  unfold w_X12_fits_0 at hq
  refine lv_aload_n hx hb dX12_fits_0 rfl (lv_at hl 0 rfl) ?_
  refine lv_iload_n hx hb dX12_fits_1 rfl (lv_at hl 1 rfl) ?_
  refine lv_iload_n hx hb dX12_fits_2 rfl (lv_at hl 2 rfl) ?_
  refine lv_iload_n hx hb dX12_fits_3 rfl (lv_at hl 3 rfl) ?_
  refine k_ci hW (va_runV (As := [.int x1, .int x2, .int x3]) (rest := []) (k_fix C) (c_X12_isAsked l G h x1 x2 x3 _ hq) (cwV 3 C.2.2.2.2.2.1 (gU_V mw988 mw989 mw990 mw5 mw991) rfl rfl rfl (by decide +kernel) ⟨Nat.le_of_ble_eq_true rfl, Nat.le_of_ble_eq_true rfl⟩) (k_preV hK hW (shM_lt (rfl : shM 0 = 12) (by decide)) (ceM_12 (rfl : shM 0 = 12)) (q := (RX12, TX12, 73)) rfl) rfl rfl hl.1 rfl (lv_room (Nat.le_of_ble_eq_true rfl)) dX12_fits_4 ⟨Nat.le_refl 0, Nat.le_refl 0⟩) (fun r1 h2 H locs hq hW => ?_)
  rw [hq.1] at hW
  have hq := hq.2
  refine lv_if_eq (tgt := 16) hx hb dX12_fits_7 (by decide) (fun c3 => ?_) (fun c3 => ?_)
  · have hq := hq.1 c3
    refine lv_iconst (v := (-1)) hx hb dX12_fits_16 (by decide) ?_
    exact k_iret rfl C hW dX12_fits_17 hq
  · have hq := hq.2 c3
    refine lv_iload hx hb dX12_fits_10 (lv_at hl 4 rfl) ?_
    refine lv_iconst (v := (-1)) hx hb dX12_fits_12 (by decide) ?_
    refine lv_icmp_ge (tgt := 18) hx hb dX12_fits_13 (by decide) (fun c4 => ?_) (fun c4 => ?_)
    · have hq := hq.1 c4
      refine lv_aload_n hx hb dX12_fits_18 rfl (lv_at hl 0 rfl) ?_
      refine lv_iload_n hx hb dX12_fits_19 rfl (lv_at hl 1 rfl) ?_
      refine lv_iload_n hx hb dX12_fits_20 rfl (lv_at hl 2 rfl) ?_
      refine lv_iload_n hx hb dX12_fits_21 rfl (lv_at hl 3 rfl) ?_
      refine k_ci hW (va_runV (As := [.int x1, .int x2, .int x3]) (rest := []) (k_fix C) (c_X12_fillsFits l G h x1 x2 x3 _ hq) (cwV 3 C.2.2.2.2.2.1 (gU_V mw994 mw995 mw996 mw5 mw997) rfl rfl rfl (by decide +kernel) ⟨Nat.le_of_ble_eq_true rfl, Nat.le_of_ble_eq_true rfl⟩) (k_preV hK hW (shM_lt (rfl : shM 0 = 12) (by decide)) (ceM_12 (rfl : shM 0 = 12)) (q := (RX12, TX12, 73)) rfl) rfl rfl hl.1 rfl (lv_room (Nat.le_of_ble_eq_true rfl)) dX12_fits_22 ⟨Nat.le_refl 0, Nat.le_refl 0⟩) (fun r6 h5 H locs hq hW => ?_)
      refine lv_istore (lv' := [(5, .int r6), (0, .ref (G.2.2 0)), (1, .int x1), (2, .int x2), (3, .int x3), (4, .int x4)]) hx hb dX12_fits_25 hl (by decide) rfl (fun ls hl => ?_)
      refine lv_iload hx hb dX12_fits_27 (lv_at hl 5 rfl) ?_
      refine lv_iconst (v := (-1)) hx hb dX12_fits_29 (by decide) ?_
      refine lv_icmp_ne (tgt := 36) hx hb dX12_fits_30 (by decide) (fun c7 => ?_) (fun c7 => ?_)
      · have hq := hq.1 c7
        refine lv_iconst (v := 0) hx hb dX12_fits_36 (by decide) ?_
        refine lv_istore (lv' := [(6, .int 0), (5, .int r6), (0, .ref (G.2.2 0)), (1, .int x1), (2, .int x2), (3, .int x3), (4, .int x4)]) hx hb dX12_fits_37 hl (by decide) rfl (fun ls hl => ?_)
        refine lv_iconst (v := 0) hx hb dX12_fits_39 (by decide) ?_
        refine lv_istore (lv' := [(7, .int 0), (6, .int 0), (5, .int r6), (0, .ref (G.2.2 0)), (1, .int x1), (2, .int x2), (3, .int x3), (4, .int x4)]) hx hb dX12_fits_40 hl (by decide) rfl (fun ls hl => ?_)
        exact k_X12_fits_42 C hK hW (lv_sub hl [3, 7, 1, 0] rfl) hq
      · have hq := hq.2 c7
        refine lv_iload hx hb dX12_fits_33 (lv_at hl 0 rfl) ?_
        exact k_iret rfl C hW dX12_fits_35 hq
    · have hq := hq.2 c4
      refine lv_iconst (v := (-1)) hx hb dX12_fits_16 (by decide) ?_
      exact k_iret rfl C hW dX12_fits_17 hq
theorem c_X12_fits (l : Launch) (G : wG) (h : hp) (x1 : Int32) (x2 : Int32) (x3 : Int32) (x4 : Int32) (Q : Int32 → hp → Prop) (hq : w_X12_fits h x1 x2 x3 x4 Q) : ctI l SM G yX12_fits wUX12_fits rmX12_fits h [.ref (G.2.2 0), .int x1, .int x2, .int x3, .int x4] Q := by
  refine k_start (cc := cX12_fits) (maxL := 8) (rt := (some .int)) (own := RX12) (by decide +kernel) rfl rfl (Nat.le_of_ble_eq_true rfl) ?_
  intro p e s m below meth c ls C hK hW hl
  exact k_X12_fits_0 C hK hW hl hq
theorem k_X12_spanOf_48 {Q : Int32 → Prop} {X8 : Int32 × Int32 × Int32 → Prop} {x1 : Int32} {x2 : Int32} {x3 : Int32} {x4 : Int32} {x5 : Int32} {h : hp} (C : kC p s m args meth c cX12_spanOf 6 (some .int) RX12 wUX12_spanOf) (hK : kK G s) (hX8 : ∀ (x2 : Int32) (x3 : Int32) (x4 : Int32) (H : Heap) (locs : List Loc) (ls : Array Slot), kW SM G h (aS SM G) s H locs → lv_has ls 6 [(0, .ref (G.2.2 0)), (1, .int x1), (2, .int x2), (3, .int x3), (4, .int x4)] → X8 (x2, x3, x4) → W p l e rmX12_spanOf s m args below meth c H locs 0 0 (MQ below (va_Qi (fun r9 h9 => h9 = h ∧ Q r9) (kB SM G) (aS SM G)) args s 0 0 (aS SM G)) (F0 m 8 ls [])) {H : Heap} {locs : List Loc} {ls : Array Slot} (hW : kW SM G h (aS SM G) s H locs) (hl : lv_has ls 6 [(0, .ref (G.2.2 0)), (1, .int x1), (2, .int x2), (3, .int x3), (4, .int x4), (5, .int x5)]) (hq : w_X12_spanOf_48 Q X8 x1 x2 x3 x4 x5 h) : W p l e rmX12_spanOf s m args below meth c H locs 0 0 (MQ below (va_Qi (fun r9 h9 => h9 = h ∧ Q r9) (kB SM G) (aS SM G)) args s 0 0 (aS SM G)) (F0 m 48 ls []) := by
  have hx := C.1
  have hb := C.2.1
  unfold w_X12_spanOf_48 at hq
  refine lv_iload hx hb dX12_spanOf_48 (lv_at hl 5 rfl) ?_
  refine lv_iload_n hx hb dX12_spanOf_50 rfl (lv_at hl 3 rfl) ?_
  refine lv_icmp_le (tgt := 57) hx hb dX12_spanOf_51 (by decide) (fun c9 => ?_) (fun c9 => ?_)
  · have hq := hq.1 c9
    obtain ⟨x4_10, ex4_10⟩ : ∃ y : Int32, y = x4 + 1 := ⟨_, rfl⟩
    have hq := hq x4_10 ex4_10
    refine lv_iinc (v := x4_10) (lv' := [(4, .int x4_10), (0, .ref (G.2.2 0)), (1, .int x1), (2, .int x2), (3, .int x3), (5, .int x5)]) hx hb dX12_spanOf_57 hl (k := 4) rfl (by rw [ex4_10]; rfl) (by decide) rfl (fun ls hl => ?_)
    refine lv_goto (tgt := 8) hx hb dX12_spanOf_60 (by decide) ?_
    exact hX8 _ _ _ _ _ _ hW (lv_sub hl [1, 2, 3, 4, 0] rfl) hq
  · have hq := hq.2 c9
    refine lv_iload hx hb dX12_spanOf_54 (lv_at hl 5 rfl) ?_
    refine lv_istore_n (lv' := [(3, .int x5), (0, .ref (G.2.2 0)), (1, .int x1), (2, .int x2), (4, .int x4), (5, .int x5)]) hx hb dX12_spanOf_56 rfl hl (by decide) rfl (fun ls hl => ?_)
    obtain ⟨x4_11, ex4_11⟩ : ∃ y : Int32, y = x4 + 1 := ⟨_, rfl⟩
    have hq := hq x4_11 ex4_11
    refine lv_iinc (v := x4_11) (lv' := [(4, .int x4_11), (3, .int x5), (0, .ref (G.2.2 0)), (1, .int x1), (2, .int x2), (5, .int x5)]) hx hb dX12_spanOf_57 hl (k := 4) rfl (by rw [ex4_11]; rfl) (by decide) rfl (fun ls hl => ?_)
    refine lv_goto (tgt := 8) hx hb dX12_spanOf_60 (by decide) ?_
    exact hX8 _ _ _ _ _ _ hW (lv_sub hl [2, 3, 4, 1, 0] rfl) hq
theorem k_X12_spanOf_b8 {Q : Int32 → Prop} {X8 : Int32 × Int32 × Int32 → Prop} {x1 : Int32} {h : hp} (C : kC p s m args meth c cX12_spanOf 6 (some .int) RX12 wUX12_spanOf) (hK : kK G s) (hX8 : ∀ (x2 : Int32) (x3 : Int32) (x4 : Int32) (H : Heap) (locs : List Loc) (ls : Array Slot), kW SM G h (aS SM G) s H locs → lv_has ls 6 [(0, .ref (G.2.2 0)), (1, .int x1), (2, .int x2), (3, .int x3), (4, .int x4)] → X8 (x2, x3, x4) → W p l e rmX12_spanOf s m args below meth c H locs 0 0 (MQ below (va_Qi (fun r9 h9 => h9 = h ∧ Q r9) (kB SM G) (aS SM G)) args s 0 0 (aS SM G)) (F0 m 8 ls [])) {x2 : Int32} {x3 : Int32} {x4 : Int32} {H : Heap} {locs : List Loc} {ls : Array Slot} (hW : kW SM G h (aS SM G) s H locs) (hl : lv_has ls 6 [(0, .ref (G.2.2 0)), (1, .int x1), (2, .int x2), (3, .int x3), (4, .int x4)]) (hq : w_X12_spanOf_b8 Q x1 h X8 x2 x3 x4) : W p l e rmX12_spanOf s m args below meth c H locs 0 0 (MQ below (va_Qi (fun r9 h9 => h9 = h ∧ Q r9) (kB SM G) (aS SM G)) args s 0 0 (aS SM G)) (F0 m 8 ls []) := by
  have hx := C.1
  have hb := C.2.1
  unfold w_X12_spanOf_b8 at hq
  refine lv_iload hx hb dX12_spanOf_8 (lv_at hl 4 rfl) ?_
  refine lv_aload_n hx hb dX12_spanOf_10 rfl (lv_at hl 0 rfl) ?_
  refine k_ci hW (va_runV (As := []) (rest := [.int x4]) (k_fix C) (c_X12_worldAll l G h _ hq) (cwV 0 C.2.2.2.2.2.1 (gU_V mw888 mw889 mw890 mw5 mw891) rfl rfl rfl (by decide +kernel) ⟨Nat.le_of_ble_eq_true rfl, Nat.le_of_ble_eq_true rfl⟩) (k_preV hK hW (shM_lt (rfl : shM 0 = 12) (by decide)) (ceM_12 (rfl : shM 0 = 12)) (q := (RX12, TX12, 73)) rfl) rfl rfl hl.1 rfl (lv_room (Nat.le_of_ble_eq_true rfl)) dX12_spanOf_11 ⟨Nat.le_refl 0, Nat.le_refl 0⟩) (fun r1 h2 H locs hq hW => ?_)
  rw [hq.1] at hW
  have hq := hq.2
  refine lv_icmp_ge (tgt := 63) hx hb dX12_spanOf_14 (by decide) (fun c3 => ?_) (fun c3 => ?_)
  · have hq := hq.1 c3
    refine lv_bipush (v := 10) hx hb dX12_spanOf_63 (by decide) ?_
    refine lv_iload_n hx hb dX12_spanOf_65 rfl (lv_at hl 2 rfl) ?_
    refine lv_imul hx hb dX12_spanOf_66 ?_
    refine lv_iload_n hx hb dX12_spanOf_67 rfl (lv_at hl 3 rfl) ?_
    refine lv_iadd hx hb dX12_spanOf_68 ?_
    exact k_iret rfl C hW dX12_spanOf_69 ⟨rfl, hq⟩
  · have hq := hq.2 c3
    refine lv_aload_n hx hb dX12_spanOf_17 rfl (lv_at hl 0 rfl) ?_
    refine gt12_60 C hK hW (rfl : shM 0 = 12) (List.mem_cons_of_mem _ mw305) (fun _ h9 => List.mem_cons_of_mem _ (inU_wsX120 _ h9)) dX12_spanOf_18 ?_
    refine lv_iload hx hb dX12_spanOf_21 (lv_at hl 4 rfl) ?_
    refine k_zald C hK hW (shM_lt (rfl : shM 40 = 16) (by decide)) (ceM_16 (rfl : shM 40 = 16) (rfl : lnM 40 = 10000)) hq.1 dX12_spanOf_23 ?_
    have hq := hq.2
    refine lv_if_ne (tgt := 30) hx hb dX12_spanOf_24 (by decide) (fun c4 => ?_) (fun c4 => ?_)
    · have hq := hq.1 c4
      refine lv_aload_n hx hb dX12_spanOf_30 rfl (lv_at hl 0 rfl) ?_
      refine lv_iload hx hb dX12_spanOf_31 (lv_at hl 4 rfl) ?_
      refine lv_iload_n hx hb dX12_spanOf_33 rfl (lv_at hl 1 rfl) ?_
      refine k_ci hW (va_runV (As := [.int x4, .int x1]) (rest := []) (k_fix C) (c_X12_figureOf l G h x4 x1 _ hq) (cwV 2 C.2.2.2.2.2.1 (gU_V mw896 mw897 mw898 mw5 mw899) rfl rfl rfl (by decide +kernel) ⟨Nat.le_of_ble_eq_true rfl, Nat.le_of_ble_eq_true rfl⟩) (k_preV hK hW (shM_lt (rfl : shM 0 = 12) (by decide)) (ceM_12 (rfl : shM 0 = 12)) (q := (RX12, TX12, 73)) rfl) rfl rfl hl.1 rfl (lv_room (Nat.le_of_ble_eq_true rfl)) dX12_spanOf_34 ⟨Nat.le_refl 0, Nat.le_refl 0⟩) (fun r5 h6 H locs hq hW => ?_)
      rw [hq.1] at hW
      have hq := hq.2
      refine lv_istore (lv' := [(5, .int r5), (0, .ref (G.2.2 0)), (1, .int x1), (2, .int x2), (3, .int x3), (4, .int x4)]) hx hb dX12_spanOf_37 hl (by decide) rfl (fun ls hl => ?_)
      refine lv_iload hx hb dX12_spanOf_39 (lv_at hl 0 rfl) ?_
      refine lv_iload_n hx hb dX12_spanOf_41 rfl (lv_at hl 3 rfl) ?_
      refine lv_icmp_ge (tgt := 48) hx hb dX12_spanOf_42 (by decide) (fun c7 => ?_) (fun c7 => ?_)
      · have hq := hq.1 c7
        exact k_X12_spanOf_48 C hK hX8 hW (lv_sub hl [1, 2, 3, 4, 5, 0] rfl) hq
      · have hq := hq.2 c7
        refine lv_iload hx hb dX12_spanOf_45 (lv_at hl 0 rfl) ?_
        refine lv_istore_n (lv' := [(2, .int r5), (5, .int r5), (0, .ref (G.2.2 0)), (1, .int x1), (3, .int x3), (4, .int x4)]) hx hb dX12_spanOf_47 rfl hl (by decide) rfl (fun ls hl => ?_)
        exact k_X12_spanOf_48 C hK hX8 hW (lv_sub hl [2, 3, 0, 4, 5, 1] rfl) hq
    · have hq := hq.2 c4
      refine lv_goto (tgt := 57) hx hb dX12_spanOf_27 (by decide) ?_
      obtain ⟨x4_8, ex4_8⟩ : ∃ y : Int32, y = x4 + 1 := ⟨_, rfl⟩
      have hq := hq x4_8 ex4_8
      refine lv_iinc (v := x4_8) (lv' := [(4, .int x4_8), (0, .ref (G.2.2 0)), (1, .int x1), (2, .int x2), (3, .int x3)]) hx hb dX12_spanOf_57 hl (k := 4) rfl (by rw [ex4_8]; rfl) (by decide) rfl (fun ls hl => ?_)
      refine lv_goto (tgt := 8) hx hb dX12_spanOf_60 (by decide) ?_
      exact hX8 _ _ _ _ _ _ hW (lv_sub hl [1, 2, 3, 4, 0] rfl) hq
theorem k_X12_spanOf_8 {Q : Int32 → Prop} {x1 : Int32} {h : hp} (C : kC p s m args meth c cX12_spanOf 6 (some .int) RX12 wUX12_spanOf) (hK : kK G s) {x2 : Int32} {x3 : Int32} {x4 : Int32} {H : Heap} {locs : List Loc} {ls : Array Slot} (hW : kW SM G h (aS SM G) s H locs) (hl : lv_has ls 6 [(0, .ref (G.2.2 0)), (1, .int x1), (2, .int x2), (3, .int x3), (4, .int x4)]) (hq : w_X12_spanOf_8 Q x1 h x2 x3 x4) : W p l e rmX12_spanOf s m args below meth c H locs 0 0 (MQ below (va_Qi (fun r9 h9 => h9 = h ∧ Q r9) (kB SM G) (aS SM G)) args s 0 0 (aS SM G)) (F0 m 8 ls []) := by
  have key := hq (fun (q : Int32 × Int32 × Int32) => ∀ (H : Heap) (locs : List Loc) (ls : Array Slot), kW SM G h (aS SM G) s H locs → lv_has ls 6 [(0, .ref (G.2.2 0)), (1, .int x1), (2, .int q.1), (3, .int q.2.1), (4, .int q.2.2)] → W p l e rmX12_spanOf s m args below meth c H locs 0 0 (MQ below (va_Qi (fun r9 h9 => h9 = h ∧ Q r9) (kB SM G) (aS SM G)) args s 0 0 (aS SM G)) (F0 m 8 ls []))
    (fun q hq H locs ls hW hl => k_X12_spanOf_b8 C hK (fun x2 x3 x4 H locs ls hW hl hI => hI H locs ls hW hl) hW hl hq)
  exact key _ _ _ hW hl
theorem k_X12_spanOf_0 {Q : Int32 → Prop} {x1 : Int32} {h : hp} (C : kC p s m args meth c cX12_spanOf 6 (some .int) RX12 wUX12_spanOf) (hK : kK G s) {H : Heap} {locs : List Loc} {ls : Array Slot} (hW : kW SM G h (aS SM G) s H locs) (hl : lv_has ls 6 [(0, .ref (G.2.2 0)), (1, .int x1)]) (hq : w_X12_spanOf_0 Q x1 h) : W p l e rmX12_spanOf s m args below meth c H locs 0 0 (MQ below (va_Qi (fun r9 h9 => h9 = h ∧ Q r9) (kB SM G) (aS SM G)) args s 0 0 (aS SM G)) (F0 m 0 ls []) := by
  have hx := C.1
  have hb := C.2.1
  unfold w_X12_spanOf_0 at hq
  refine lv_bipush (v := 10) hx hb dX12_spanOf_0 (by decide) ?_
  refine lv_istore_n (lv' := [(2, .int 10), (0, .ref (G.2.2 0)), (1, .int x1)]) hx hb dX12_spanOf_2 rfl hl (by decide) rfl (fun ls hl => ?_)
  refine lv_iconst (v := 0) hx hb dX12_spanOf_3 (by decide) ?_
  refine lv_istore_n (lv' := [(3, .int 0), (2, .int 10), (0, .ref (G.2.2 0)), (1, .int x1)]) hx hb dX12_spanOf_4 rfl hl (by decide) rfl (fun ls hl => ?_)
  refine lv_iconst (v := 0) hx hb dX12_spanOf_5 (by decide) ?_
  refine lv_istore (lv' := [(4, .int 0), (3, .int 0), (2, .int 10), (0, .ref (G.2.2 0)), (1, .int x1)]) hx hb dX12_spanOf_6 hl (by decide) rfl (fun ls hl => ?_)
  exact k_X12_spanOf_8 C hK hW (lv_sub hl [3, 4, 2, 1, 0] rfl) hq
theorem c_X12_spanOf (l : Launch) (G : wG) (h : hp) (x1 : Int32) (Q : Int32 → Prop) (hq : w_X12_spanOf h x1 Q) : ctI l SM G yX12_spanOf wUX12_spanOf rmX12_spanOf h [.ref (G.2.2 0), .int x1] (fun r9 h9 => h9 = h ∧ Q r9) := by
  refine k_start (cc := cX12_spanOf) (maxL := 6) (rt := (some .int)) (own := RX12) (by decide +kernel) rfl rfl (Nat.le_of_ble_eq_true rfl) ?_
  intro p e s m below meth c ls C hK hW hl
  exact k_X12_spanOf_0 C hK hW hl hq
theorem k_X12_sure_b28 {Q : Int32 → hp → Prop} {X28 : Int32 × Int32 → Prop} {h : hp} (C : kC p s m args meth c cX12_sure 6 (some .int) RX12 wUX12_sure) (hK : kK G s) (hX28 : ∀ (x4 : Int32) (x5 : Int32) (H : Heap) (locs : List Loc) (ls : Array Slot), kW SM G h (aS SM G) s H locs → lv_has ls 6 [(0, .ref (G.2.2 0)), (4, .int x4), (5, .int x5)] → X28 (x4, x5) → W p l e rmX12_sure s m args below meth c H locs 0 0 (MQ below (va_Qi Q (kB SM G) (aS SM G)) args s 0 0 (aS SM G)) (F0 m 28 ls [])) {x4 : Int32} {x5 : Int32} {H : Heap} {locs : List Loc} {ls : Array Slot} (hW : kW SM G h (aS SM G) s H locs) (hl : lv_has ls 6 [(0, .ref (G.2.2 0)), (4, .int x4), (5, .int x5)]) (hq : w_X12_sure_b28 Q h X28 x4 x5) : W p l e rmX12_sure s m args below meth c H locs 0 0 (MQ below (va_Qi Q (kB SM G) (aS SM G)) args s 0 0 (aS SM G)) (F0 m 28 ls []) := by
  have hx := C.1
  have hb := C.2.1
  unfold w_X12_sure_b28 at hq
  refine lv_iload hx hb dX12_sure_28 (lv_at hl 2 rfl) ?_
  refine lv_aload_n hx hb dX12_sure_30 rfl (lv_at hl 0 rfl) ?_
  refine gt12_32 C hK hW (rfl : shM 0 = 12) (List.mem_cons_of_mem _ mw282) (fun _ h9 => List.mem_cons_of_mem _ (inU_wsX120 _ h9)) dX12_sure_31 ?_
  refine lv_aload_n hx hb dX12_sure_34 rfl (lv_at hl 0 rfl) ?_
  refine gt12_18 C hK hW (rfl : shM 0 = 12) (List.mem_cons_of_mem _ mw610) (fun _ h9 => List.mem_cons_of_mem _ (inU_wsX120 _ h9)) dX12_sure_35 ?_
  refine k_iald C hK hW (shM_lt (rfl : shM 19 = 14) (by decide)) (ceM_14 (rfl : shM 19 = 14) (rfl : lnM 19 = 2)) hq.1 dX12_sure_38 ?_
  have hq := hq.2
  refine lv_icmp_ge (tgt := 69) hx hb dX12_sure_39 (by decide) (fun c7 => ?_) (fun c7 => ?_)
  · have hq := hq.1 c7
    refine lv_iload hx hb dX12_sure_69 (lv_at hl 1 rfl) ?_
    exact k_iret rfl C hW dX12_sure_71 hq
  · have hq := hq.2 c7
    refine lv_aload_n hx hb dX12_sure_42 rfl (lv_at hl 0 rfl) ?_
    refine lv_iload hx hb dX12_sure_43 (lv_at hl 2 rfl) ?_
    refine k_ci hW (va_runV (As := [.int x5]) (rest := []) (k_fix C) (c_X12_spanOf l G h x5 _ hq) (cwV 1 C.2.2.2.2.2.1 (gU_V mw1034 mw1035 mw1036 mw5 mw1037) rfl rfl rfl (by decide +kernel) ⟨Nat.le_of_ble_eq_true rfl, Nat.le_of_ble_eq_true rfl⟩) (k_preV hK hW (shM_lt (rfl : shM 0 = 12) (by decide)) (ceM_12 (rfl : shM 0 = 12)) (q := (RX12, TX12, 73)) rfl) rfl rfl hl.1 rfl (lv_room (Nat.le_of_ble_eq_true rfl)) dX12_sure_45 ⟨Nat.le_refl 0, Nat.le_refl 0⟩) (fun r8 h9 H locs hq hW => ?_)
    rw [hq.1] at hW
    have hq := hq.2
    refine lv_bipush (v := 11) hx hb dX12_sure_48 (by decide) ?_
    refine k_irem hx hb dX12_sure_50 (by decide) ?_
    refine lv_if_ne (tgt := 63) hx hb dX12_sure_51 (by decide) (fun c10 => ?_) (fun c10 => ?_)
    · have hq := hq.1 c10
      obtain ⟨x5_11, ex5_11⟩ : ∃ y : Int32, y = x5 + 1 := ⟨_, rfl⟩
      have hq := hq x5_11 ex5_11
      refine lv_iinc (v := x5_11) (lv' := [(5, .int x5_11), (0, .ref (G.2.2 0)), (4, .int x4)]) hx hb dX12_sure_63 hl (k := 2) rfl (by rw [ex5_11]; rfl) (by decide) rfl (fun ls hl => ?_)
      refine lv_goto (tgt := 28) hx hb dX12_sure_66 (by decide) ?_
      exact hX28 _ _ _ _ _ hW (lv_sub hl [1, 2, 0] rfl) hq
    · have hq := hq.2 c10
      refine lv_iload hx hb dX12_sure_54 (lv_at hl 1 rfl) ?_
      refine lv_iconst (v := 1) hx hb dX12_sure_56 (by decide) ?_
      refine lv_iload hx hb dX12_sure_57 (lv_at hl 2 rfl) ?_
      refine k_ishl hx hb dX12_sure_59 ?_
      refine lv_ior hx hb dX12_sure_60 ?_
      refine lv_topi (fun x4_12 ex4_12 => ?_)
      have hq := hq x4_12 ex4_12
      refine lv_istore (lv' := [(4, .int x4_12), (0, .ref (G.2.2 0)), (5, .int x5)]) hx hb dX12_sure_61 hl (by decide) rfl (fun ls hl => ?_)
      obtain ⟨x5_13, ex5_13⟩ : ∃ y : Int32, y = x5 + 1 := ⟨_, rfl⟩
      have hq := hq x5_13 ex5_13
      refine lv_iinc (v := x5_13) (lv' := [(5, .int x5_13), (4, .int x4_12), (0, .ref (G.2.2 0))]) hx hb dX12_sure_63 hl (k := 2) rfl (by rw [ex5_13]; rfl) (by decide) rfl (fun ls hl => ?_)
      refine lv_goto (tgt := 28) hx hb dX12_sure_66 (by decide) ?_
      exact hX28 _ _ _ _ _ hW (lv_sub hl [2, 1, 0] rfl) hq
theorem k_X12_sure_28 {Q : Int32 → hp → Prop} {h : hp} (C : kC p s m args meth c cX12_sure 6 (some .int) RX12 wUX12_sure) (hK : kK G s) {x4 : Int32} {x5 : Int32} {H : Heap} {locs : List Loc} {ls : Array Slot} (hW : kW SM G h (aS SM G) s H locs) (hl : lv_has ls 6 [(0, .ref (G.2.2 0)), (4, .int x4), (5, .int x5)]) (hq : w_X12_sure_28 Q h x4 x5) : W p l e rmX12_sure s m args below meth c H locs 0 0 (MQ below (va_Qi Q (kB SM G) (aS SM G)) args s 0 0 (aS SM G)) (F0 m 28 ls []) := by
  have key := hq (fun (q : Int32 × Int32) => ∀ (H : Heap) (locs : List Loc) (ls : Array Slot), kW SM G h (aS SM G) s H locs → lv_has ls 6 [(0, .ref (G.2.2 0)), (4, .int q.1), (5, .int q.2)] → W p l e rmX12_sure s m args below meth c H locs 0 0 (MQ below (va_Qi Q (kB SM G) (aS SM G)) args s 0 0 (aS SM G)) (F0 m 28 ls []))
    (fun q hq H locs ls hW hl => k_X12_sure_b28 C hK (fun x4 x5 H locs ls hW hl hI => hI H locs ls hW hl) hW hl hq)
  exact key _ _ _ hW hl
theorem k_X12_sure_0 {Q : Int32 → hp → Prop} {x1 : Int32} {x2 : Int32} {x3 : Int32} {h : hp} (C : kC p s m args meth c cX12_sure 6 (some .int) RX12 wUX12_sure) (hK : kK G s) {H : Heap} {locs : List Loc} {ls : Array Slot} (hW : kW SM G h (aS SM G) s H locs) (hl : lv_has ls 6 [(0, .ref (G.2.2 0)), (1, .int x1), (2, .int x2), (3, .int x3)]) (hq : w_X12_sure_0 Q x1 x2 x3 h) : W p l e rmX12_sure s m args below meth c H locs 0 0 (MQ below (va_Qi Q (kB SM G) (aS SM G)) args s 0 0 (aS SM G)) (F0 m 0 ls []) := by
  have hx := C.1
  have hb := C.2.1
  unfold w_X12_sure_0 at hq
  refine lv_aload_n hx hb dX12_sure_0 rfl (lv_at hl 0 rfl) ?_
  refine lv_iload_n hx hb dX12_sure_1 rfl (lv_at hl 1 rfl) ?_
  refine lv_iload_n hx hb dX12_sure_2 rfl (lv_at hl 2 rfl) ?_
  refine lv_iload_n hx hb dX12_sure_3 rfl (lv_at hl 3 rfl) ?_
  refine k_ci hW (va_runV (As := [.int x1, .int x2, .int x3]) (rest := []) (k_fix C) (c_X12_isAsked l G h x1 x2 x3 _ hq) (cwV 3 C.2.2.2.2.2.1 (gU_V mw988 mw989 mw990 mw5 mw991) rfl rfl rfl (by decide +kernel) ⟨Nat.le_of_ble_eq_true rfl, Nat.le_of_ble_eq_true rfl⟩) (k_preV hK hW (shM_lt (rfl : shM 0 = 12) (by decide)) (ceM_12 (rfl : shM 0 = 12)) (q := (RX12, TX12, 73)) rfl) rfl rfl hl.1 rfl (lv_room (Nat.le_of_ble_eq_true rfl)) dX12_sure_4 ⟨Nat.le_refl 0, Nat.le_refl 0⟩) (fun r1 h2 H locs hq hW => ?_)
  rw [hq.1] at hW
  have hq := hq.2
  refine lv_if_ne (tgt := 12) hx hb dX12_sure_7 (by decide) (fun c3 => ?_) (fun c3 => ?_)
  · have hq := hq.1 c3
    refine lv_iconst (v := 0) hx hb dX12_sure_12 (by decide) ?_
    refine lv_istore (lv' := [(4, .int 0), (0, .ref (G.2.2 0)), (1, .int x1), (2, .int x2), (3, .int x3)]) hx hb dX12_sure_13 hl (by decide) rfl (fun ls hl => ?_)
    refine lv_aload_n hx hb dX12_sure_15 rfl (lv_at hl 1 rfl) ?_
    refine lv_iload_n hx hb dX12_sure_16 rfl (lv_at hl 2 rfl) ?_
    refine lv_iload_n hx hb dX12_sure_17 rfl (lv_at hl 3 rfl) ?_
    refine lv_iload_n hx hb dX12_sure_18 rfl (lv_at hl 4 rfl) ?_
    refine k_ci hW (va_runV (As := [.int x1, .int x2, .int x3]) (rest := []) (k_fix C) (c_X12_fillsFits l G h x1 x2 x3 _ hq) (cwV 3 C.2.2.2.2.2.1 (gU_V mw994 mw995 mw996 mw5 mw997) rfl rfl rfl (by decide +kernel) ⟨Nat.le_of_ble_eq_true rfl, Nat.le_of_ble_eq_true rfl⟩) (k_preV hK hW (shM_lt (rfl : shM 0 = 12) (by decide)) (ceM_12 (rfl : shM 0 = 12)) (q := (RX12, TX12, 73)) rfl) rfl rfl hl.1 rfl (lv_room (Nat.le_of_ble_eq_true rfl)) dX12_sure_19 ⟨Nat.le_refl 0, Nat.le_refl 0⟩) (fun r5 h4 H locs hq hW => ?_)
    refine lv_if_le (tgt := 69) hx hb dX12_sure_22 (by decide) (fun c6 => ?_) (fun c6 => ?_)
    · have hq := hq.1 c6
      refine lv_iload hx hb dX12_sure_69 (lv_at hl 0 rfl) ?_
      exact k_iret rfl C hW dX12_sure_71 hq
    · have hq := hq.2 c6
      refine lv_iconst (v := 0) hx hb dX12_sure_25 (by decide) ?_
      refine lv_istore (lv' := [(5, .int 0), (4, .int 0), (0, .ref (G.2.2 0)), (1, .int x1), (2, .int x2), (3, .int x3)]) hx hb dX12_sure_26 hl (by decide) rfl (fun ls hl => ?_)
      exact k_X12_sure_28 C hK hW (lv_sub hl [2, 1, 0] rfl) hq
  · have hq := hq.2 c3
    refine lv_iconst (v := (-1)) hx hb dX12_sure_10 (by decide) ?_
    exact k_iret rfl C hW dX12_sure_11 hq
theorem c_X12_sure (l : Launch) (G : wG) (h : hp) (x1 : Int32) (x2 : Int32) (x3 : Int32) (Q : Int32 → hp → Prop) (hq : w_X12_sure h x1 x2 x3 Q) : ctI l SM G yX12_sure wUX12_sure rmX12_sure h [.ref (G.2.2 0), .int x1, .int x2, .int x3] Q := by
  refine k_start (cc := cX12_sure) (maxL := 6) (rt := (some .int)) (own := RX12) (by decide +kernel) rfl rfl (Nat.le_of_ble_eq_true rfl) ?_
  intro p e s m below meth c ls C hK hW hl
  exact k_X12_sure_0 C hK hW hl hq
theorem k_X12_span_0 {Q : Int32 → hp → Prop} {x1 : Int32} {x2 : Int32} {x3 : Int32} {x4 : Int32} {h : hp} (C : kC p s m args meth c cX12_span 5 (some .int) RX12 wUX12_span) (hK : kK G s) {H : Heap} {locs : List Loc} {ls : Array Slot} (hW : kW SM G h (aS SM G) s H locs) (hl : lv_has ls 5 [(0, .ref (G.2.2 0)), (1, .int x1), (2, .int x2), (3, .int x3), (4, .int x4)]) (hq : w_X12_span_0 Q x1 x2 x3 x4 h) : W p l e rmX12_span s m args below meth c H locs 0 0 (MQ below (va_Qi Q (kB SM G) (aS SM G)) args s 0 0 (aS SM G)) (F0 m 0 ls []) := by
  have hx := C.1
  have hb := C.2.1
  unfold w_X12_span_0 at hq
  refine lv_aload_n hx hb dX12_span_0 rfl (lv_at hl 0 rfl) ?_
  refine lv_iload_n hx hb dX12_span_1 rfl (lv_at hl 1 rfl) ?_
  refine lv_iload_n hx hb dX12_span_2 rfl (lv_at hl 2 rfl) ?_
  refine lv_iload_n hx hb dX12_span_3 rfl (lv_at hl 3 rfl) ?_
  refine k_ci hW (va_runV (As := [.int x1, .int x2, .int x3]) (rest := []) (k_fix C) (c_X12_isAsked l G h x1 x2 x3 _ hq) (cwV 3 C.2.2.2.2.2.1 (gU_V mw988 mw989 mw990 mw5 mw991) rfl rfl rfl (by decide +kernel) ⟨Nat.le_of_ble_eq_true rfl, Nat.le_of_ble_eq_true rfl⟩) (k_preV hK hW (shM_lt (rfl : shM 0 = 12) (by decide)) (ceM_12 (rfl : shM 0 = 12)) (q := (RX12, TX12, 73)) rfl) rfl rfl hl.1 rfl (lv_room (Nat.le_of_ble_eq_true rfl)) dX12_span_4 ⟨Nat.le_refl 0, Nat.le_refl 0⟩) (fun r1 h2 H locs hq hW => ?_)
  rw [hq.1] at hW
  have hq := hq.2
  refine lv_if_eq (tgt := 32) hx hb dX12_span_7 (by decide) (fun c3 => ?_) (fun c3 => ?_)
  · have hq := hq.1 c3
    refine lv_iconst (v := (-1)) hx hb dX12_span_32 (by decide) ?_
    exact k_iret rfl C hW dX12_span_33 hq
  · have hq := hq.2 c3
    refine lv_iload hx hb dX12_span_10 (lv_at hl 4 rfl) ?_
    refine lv_i2l (v := x4.toInt64) hx hb dX12_span_12 rfl ?_
    refine lv_lconst (v := 0) hx hb dX12_span_13 (by decide) ?_
    refine lv_aload_n hx hb dX12_span_14 rfl (lv_at hl 0 rfl) ?_
    refine gt12_32 C hK hW (rfl : shM 0 = 12) (List.mem_cons_of_mem _ mw282) (fun _ h9 => List.mem_cons_of_mem _ (inU_wsX120 _ h9)) dX12_span_15 ?_
    refine lv_aload_n hx hb dX12_span_18 rfl (lv_at hl 0 rfl) ?_
    refine gt12_18 C hK hW (rfl : shM 0 = 12) (List.mem_cons_of_mem _ mw610) (fun _ h9 => List.mem_cons_of_mem _ (inU_wsX120 _ h9)) dX12_span_19 ?_
    refine k_iald C hK hW (shM_lt (rfl : shM 19 = 14) (by decide)) (ceM_14 (rfl : shM 19 = 14) (rfl : lnM 19 = 2)) hq.1 dX12_span_22 ?_
    have hq := hq.2
    refine lv_iconst (v := 1) hx hb dX12_span_23 (by decide) ?_
    refine lv_isub hx hb dX12_span_24 ?_
    refine lv_i2l (v := ((gI h 19 (ix (gI h 0 18))) - 1).toInt64) hx hb dX12_span_25 rfl ?_
    refine k_ci hW (va_runS (As := [.long (x4.toInt64), .long 0, .long (((gI h 19 (ix (gI h 0 18))) - 1).toInt64)]) (rest := []) (k_fix C) (c_X12_in l G h (x4.toInt64) 0 (((gI h 19 (ix (gI h 0 18))) - 1).toInt64) _ hq) (va_cwS 3 C.2.2.2.2.2.1 (gU_S mw762 mw763 mw5 mw764) rfl rfl rfl (by decide +kernel) ⟨Nat.le_of_ble_eq_true rfl, Nat.le_of_ble_eq_true rfl⟩) (k_preS hK hW) rfl rfl hl.1 rfl (lv_room (Nat.le_of_ble_eq_true rfl)) dX12_span_26 ⟨Nat.le_refl 0, Nat.le_refl 0⟩) (fun r4 h5 H locs hq hW => ?_)
    rw [hq.1] at hW
    have hq := hq.2
    refine lv_if_ne (tgt := 34) hx hb dX12_span_29 (by decide) (fun c6 => ?_) (fun c6 => ?_)
    · have hq := hq.1 c6
      refine lv_aload_n hx hb dX12_span_34 rfl (lv_at hl 0 rfl) ?_
      refine lv_iload_n hx hb dX12_span_35 rfl (lv_at hl 1 rfl) ?_
      refine lv_iload_n hx hb dX12_span_36 rfl (lv_at hl 2 rfl) ?_
      refine lv_iload_n hx hb dX12_span_37 rfl (lv_at hl 3 rfl) ?_
      refine k_ci hW (va_runV (As := [.int x1, .int x2, .int x3]) (rest := []) (k_fix C) (c_X12_fillsFits l G h x1 x2 x3 _ hq) (cwV 3 C.2.2.2.2.2.1 (gU_V mw994 mw995 mw996 mw5 mw997) rfl rfl rfl (by decide +kernel) ⟨Nat.le_of_ble_eq_true rfl, Nat.le_of_ble_eq_true rfl⟩) (k_preV hK hW (shM_lt (rfl : shM 0 = 12) (by decide)) (ceM_12 (rfl : shM 0 = 12)) (q := (RX12, TX12, 73)) rfl) rfl rfl hl.1 rfl (lv_room (Nat.le_of_ble_eq_true rfl)) dX12_span_38 ⟨Nat.le_refl 0, Nat.le_refl 0⟩) (fun r8 h7 H locs hq hW => ?_)
      refine lv_if_ne (tgt := 49) hx hb dX12_span_41 (by decide) (fun c9 => ?_) (fun c9 => ?_)
      · have hq := hq.1 c9
        refine lv_aload_n hx hb dX12_span_49 rfl (lv_at hl 0 rfl) ?_
        refine lv_iload hx hb dX12_span_50 (lv_at hl 4 rfl) ?_
        refine k_ci hW (va_runV (As := [.int x4]) (rest := []) (k_fix C) (c_X12_spanOf l G h7 x4 _ hq) (cwV 1 C.2.2.2.2.2.1 (gU_V mw1034 mw1035 mw1036 mw5 mw1037) rfl rfl rfl (by decide +kernel) ⟨Nat.le_of_ble_eq_true rfl, Nat.le_of_ble_eq_true rfl⟩) (k_preV hK hW (shM_lt (rfl : shM 0 = 12) (by decide)) (ceM_12 (rfl : shM 0 = 12)) (q := (RX12, TX12, 73)) rfl) rfl rfl hl.1 rfl (lv_room (Nat.le_of_ble_eq_true rfl)) dX12_span_52 ⟨Nat.le_refl 0, Nat.le_refl 0⟩) (fun r10 h11 H locs hq hW => ?_)
        rw [hq.1] at hW
        have hq := hq.2
        exact k_iret rfl C hW dX12_span_55 hq
      · have hq := hq.2 c9
        refine lv_bipush (v := (-2)) hx hb dX12_span_44 (by decide) ?_
        refine lv_goto (tgt := 55) hx hb dX12_span_46 (by decide) ?_
        exact k_iret rfl C hW dX12_span_55 hq
    · have hq := hq.2 c6
      refine lv_iconst (v := (-1)) hx hb dX12_span_32 (by decide) ?_
      exact k_iret rfl C hW dX12_span_33 hq
theorem c_X12_span (l : Launch) (G : wG) (h : hp) (x1 : Int32) (x2 : Int32) (x3 : Int32) (x4 : Int32) (Q : Int32 → hp → Prop) (hq : w_X12_span h x1 x2 x3 x4 Q) : ctI l SM G yX12_span wUX12_span rmX12_span h [.ref (G.2.2 0), .int x1, .int x2, .int x3, .int x4] Q := by
  refine k_start (cc := cX12_span) (maxL := 5) (rt := (some .int)) (own := RX12) (by decide +kernel) rfl rfl (Nat.le_of_ble_eq_true rfl) ?_
  intro p e s m below meth c ls C hK hW hl
  exact k_X12_span_0 C hK hW hl hq
end LINKS
