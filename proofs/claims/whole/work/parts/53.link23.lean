section LINKS
variable {p : Program} {l : Launch} {e : Env} {s : State} {m : MethodId} {args : Array Value} {below : List Frame} {meth : Method} {c : Code} {G : wG}
theorem k_X12_shared_0 {Q : Int32 → Prop} {x1 : Int32} {x2 : Int32} {h : hp} (C : kC p s m args meth c cX12_shared 3 (some .int) RX12 wUX12_shared) (hK : kK G s) {H : Heap} {locs : List Loc} {ls : Array Slot} (hW : kW SM G h (aS SM G) s H locs) (hl : lv_has ls 3 [(0, .ref (G.2.2 0)), (1, .int x1), (2, .int x2)]) (hq : w_X12_shared_0 Q x1 x2 h) : W p l e rmX12_shared s m args below meth c H locs 0 0 (MQ below (va_Qi (fun r9 h9 => h9 = h ∧ Q r9) (kB SM G) (aS SM G)) args s 0 0 (aS SM G)) (F0 m 0 ls []) := by
  have hx := C.1
  have hb := C.2.1
  unfold w_X12_shared_0 at hq
  refine lv_aload_n hx hb dX12_shared_0 rfl (lv_at hl 0 rfl) ?_
  refine lv_iload_n hx hb dX12_shared_1 rfl (lv_at hl 1 rfl) ?_
  refine k_ci hW (va_runV (As := [.int x1]) (rest := []) (k_fix C) (c_X12_isSet l G h x1 _ hq) (cwV 1 C.2.2.2.2.2.1 (gU_V mw1266 mw1267 mw1268 mw5 mw1269) rfl rfl rfl (by decide +kernel) ⟨Nat.le_of_ble_eq_true rfl, Nat.le_of_ble_eq_true rfl⟩) (k_preV hK hW (shM_lt (rfl : shM 0 = 12) (by decide)) (ceM_12 (rfl : shM 0 = 12)) (q := (RX12, TX12, 73)) rfl) rfl rfl hl.1 rfl (lv_room (Nat.le_of_ble_eq_true rfl)) dX12_shared_2 ⟨Nat.le_refl 0, Nat.le_refl 0⟩) (fun r1 h2 H locs hq hW => ?_)
  rw [hq.1] at hW
  have hq := hq.2
  refine lv_if_eq (tgt := 29) hx hb dX12_shared_5 (by decide) (fun c3 => ?_) (fun c3 => ?_)
  · have hq := hq.1 c3
    refine lv_iconst (v := (-1)) hx hb dX12_shared_29 (by decide) ?_
    exact k_iret rfl C hW dX12_shared_30 ⟨rfl, hq⟩
  · have hq := hq.2 c3
    refine lv_iload_n hx hb dX12_shared_8 rfl (lv_at hl 2 rfl) ?_
    refine lv_i2l (v := x2.toInt64) hx hb dX12_shared_9 rfl ?_
    refine lv_lconst (v := 0) hx hb dX12_shared_10 (by decide) ?_
    refine lv_ldc2 (v := 96) hx hb C.2.2.2.2.1 (C.2.2.2.2.2.1 _ (List.mem_cons_of_mem _ mw1298)) dX12_shared_11 ?_
    refine k_ci hW (va_runS (As := [.long (x2.toInt64), .long 0, .long 96]) (rest := []) (k_fix C) (c_X12_in l G h (x2.toInt64) 0 96 _ hq) (va_cwS 3 C.2.2.2.2.2.1 (gU_S mw762 mw763 mw5 mw764) rfl rfl rfl (by decide +kernel) ⟨Nat.le_of_ble_eq_true rfl, Nat.le_of_ble_eq_true rfl⟩) (k_preS hK hW) rfl rfl hl.1 rfl (lv_room (Nat.le_of_ble_eq_true rfl)) dX12_shared_14 ⟨Nat.le_refl 0, Nat.le_refl 0⟩) (fun r4 h5 H locs hq hW => ?_)
    rw [hq.1] at hW
    have hq := hq.2
    refine lv_if_eq (tgt := 29) hx hb dX12_shared_17 (by decide) (fun c6 => ?_) (fun c6 => ?_)
    · have hq := hq.1 c6
      refine lv_iconst (v := (-1)) hx hb dX12_shared_29 (by decide) ?_
      exact k_iret rfl C hW dX12_shared_30 ⟨rfl, hq⟩
    · have hq := hq.2 c6
      refine lv_aload_n hx hb dX12_shared_20 rfl (lv_at hl 0 rfl) ?_
      refine lv_iload_n hx hb dX12_shared_21 rfl (lv_at hl 1 rfl) ?_
      refine lv_iload_n hx hb dX12_shared_22 rfl (lv_at hl 2 rfl) ?_
      refine k_ci hW (va_runV (As := [.int x1, .int x2]) (rest := []) (k_fix C) (c_X12_rowComes l G h x1 x2 _ hq) (cwV 2 C.2.2.2.2.2.1 (gU_V mw1273 mw1274 mw1275 mw5 mw1276) rfl rfl rfl (by decide +kernel) ⟨Nat.le_of_ble_eq_true rfl, Nat.le_of_ble_eq_true rfl⟩) (k_preV hK hW (shM_lt (rfl : shM 0 = 12) (by decide)) (ceM_12 (rfl : shM 0 = 12)) (q := (RX12, TX12, 73)) rfl) rfl rfl hl.1 rfl (lv_room (Nat.le_of_ble_eq_true rfl)) dX12_shared_23 ⟨Nat.le_refl 0, Nat.le_refl 0⟩) (fun r7 h8 H locs hq hW => ?_)
      rw [hq.1] at hW
      have hq := hq.2
      refine lv_goto (tgt := 30) hx hb dX12_shared_26 (by decide) ?_
      exact k_iret rfl C hW dX12_shared_30 ⟨rfl, hq⟩
theorem c_X12_shared (l : Launch) (G : wG) (h : hp) (x1 : Int32) (x2 : Int32) (Q : Int32 → Prop) (hq : w_X12_shared h x1 x2 Q) : ctI l SM G yX12_shared wUX12_shared rmX12_shared h [.ref (G.2.2 0), .int x1, .int x2] (fun r9 h9 => h9 = h ∧ Q r9) := by
  refine k_start (cc := cX12_shared) (maxL := 3) (rt := (some .int)) (own := RX12) (by decide +kernel) rfl rfl (Nat.le_of_ble_eq_true rfl) ?_
  intro p e s m below meth c ls C hK hW hl
  exact k_X12_shared_0 C hK hW hl hq
theorem k_X12_fillsRow_209 {Q : hp → Prop} {X23 : Int32 × hp → Prop} {X79 : Int32 × Int32 × Int32 × hp → Prop} {X179 : Int32 × hp → Prop} {x1 : Int32} {x2 : Int32} {x3 : Int32} {x4 : Int32} {x5 : Int32} {x6 : Int32} {x7 : Int32} {h : hp} {s0 : Int32} {s2 : Int32} (C : kC p s m args meth c cX12_fillsRow 8 none RX12 wUX12_fillsRow) (hK : kK G s) (hX23 : ∀ (x2 : Int32) (h : hp) (H : Heap) (locs : List Loc) (ls : Array Slot), kW SM G h (aS SM G) s H locs → lv_has ls 8 [(0, .ref (G.2.2 0)), (1, .int x1), (2, .int x2)] → X23 (x2, h) → W p l e rmX12_fillsRow s m args below meth c H locs 0 0 (MQ below (va_Qv Q (kB SM G) (aS SM G)) args s 0 0 (aS SM G)) (F0 m 23 ls [])) (hX79 : ∀ (x3 : Int32) (x4 : Int32) (x5 : Int32) (h : hp) (H : Heap) (locs : List Loc) (ls : Array Slot), kW SM G h (aS SM G) s H locs → lv_has ls 8 [(0, .ref (G.2.2 0)), (1, .int x1), (2, .int x2), (3, .int x3), (4, .int x4), (5, .int x5)] → X79 (x3, x4, x5, h) → W p l e rmX12_fillsRow s m args below meth c H locs 0 0 (MQ below (va_Qv Q (kB SM G) (aS SM G)) args s 0 0 (aS SM G)) (F0 m 79 ls [])) (hX179 : ∀ (x7 : Int32) (h : hp) (H : Heap) (locs : List Loc) (ls : Array Slot), kW SM G h (aS SM G) s H locs → lv_has ls 8 [(0, .ref (G.2.2 0)), (1, .int x1), (2, .int x2), (3, .int x3), (4, .int x4), (5, .int x5), (6, .int x6), (7, .int x7)] → X179 (x7, h) → W p l e rmX12_fillsRow s m args below meth c H locs 0 0 (MQ below (va_Qv Q (kB SM G) (aS SM G)) args s 0 0 (aS SM G)) (F0 m 179 ls [])) {H : Heap} {locs : List Loc} {ls : Array Slot} (hW : kW SM G h (aS SM G) s H locs) (hl : lv_has ls 8 [(0, .ref (G.2.2 0)), (1, .int x1), (2, .int x2), (3, .int x3), (4, .int x4), (5, .int x5), (6, .int x6), (7, .int x7)]) (hq : w_X12_fillsRow_209 Q X23 X79 X179 x1 x2 x3 x4 x5 x6 x7 h s0 s2) : W p l e rmX12_fillsRow s m args below meth c H locs 0 0 (MQ below (va_Qv Q (kB SM G) (aS SM G)) args s 0 0 (aS SM G)) (F0 m 209 ls [.int s0, .ref (G.2.2 0), .int s2, .ref (G.2.2 44)]) := by
  have hx := C.1
  have hb := C.2.1
  unfold w_X12_fillsRow_209 at hq
  refine lv_iload hx hb dX12_fillsRow_209 (lv_at hl 6 rfl) ?_
  refine lv_aload_n hx hb dX12_fillsRow_211 rfl (lv_at hl 0 rfl) ?_
  refine gt12_68 C hK hW (rfl : shM 0 = 12) (List.mem_cons_of_mem _ mw310) (fun _ h9 => List.mem_cons_of_mem _ (inU_wsX120 _ h9)) dX12_fillsRow_212 ?_
  refine lv_iload hx hb dX12_fillsRow_215 (lv_at hl 7 rfl) ?_
  refine k_iald C hK hW (shM_lt (rfl : shM 44 = 14) (by decide)) (ceM_14 (rfl : shM 44 = 14) (rfl : lnM 44 = 7)) hq.1 dX12_fillsRow_217 ?_
  have hq := hq.2
  refine lv_imul hx hb dX12_fillsRow_218 ?_
  refine lv_isub hx hb dX12_fillsRow_219 ?_
  refine k_ci hW (va_runV (As := [.int (s0 - (x6 * (gI h 44 (ix x7))))]) (rest := [.int s2, .ref (G.2.2 44)]) (k_fix C) (c_X12_restOf l G h (s0 - (x6 * (gI h 44 (ix x7)))) _ hq) (cwV 1 C.2.2.2.2.2.1 (gU_V mw1277 mw1278 mw1279 mw5 mw1280) rfl rfl rfl (by decide +kernel) ⟨Nat.le_of_ble_eq_true rfl, Nat.le_of_ble_eq_true rfl⟩) (k_preV hK hW (shM_lt (rfl : shM 0 = 12) (by decide)) (ceM_12 (rfl : shM 0 = 12)) (q := (RX12, TX12, 73)) rfl) rfl rfl hl.1 rfl (lv_room (Nat.le_of_ble_eq_true rfl)) dX12_fillsRow_220 ⟨Nat.le_refl 0, Nat.le_refl 0⟩) (fun r27 h28 H locs hq hW => ?_)
  rw [hq.1] at hW
  have hq := hq.2
  refine k_iast okM C hK hW (shM_lt (rfl : shM 44 = 14) (by decide)) (fun g9 => ceM_14 (rfl : shM 44 = 14) (rfl : lnM 44 = 7)) hq.1 dX12_fillsRow_223 (fun H locs hW => ?_)
  have hq := hq.2
  obtain ⟨h29, eh29⟩ : ∃ z : hp, z = sI h 44 (ix s2) r27 := ⟨_, rfl⟩
  rw [← eh29] at hW
  have hq := hq h29 eh29
  obtain ⟨x7_30, ex7_30⟩ : ∃ y : Int32, y = x7 + (-1) := ⟨_, rfl⟩
  have hq := hq x7_30 ex7_30
  refine lv_iinc (v := x7_30) (lv' := [(7, .int x7_30), (0, .ref (G.2.2 0)), (1, .int x1), (2, .int x2), (3, .int x3), (4, .int x4), (5, .int x5), (6, .int x6)]) hx hb dX12_fillsRow_224 hl (k := 7) rfl (by rw [ex7_30]; rfl) (by decide) rfl (fun ls hl => ?_)
  refine lv_goto (tgt := 179) hx hb dX12_fillsRow_227 (by decide) ?_
  exact hX179 _ _ _ _ _ hW (lv_sub hl [1, 2, 3, 4, 5, 6, 7, 0] rfl) hq
theorem k_X12_fillsRow_b179 {Q : hp → Prop} {X23 : Int32 × hp → Prop} {X79 : Int32 × Int32 × Int32 × hp → Prop} {X179 : Int32 × hp → Prop} {x1 : Int32} {x2 : Int32} {x3 : Int32} {x4 : Int32} {x5 : Int32} {x6 : Int32} (C : kC p s m args meth c cX12_fillsRow 8 none RX12 wUX12_fillsRow) (hK : kK G s) (hX23 : ∀ (x2 : Int32) (h : hp) (H : Heap) (locs : List Loc) (ls : Array Slot), kW SM G h (aS SM G) s H locs → lv_has ls 8 [(0, .ref (G.2.2 0)), (1, .int x1), (2, .int x2)] → X23 (x2, h) → W p l e rmX12_fillsRow s m args below meth c H locs 0 0 (MQ below (va_Qv Q (kB SM G) (aS SM G)) args s 0 0 (aS SM G)) (F0 m 23 ls [])) (hX79 : ∀ (x3 : Int32) (x4 : Int32) (x5 : Int32) (h : hp) (H : Heap) (locs : List Loc) (ls : Array Slot), kW SM G h (aS SM G) s H locs → lv_has ls 8 [(0, .ref (G.2.2 0)), (1, .int x1), (2, .int x2), (3, .int x3), (4, .int x4), (5, .int x5)] → X79 (x3, x4, x5, h) → W p l e rmX12_fillsRow s m args below meth c H locs 0 0 (MQ below (va_Qv Q (kB SM G) (aS SM G)) args s 0 0 (aS SM G)) (F0 m 79 ls [])) (hX179 : ∀ (x7 : Int32) (h : hp) (H : Heap) (locs : List Loc) (ls : Array Slot), kW SM G h (aS SM G) s H locs → lv_has ls 8 [(0, .ref (G.2.2 0)), (1, .int x1), (2, .int x2), (3, .int x3), (4, .int x4), (5, .int x5), (6, .int x6), (7, .int x7)] → X179 (x7, h) → W p l e rmX12_fillsRow s m args below meth c H locs 0 0 (MQ below (va_Qv Q (kB SM G) (aS SM G)) args s 0 0 (aS SM G)) (F0 m 179 ls [])) {x7 : Int32} {h : hp} {H : Heap} {locs : List Loc} {ls : Array Slot} (hW : kW SM G h (aS SM G) s H locs) (hl : lv_has ls 8 [(0, .ref (G.2.2 0)), (1, .int x1), (2, .int x2), (3, .int x3), (4, .int x4), (5, .int x5), (6, .int x6), (7, .int x7)]) (hq : w_X12_fillsRow_b179 Q X23 X79 x1 x2 x3 x4 x5 x6 X179 x7 h) : W p l e rmX12_fillsRow s m args below meth c H locs 0 0 (MQ below (va_Qv Q (kB SM G) (aS SM G)) args s 0 0 (aS SM G)) (F0 m 179 ls []) := by
  have hx := C.1
  have hb := C.2.1
  unfold w_X12_fillsRow_b179 at hq
  refine lv_iload hx hb dX12_fillsRow_179 (lv_at hl 7 rfl) ?_
  refine lv_if_lt (tgt := 230) hx hb dX12_fillsRow_181 (by decide) (fun c23 => ?_) (fun c23 => ?_)
  · have hq := hq.1 c23
    obtain ⟨x3_24, ex3_24⟩ : ∃ y : Int32, y = x3 + 1 := ⟨_, rfl⟩
    have hq := hq x3_24 ex3_24
    refine lv_iinc (v := x3_24) (lv' := [(3, .int x3_24), (0, .ref (G.2.2 0)), (1, .int x1), (2, .int x2), (4, .int x4), (5, .int x5), (6, .int x6), (7, .int x7)]) hx hb dX12_fillsRow_230 hl (k := 3) rfl (by rw [ex3_24]; rfl) (by decide) rfl (fun ls hl => ?_)
    obtain ⟨x5_25, ex5_25⟩ : ∃ y : Int32, y = x5 + 1 := ⟨_, rfl⟩
    have hq := hq x5_25 ex5_25
    refine lv_iinc (v := x5_25) (lv' := [(5, .int x5_25), (3, .int x3_24), (0, .ref (G.2.2 0)), (1, .int x1), (2, .int x2), (4, .int x4), (6, .int x6), (7, .int x7)]) hx hb dX12_fillsRow_233 hl (k := 5) rfl (by rw [ex5_25]; rfl) (by decide) rfl (fun ls hl => ?_)
    refine lv_goto (tgt := 79) hx hb dX12_fillsRow_236 (by decide) ?_
    exact hX79 _ _ _ _ _ _ _ hW (lv_sub hl [2, 3, 4, 1, 5, 0] rfl) hq
  · have hq := hq.2 c23
    refine lv_aload_n hx hb dX12_fillsRow_184 rfl (lv_at hl 0 rfl) ?_
    refine gt12_68 C hK hW (rfl : shM 0 = 12) (List.mem_cons_of_mem _ mw310) (fun _ h9 => List.mem_cons_of_mem _ (inU_wsX120 _ h9)) dX12_fillsRow_185 ?_
    refine lv_iload hx hb dX12_fillsRow_188 (lv_at hl 7 rfl) ?_
    refine lv_aload_n hx hb dX12_fillsRow_190 rfl (lv_at hl 0 rfl) ?_
    refine lv_iload hx hb dX12_fillsRow_191 (lv_at hl 7 rfl) ?_
    refine lv_if_le (tgt := 208) hx hb dX12_fillsRow_193 (by decide) (fun c26 => ?_) (fun c26 => ?_)
    · have hq := hq.1 c26
      refine lv_iconst (v := 0) hx hb dX12_fillsRow_208 (by decide) ?_
      exact k_X12_fillsRow_209 C hK hX23 hX79 hX179 hW (lv_sub hl [0, 1, 2, 3, 4, 5, 6, 7] rfl) hq
    · have hq := hq.2 c26
      refine lv_aload_n hx hb dX12_fillsRow_196 rfl (lv_at hl 0 rfl) ?_
      refine gt12_68 C hK hW (rfl : shM 0 = 12) (List.mem_cons_of_mem _ mw310) (fun _ h9 => List.mem_cons_of_mem _ (inU_wsX120 _ h9)) dX12_fillsRow_197 ?_
      refine lv_iload hx hb dX12_fillsRow_200 (lv_at hl 7 rfl) ?_
      refine lv_iconst (v := 1) hx hb dX12_fillsRow_202 (by decide) ?_
      refine lv_isub hx hb dX12_fillsRow_203 ?_
      refine k_iald C hK hW (shM_lt (rfl : shM 44 = 14) (by decide)) (ceM_14 (rfl : shM 44 = 14) (rfl : lnM 44 = 7)) hq.1 dX12_fillsRow_204 ?_
      have hq := hq.2
      refine lv_goto (tgt := 209) hx hb dX12_fillsRow_205 (by decide) ?_
      exact k_X12_fillsRow_209 C hK hX23 hX79 hX179 hW (lv_sub hl [0, 1, 2, 3, 4, 5, 6, 7] rfl) hq
theorem k_X12_fillsRow_179 {Q : hp → Prop} {X23 : Int32 × hp → Prop} {X79 : Int32 × Int32 × Int32 × hp → Prop} {x1 : Int32} {x2 : Int32} {x3 : Int32} {x4 : Int32} {x5 : Int32} {x6 : Int32} (C : kC p s m args meth c cX12_fillsRow 8 none RX12 wUX12_fillsRow) (hK : kK G s) (hX23 : ∀ (x2 : Int32) (h : hp) (H : Heap) (locs : List Loc) (ls : Array Slot), kW SM G h (aS SM G) s H locs → lv_has ls 8 [(0, .ref (G.2.2 0)), (1, .int x1), (2, .int x2)] → X23 (x2, h) → W p l e rmX12_fillsRow s m args below meth c H locs 0 0 (MQ below (va_Qv Q (kB SM G) (aS SM G)) args s 0 0 (aS SM G)) (F0 m 23 ls [])) (hX79 : ∀ (x3 : Int32) (x4 : Int32) (x5 : Int32) (h : hp) (H : Heap) (locs : List Loc) (ls : Array Slot), kW SM G h (aS SM G) s H locs → lv_has ls 8 [(0, .ref (G.2.2 0)), (1, .int x1), (2, .int x2), (3, .int x3), (4, .int x4), (5, .int x5)] → X79 (x3, x4, x5, h) → W p l e rmX12_fillsRow s m args below meth c H locs 0 0 (MQ below (va_Qv Q (kB SM G) (aS SM G)) args s 0 0 (aS SM G)) (F0 m 79 ls [])) {x7 : Int32} {h : hp} {H : Heap} {locs : List Loc} {ls : Array Slot} (hW : kW SM G h (aS SM G) s H locs) (hl : lv_has ls 8 [(0, .ref (G.2.2 0)), (1, .int x1), (2, .int x2), (3, .int x3), (4, .int x4), (5, .int x5), (6, .int x6), (7, .int x7)]) (hq : w_X12_fillsRow_179 Q X23 X79 x1 x2 x3 x4 x5 x6 x7 h) : W p l e rmX12_fillsRow s m args below meth c H locs 0 0 (MQ below (va_Qv Q (kB SM G) (aS SM G)) args s 0 0 (aS SM G)) (F0 m 179 ls []) := by
  have key := hq (fun (q : Int32 × hp) => ∀ (H : Heap) (locs : List Loc) (ls : Array Slot), kW SM G q.2 (aS SM G) s H locs → lv_has ls 8 [(0, .ref (G.2.2 0)), (1, .int x1), (2, .int x2), (3, .int x3), (4, .int x4), (5, .int x5), (6, .int x6), (7, .int q.1)] → W p l e rmX12_fillsRow s m args below meth c H locs 0 0 (MQ below (va_Qv Q (kB SM G) (aS SM G)) args s 0 0 (aS SM G)) (F0 m 179 ls []))
    (fun q hq H locs ls hW hl => k_X12_fillsRow_b179 C hK hX23 hX79 (fun x7 h H locs ls hW hl hI => hI H locs ls hW hl) hW hl hq)
  exact key _ _ _ hW hl
theorem k_X12_fillsRow_b242 {Q : hp → Prop} {X23 : Int32 × hp → Prop} {X242 : Int32 × hp → Prop} {x1 : Int32} {x2 : Int32} {x3 : Int32} {x4 : Int32} (C : kC p s m args meth c cX12_fillsRow 8 none RX12 wUX12_fillsRow) (hK : kK G s) (hX23 : ∀ (x2 : Int32) (h : hp) (H : Heap) (locs : List Loc) (ls : Array Slot), kW SM G h (aS SM G) s H locs → lv_has ls 8 [(0, .ref (G.2.2 0)), (1, .int x1), (2, .int x2)] → X23 (x2, h) → W p l e rmX12_fillsRow s m args below meth c H locs 0 0 (MQ below (va_Qv Q (kB SM G) (aS SM G)) args s 0 0 (aS SM G)) (F0 m 23 ls [])) (hX242 : ∀ (x5 : Int32) (h : hp) (H : Heap) (locs : List Loc) (ls : Array Slot), kW SM G h (aS SM G) s H locs → lv_has ls 8 [(0, .ref (G.2.2 0)), (1, .int x1), (2, .int x2), (3, .int x3), (4, .int x4), (5, .int x5)] → X242 (x5, h) → W p l e rmX12_fillsRow s m args below meth c H locs 0 0 (MQ below (va_Qv Q (kB SM G) (aS SM G)) args s 0 0 (aS SM G)) (F0 m 242 ls [])) {x5 : Int32} {h : hp} {H : Heap} {locs : List Loc} {ls : Array Slot} (hW : kW SM G h (aS SM G) s H locs) (hl : lv_has ls 8 [(0, .ref (G.2.2 0)), (1, .int x1), (2, .int x2), (3, .int x3), (4, .int x4), (5, .int x5)]) (hq : w_X12_fillsRow_b242 Q X23 x1 x2 x3 x4 X242 x5 h) : W p l e rmX12_fillsRow s m args below meth c H locs 0 0 (MQ below (va_Qv Q (kB SM G) (aS SM G)) args s 0 0 (aS SM G)) (F0 m 242 ls []) := by
  have hx := C.1
  have hb := C.2.1
  unfold w_X12_fillsRow_b242 at hq
  refine lv_iload hx hb dX12_fillsRow_242 (lv_at hl 5 rfl) ?_
  refine lv_iload_n hx hb dX12_fillsRow_244 rfl (lv_at hl 3 rfl) ?_
  refine lv_icmp_gt (tgt := 283) hx hb dX12_fillsRow_245 (by decide) (fun c31 => ?_) (fun c31 => ?_)
  · have hq := hq.1 c31
    obtain ⟨x2_32, ex2_32⟩ : ∃ y : Int32, y = x2 + 1 := ⟨_, rfl⟩
    have hq := hq x2_32 ex2_32
    refine lv_iinc (v := x2_32) (lv' := [(2, .int x2_32), (0, .ref (G.2.2 0)), (1, .int x1), (3, .int x3), (4, .int x4), (5, .int x5)]) hx hb dX12_fillsRow_283 hl (k := 2) rfl (by rw [ex2_32]; rfl) (by decide) rfl (fun ls hl => ?_)
    refine lv_goto (tgt := 23) hx hb dX12_fillsRow_286 (by decide) ?_
    exact hX23 _ _ _ _ _ hW (lv_sub hl [1, 2, 0] rfl) hq
  · have hq := hq.2 c31
    refine lv_aload_n hx hb dX12_fillsRow_248 rfl (lv_at hl 0 rfl) ?_
    refine gt12_67 C hK hW (rfl : shM 0 = 12) (List.mem_cons_of_mem _ mw309) (fun _ h9 => List.mem_cons_of_mem _ (inU_wsX120 _ h9)) dX12_fillsRow_249 ?_
    refine lv_iload hx hb dX12_fillsRow_252 (lv_at hl 5 rfl) ?_
    refine lv_aload_n hx hb dX12_fillsRow_254 rfl (lv_at hl 0 rfl) ?_
    refine lv_aload_n hx hb dX12_fillsRow_255 rfl (lv_at hl 0 rfl) ?_
    refine gt12_67 C hK hW (rfl : shM 0 = 12) (List.mem_cons_of_mem _ mw309) (fun _ h9 => List.mem_cons_of_mem _ (inU_wsX120 _ h9)) dX12_fillsRow_256 ?_
    refine lv_iload hx hb dX12_fillsRow_259 (lv_at hl 5 rfl) ?_
    refine k_iald C hK hW (shM_lt (rfl : shM 43 = 14) (by decide)) (ceM_14 (rfl : shM 43 = 14) (rfl : lnM 43 = 6)) hq.1 dX12_fillsRow_261 ?_
    have hq := hq.2
    refine lv_iload hx hb dX12_fillsRow_262 (lv_at hl 4 rfl) ?_
    refine lv_aload_n hx hb dX12_fillsRow_264 rfl (lv_at hl 0 rfl) ?_
    refine gt12_68 C hK hW (rfl : shM 0 = 12) (List.mem_cons_of_mem _ mw310) (fun _ h9 => List.mem_cons_of_mem _ (inU_wsX120 _ h9)) dX12_fillsRow_265 ?_
    refine lv_iload hx hb dX12_fillsRow_268 (lv_at hl 5 rfl) ?_
    refine k_iald C hK hW (shM_lt (rfl : shM 44 = 14) (by decide)) (ceM_14 (rfl : shM 44 = 14) (rfl : lnM 44 = 7)) hq.1 dX12_fillsRow_270 ?_
    have hq := hq.2
    refine lv_imul hx hb dX12_fillsRow_271 ?_
    refine lv_iadd hx hb dX12_fillsRow_272 ?_
    refine k_ci hW (va_runV (As := [.int ((gI h 43 (ix x5)) + (x4 * (gI h 44 (ix x5))))]) (rest := [.int x5, .ref (G.2.2 43)]) (k_fix C) (c_X12_restOf l G h ((gI h 43 (ix x5)) + (x4 * (gI h 44 (ix x5)))) _ hq) (cwV 1 C.2.2.2.2.2.1 (gU_V mw1277 mw1278 mw1279 mw5 mw1280) rfl rfl rfl (by decide +kernel) ⟨Nat.le_of_ble_eq_true rfl, Nat.le_of_ble_eq_true rfl⟩) (k_preV hK hW (shM_lt (rfl : shM 0 = 12) (by decide)) (ceM_12 (rfl : shM 0 = 12)) (q := (RX12, TX12, 73)) rfl) rfl rfl hl.1 rfl (lv_room (Nat.le_of_ble_eq_true rfl)) dX12_fillsRow_273 ⟨Nat.le_refl 0, Nat.le_refl 0⟩) (fun r33 h34 H locs hq hW => ?_)
    rw [hq.1] at hW
    have hq := hq.2
    refine k_iast okM C hK hW (shM_lt (rfl : shM 43 = 14) (by decide)) (fun g9 => ceM_14 (rfl : shM 43 = 14) (rfl : lnM 43 = 6)) hq.1 dX12_fillsRow_276 (fun H locs hW => ?_)
    have hq := hq.2
    obtain ⟨h35, eh35⟩ : ∃ z : hp, z = sI h 43 (ix x5) r33 := ⟨_, rfl⟩
    rw [← eh35] at hW
    have hq := hq h35 eh35
    obtain ⟨x5_36, ex5_36⟩ : ∃ y : Int32, y = x5 + 1 := ⟨_, rfl⟩
    have hq := hq x5_36 ex5_36
    refine lv_iinc (v := x5_36) (lv' := [(5, .int x5_36), (0, .ref (G.2.2 0)), (1, .int x1), (2, .int x2), (3, .int x3), (4, .int x4)]) hx hb dX12_fillsRow_277 hl (k := 5) rfl (by rw [ex5_36]; rfl) (by decide) rfl (fun ls hl => ?_)
    refine lv_goto (tgt := 242) hx hb dX12_fillsRow_280 (by decide) ?_
    exact hX242 _ _ _ _ _ hW (lv_sub hl [1, 2, 3, 4, 5, 0] rfl) hq
theorem k_X12_fillsRow_242 {Q : hp → Prop} {X23 : Int32 × hp → Prop} {x1 : Int32} {x2 : Int32} {x3 : Int32} {x4 : Int32} (C : kC p s m args meth c cX12_fillsRow 8 none RX12 wUX12_fillsRow) (hK : kK G s) (hX23 : ∀ (x2 : Int32) (h : hp) (H : Heap) (locs : List Loc) (ls : Array Slot), kW SM G h (aS SM G) s H locs → lv_has ls 8 [(0, .ref (G.2.2 0)), (1, .int x1), (2, .int x2)] → X23 (x2, h) → W p l e rmX12_fillsRow s m args below meth c H locs 0 0 (MQ below (va_Qv Q (kB SM G) (aS SM G)) args s 0 0 (aS SM G)) (F0 m 23 ls [])) {x5 : Int32} {h : hp} {H : Heap} {locs : List Loc} {ls : Array Slot} (hW : kW SM G h (aS SM G) s H locs) (hl : lv_has ls 8 [(0, .ref (G.2.2 0)), (1, .int x1), (2, .int x2), (3, .int x3), (4, .int x4), (5, .int x5)]) (hq : w_X12_fillsRow_242 Q X23 x1 x2 x3 x4 x5 h) : W p l e rmX12_fillsRow s m args below meth c H locs 0 0 (MQ below (va_Qv Q (kB SM G) (aS SM G)) args s 0 0 (aS SM G)) (F0 m 242 ls []) := by
  have key := hq (fun (q : Int32 × hp) => ∀ (H : Heap) (locs : List Loc) (ls : Array Slot), kW SM G q.2 (aS SM G) s H locs → lv_has ls 8 [(0, .ref (G.2.2 0)), (1, .int x1), (2, .int x2), (3, .int x3), (4, .int x4), (5, .int q.1)] → W p l e rmX12_fillsRow s m args below meth c H locs 0 0 (MQ below (va_Qv Q (kB SM G) (aS SM G)) args s 0 0 (aS SM G)) (F0 m 242 ls []))
    (fun q hq H locs ls hW hl => k_X12_fillsRow_b242 C hK hX23 (fun x5 h H locs ls hW hl hI => hI H locs ls hW hl) hW hl hq)
  exact key _ _ _ hW hl
theorem k_X12_fillsRow_b79 {Q : hp → Prop} {X23 : Int32 × hp → Prop} {X79 : Int32 × Int32 × Int32 × hp → Prop} {x1 : Int32} {x2 : Int32} (C : kC p s m args meth c cX12_fillsRow 8 none RX12 wUX12_fillsRow) (hK : kK G s) (hX23 : ∀ (x2 : Int32) (h : hp) (H : Heap) (locs : List Loc) (ls : Array Slot), kW SM G h (aS SM G) s H locs → lv_has ls 8 [(0, .ref (G.2.2 0)), (1, .int x1), (2, .int x2)] → X23 (x2, h) → W p l e rmX12_fillsRow s m args below meth c H locs 0 0 (MQ below (va_Qv Q (kB SM G) (aS SM G)) args s 0 0 (aS SM G)) (F0 m 23 ls [])) (hX79 : ∀ (x3 : Int32) (x4 : Int32) (x5 : Int32) (h : hp) (H : Heap) (locs : List Loc) (ls : Array Slot), kW SM G h (aS SM G) s H locs → lv_has ls 8 [(0, .ref (G.2.2 0)), (1, .int x1), (2, .int x2), (3, .int x3), (4, .int x4), (5, .int x5)] → X79 (x3, x4, x5, h) → W p l e rmX12_fillsRow s m args below meth c H locs 0 0 (MQ below (va_Qv Q (kB SM G) (aS SM G)) args s 0 0 (aS SM G)) (F0 m 79 ls [])) {x3 : Int32} {x4 : Int32} {x5 : Int32} {h : hp} {H : Heap} {locs : List Loc} {ls : Array Slot} (hW : kW SM G h (aS SM G) s H locs) (hl : lv_has ls 8 [(0, .ref (G.2.2 0)), (1, .int x1), (2, .int x2), (3, .int x3), (4, .int x4), (5, .int x5)]) (hq : w_X12_fillsRow_b79 Q X23 x1 x2 X79 x3 x4 x5 h) : W p l e rmX12_fillsRow s m args below meth c H locs 0 0 (MQ below (va_Qv Q (kB SM G) (aS SM G)) args s 0 0 (aS SM G)) (F0 m 79 ls []) := by
  have hx := C.1
  have hb := C.2.1
  unfold w_X12_fillsRow_b79 at hq
  refine lv_iload hx hb dX12_fillsRow_79 (lv_at hl 5 rfl) ?_
  refine lv_aload_n hx hb dX12_fillsRow_81 rfl (lv_at hl 0 rfl) ?_
  refine gt12_26 C hK hW (rfl : shM 0 = 12) (List.mem_cons_of_mem _ mw276) (fun _ h9 => List.mem_cons_of_mem _ (inU_wsX120 _ h9)) dX12_fillsRow_82 ?_
  refine lv_aload_n hx hb dX12_fillsRow_85 rfl (lv_at hl 0 rfl) ?_
  refine gt12_18 C hK hW (rfl : shM 0 = 12) (List.mem_cons_of_mem _ mw610) (fun _ h9 => List.mem_cons_of_mem _ (inU_wsX120 _ h9)) dX12_fillsRow_86 ?_
  refine k_iald C hK hW (shM_lt (rfl : shM 13 = 14) (by decide)) (ceM_14 (rfl : shM 13 = 14) (rfl : lnM 13 = 2)) hq.1 dX12_fillsRow_89 ?_
  have hq := hq.2
  refine lv_icmp_ge (tgt := 239) hx hb dX12_fillsRow_90 (by decide) (fun c10 => ?_) (fun c10 => ?_)
  · have hq := hq.1 c10
    refine lv_iconst (v := 0) hx hb dX12_fillsRow_239 (by decide) ?_
    refine lv_istore (lv' := [(5, .int 0), (0, .ref (G.2.2 0)), (1, .int x1), (2, .int x2), (3, .int x3), (4, .int x4)]) hx hb dX12_fillsRow_240 hl (by decide) rfl (fun ls hl => ?_)
    exact k_X12_fillsRow_242 C hK hX23 hW (lv_sub hl [1, 2, 3, 4, 5, 0] rfl) hq
  · have hq := hq.2 c10
    refine lv_iload hx hb dX12_fillsRow_93 (lv_at hl 5 rfl) ?_
    refine lv_iload_n hx hb dX12_fillsRow_95 rfl (lv_at hl 2 rfl) ?_
    refine lv_icmp_eq (tgt := 233) hx hb dX12_fillsRow_96 (by decide) (fun c11 => ?_) (fun c11 => ?_)
    · have hq := hq.1 c11
      obtain ⟨x5_12, ex5_12⟩ : ∃ y : Int32, y = x5 + 1 := ⟨_, rfl⟩
      have hq := hq x5_12 ex5_12
      refine lv_iinc (v := x5_12) (lv' := [(5, .int x5_12), (0, .ref (G.2.2 0)), (1, .int x1), (2, .int x2), (3, .int x3), (4, .int x4)]) hx hb dX12_fillsRow_233 hl (k := 5) rfl (by rw [ex5_12]; rfl) (by decide) rfl (fun ls hl => ?_)
      refine lv_goto (tgt := 79) hx hb dX12_fillsRow_236 (by decide) ?_
      exact hX79 _ _ _ _ _ _ _ hW (lv_sub hl [1, 2, 3, 4, 5, 0] rfl) hq
    · have hq := hq.2 c11
      refine lv_iload_n hx hb dX12_fillsRow_99 rfl (lv_at hl 1 rfl) ?_
      refine lv_iload hx hb dX12_fillsRow_100 (lv_at hl 5 rfl) ?_
      refine k_ishr hx hb dX12_fillsRow_102 ?_
      refine lv_iconst (v := 1) hx hb dX12_fillsRow_103 (by decide) ?_
      refine lv_iand hx hb dX12_fillsRow_104 ?_
      refine lv_if_ne (tgt := 111) hx hb dX12_fillsRow_105 (by decide) (fun c13 => ?_) (fun c13 => ?_)
      · have hq := hq.1 c13
        refine lv_aload_n hx hb dX12_fillsRow_111 rfl (lv_at hl 0 rfl) ?_
        refine gt12_27 C hK hW (rfl : shM 0 = 12) (List.mem_cons_of_mem _ mw277) (fun _ h9 => List.mem_cons_of_mem _ (inU_wsX120 _ h9)) dX12_fillsRow_112 ?_
        refine lv_bipush (v := 8) hx hb dX12_fillsRow_115 (by decide) ?_
        refine lv_aload_n hx hb dX12_fillsRow_117 rfl (lv_at hl 0 rfl) ?_
        refine gt12_18 C hK hW (rfl : shM 0 = 12) (List.mem_cons_of_mem _ mw610) (fun _ h9 => List.mem_cons_of_mem _ (inU_wsX120 _ h9)) dX12_fillsRow_118 ?_
        refine lv_imul hx hb dX12_fillsRow_121 ?_
        refine lv_iload hx hb dX12_fillsRow_122 (lv_at hl 5 rfl) ?_
        refine lv_iadd hx hb dX12_fillsRow_124 ?_
        refine k_iald C hK hW (shM_lt (rfl : shM 14 = 14) (by decide)) (ceM_14 (rfl : shM 14 = 14) (rfl : lnM 14 = 16)) hq.1 dX12_fillsRow_125 ?_
        have hq := hq.2
        refine lv_topi (fun x6_14 ex6_14 => ?_)
        have hq := hq x6_14 ex6_14
        refine lv_istore (lv' := [(6, .int x6_14), (0, .ref (G.2.2 0)), (1, .int x1), (2, .int x2), (3, .int x3), (4, .int x4), (5, .int x5)]) hx hb dX12_fillsRow_126 hl (by decide) rfl (fun ls hl => ?_)
        refine lv_aload_n hx hb dX12_fillsRow_128 rfl (lv_at hl 1 rfl) ?_
        refine lv_iload hx hb dX12_fillsRow_129 (lv_at hl 5 rfl) ?_
        refine lv_aload_n hx hb dX12_fillsRow_131 rfl (lv_at hl 1 rfl) ?_
        refine lv_aload_n hx hb dX12_fillsRow_132 rfl (lv_at hl 1 rfl) ?_
        refine lv_aload_n hx hb dX12_fillsRow_133 rfl (lv_at hl 1 rfl) ?_
        refine gt12_27 C hK hW (rfl : shM 0 = 12) (List.mem_cons_of_mem _ mw277) (fun _ h9 => List.mem_cons_of_mem _ (inU_wsX120 _ h9)) dX12_fillsRow_134 ?_
        refine lv_bipush (v := 8) hx hb dX12_fillsRow_137 (by decide) ?_
        refine lv_aload_n hx hb dX12_fillsRow_139 rfl (lv_at hl 1 rfl) ?_
        refine gt12_18 C hK hW (rfl : shM 0 = 12) (List.mem_cons_of_mem _ mw610) (fun _ h9 => List.mem_cons_of_mem _ (inU_wsX120 _ h9)) dX12_fillsRow_140 ?_
        refine lv_imul hx hb dX12_fillsRow_143 ?_
        refine lv_iload_n hx hb dX12_fillsRow_144 rfl (lv_at hl 3 rfl) ?_
        refine lv_iadd hx hb dX12_fillsRow_145 ?_
        refine k_iald C hK hW (shM_lt (rfl : shM 14 = 14) (by decide)) (ceM_14 (rfl : shM 14 = 14) (rfl : lnM 14 = 16)) hq.1 dX12_fillsRow_146 ?_
        have hq := hq.2
        refine lv_iload hx hb dX12_fillsRow_147 (lv_at hl 0 rfl) ?_
        refine lv_isub hx hb dX12_fillsRow_149 ?_
        refine k_ci hW (va_runV (As := [.int ((gI h 14 (ix ((8 * (gI h 0 18)) + x2))) - x6_14)]) (rest := [.ref (G.2.2 0), .int x4, .ref (G.2.2 0)]) (k_fix C) (c_X12_restOf l G h ((gI h 14 (ix ((8 * (gI h 0 18)) + x2))) - x6_14) _ hq) (cwV 1 C.2.2.2.2.2.1 (gU_V mw1277 mw1278 mw1279 mw5 mw1280) rfl rfl rfl (by decide +kernel) ⟨Nat.le_of_ble_eq_true rfl, Nat.le_of_ble_eq_true rfl⟩) (k_preV hK hW (shM_lt (rfl : shM 0 = 12) (by decide)) (ceM_12 (rfl : shM 0 = 12)) (q := (RX12, TX12, 73)) rfl) rfl rfl hl.1 rfl (lv_room (Nat.le_of_ble_eq_true rfl)) dX12_fillsRow_150 ⟨Nat.le_refl 0, Nat.le_refl 0⟩) (fun r15 h16 H locs hq hW => ?_)
        rw [hq.1] at hW
        have hq := hq.2
        refine k_ci hW (va_runV (As := [.int r15]) (rest := [.int x4, .ref (G.2.2 0)]) (k_fix C) (c_X12_turned l G h r15 _ hq) (cwV 1 C.2.2.2.2.2.1 (gU_V mw1281 mw1282 mw1283 mw5 mw1284) rfl rfl rfl (by decide +kernel) ⟨Nat.le_of_ble_eq_true rfl, Nat.le_of_ble_eq_true rfl⟩) (k_preV hK hW (shM_lt (rfl : shM 0 = 12) (by decide)) (ceM_12 (rfl : shM 0 = 12)) (q := (RX12, TX12, 73)) rfl) rfl rfl hl.1 rfl (lv_room (Nat.le_of_ble_eq_true rfl)) dX12_fillsRow_153 ⟨Nat.le_refl 0, Nat.le_refl 0⟩) (fun r17 h18 H locs hq hW => ?_)
        rw [hq.1] at hW
        have hq := hq.2
        refine lv_imul hx hb dX12_fillsRow_156 ?_
        refine k_ci hW (va_runV (As := [.int (x4 * r17)]) (rest := []) (k_fix C) (c_X12_restOf l G h (x4 * r17) _ hq) (cwV 1 C.2.2.2.2.2.1 (gU_V mw1277 mw1278 mw1279 mw5 mw1280) rfl rfl rfl (by decide +kernel) ⟨Nat.le_of_ble_eq_true rfl, Nat.le_of_ble_eq_true rfl⟩) (k_preV hK hW (shM_lt (rfl : shM 0 = 12) (by decide)) (ceM_12 (rfl : shM 0 = 12)) (q := (RX12, TX12, 73)) rfl) rfl rfl hl.1 rfl (lv_room (Nat.le_of_ble_eq_true rfl)) dX12_fillsRow_157 ⟨Nat.le_refl 0, Nat.le_refl 0⟩) (fun r19 h20 H locs hq hW => ?_)
        rw [hq.1] at hW
        have hq := hq.2
        refine lv_istore (lv' := [(4, .int r19), (6, .int x6_14), (0, .ref (G.2.2 0)), (1, .int x1), (2, .int x2), (3, .int x3), (5, .int x5)]) hx hb dX12_fillsRow_160 hl (by decide) rfl (fun ls hl => ?_)
        refine lv_aload_n hx hb dX12_fillsRow_162 rfl (lv_at hl 2 rfl) ?_
        refine gt12_68 C hK hW (rfl : shM 0 = 12) (List.mem_cons_of_mem _ mw310) (fun _ h9 => List.mem_cons_of_mem _ (inU_wsX120 _ h9)) dX12_fillsRow_163 ?_
        refine lv_iload_n hx hb dX12_fillsRow_166 rfl (lv_at hl 5 rfl) ?_
        refine lv_iconst (v := 1) hx hb dX12_fillsRow_167 (by decide) ?_
        refine lv_iadd hx hb dX12_fillsRow_168 ?_
        refine lv_aload_n hx hb dX12_fillsRow_169 rfl (lv_at hl 2 rfl) ?_
        refine gt12_68 C hK hW (rfl : shM 0 = 12) (List.mem_cons_of_mem _ mw310) (fun _ h9 => List.mem_cons_of_mem _ (inU_wsX120 _ h9)) dX12_fillsRow_170 ?_
        refine lv_iload_n hx hb dX12_fillsRow_173 rfl (lv_at hl 5 rfl) ?_
        refine k_iald C hK hW (shM_lt (rfl : shM 44 = 14) (by decide)) (ceM_14 (rfl : shM 44 = 14) (rfl : lnM 44 = 7)) hq.1 dX12_fillsRow_174 ?_
        have hq := hq.2
        refine k_iast okM C hK hW (shM_lt (rfl : shM 44 = 14) (by decide)) (fun g9 => ceM_14 (rfl : shM 44 = 14) (rfl : lnM 44 = 7)) hq.1 dX12_fillsRow_175 (fun H locs hW => ?_)
        have hq := hq.2
        obtain ⟨h21, eh21⟩ : ∃ z : hp, z = sI h 44 (ix (x3 + 1)) (gI h 44 (ix x3)) := ⟨_, rfl⟩
        rw [← eh21] at hW
        have hq := hq h21 eh21
        refine lv_iload_n hx hb dX12_fillsRow_176 rfl (lv_at hl 5 rfl) ?_
        refine lv_istore (lv' := [(7, .int x3), (4, .int r19), (6, .int x6_14), (0, .ref (G.2.2 0)), (1, .int x1), (2, .int x2), (3, .int x3), (5, .int x5)]) hx hb dX12_fillsRow_177 hl (by decide) rfl (fun ls hl => ?_)
        exact k_X12_fillsRow_179 C hK hX23 hX79 hW (lv_sub hl [3, 4, 5, 6, 1, 7, 2, 0] rfl) hq
      · have hq := hq.2 c13
        refine lv_goto (tgt := 233) hx hb dX12_fillsRow_108 (by decide) ?_
        obtain ⟨x5_22, ex5_22⟩ : ∃ y : Int32, y = x5 + 1 := ⟨_, rfl⟩
        have hq := hq x5_22 ex5_22
        refine lv_iinc (v := x5_22) (lv' := [(5, .int x5_22), (0, .ref (G.2.2 0)), (1, .int x1), (2, .int x2), (3, .int x3), (4, .int x4)]) hx hb dX12_fillsRow_233 hl (k := 5) rfl (by rw [ex5_22]; rfl) (by decide) rfl (fun ls hl => ?_)
        refine lv_goto (tgt := 79) hx hb dX12_fillsRow_236 (by decide) ?_
        exact hX79 _ _ _ _ _ _ _ hW (lv_sub hl [1, 2, 3, 4, 5, 0] rfl) hq
theorem k_X12_fillsRow_79 {Q : hp → Prop} {X23 : Int32 × hp → Prop} {x1 : Int32} {x2 : Int32} (C : kC p s m args meth c cX12_fillsRow 8 none RX12 wUX12_fillsRow) (hK : kK G s) (hX23 : ∀ (x2 : Int32) (h : hp) (H : Heap) (locs : List Loc) (ls : Array Slot), kW SM G h (aS SM G) s H locs → lv_has ls 8 [(0, .ref (G.2.2 0)), (1, .int x1), (2, .int x2)] → X23 (x2, h) → W p l e rmX12_fillsRow s m args below meth c H locs 0 0 (MQ below (va_Qv Q (kB SM G) (aS SM G)) args s 0 0 (aS SM G)) (F0 m 23 ls [])) {x3 : Int32} {x4 : Int32} {x5 : Int32} {h : hp} {H : Heap} {locs : List Loc} {ls : Array Slot} (hW : kW SM G h (aS SM G) s H locs) (hl : lv_has ls 8 [(0, .ref (G.2.2 0)), (1, .int x1), (2, .int x2), (3, .int x3), (4, .int x4), (5, .int x5)]) (hq : w_X12_fillsRow_79 Q X23 x1 x2 x3 x4 x5 h) : W p l e rmX12_fillsRow s m args below meth c H locs 0 0 (MQ below (va_Qv Q (kB SM G) (aS SM G)) args s 0 0 (aS SM G)) (F0 m 79 ls []) := by
  have key := hq (fun (q : Int32 × Int32 × Int32 × hp) => ∀ (H : Heap) (locs : List Loc) (ls : Array Slot), kW SM G q.2.2.2 (aS SM G) s H locs → lv_has ls 8 [(0, .ref (G.2.2 0)), (1, .int x1), (2, .int x2), (3, .int q.1), (4, .int q.2.1), (5, .int q.2.2.1)] → W p l e rmX12_fillsRow s m args below meth c H locs 0 0 (MQ below (va_Qv Q (kB SM G) (aS SM G)) args s 0 0 (aS SM G)) (F0 m 79 ls []))
    (fun q hq H locs ls hW hl => k_X12_fillsRow_b79 C hK hX23 (fun x3 x4 x5 h H locs ls hW hl hI => hI H locs ls hW hl) hW hl hq)
  exact key _ _ _ hW hl
theorem k_X12_fillsRow_b23 {Q : hp → Prop} {X23 : Int32 × hp → Prop} {x1 : Int32} (C : kC p s m args meth c cX12_fillsRow 8 none RX12 wUX12_fillsRow) (hK : kK G s) (hX23 : ∀ (x2 : Int32) (h : hp) (H : Heap) (locs : List Loc) (ls : Array Slot), kW SM G h (aS SM G) s H locs → lv_has ls 8 [(0, .ref (G.2.2 0)), (1, .int x1), (2, .int x2)] → X23 (x2, h) → W p l e rmX12_fillsRow s m args below meth c H locs 0 0 (MQ below (va_Qv Q (kB SM G) (aS SM G)) args s 0 0 (aS SM G)) (F0 m 23 ls [])) {x2 : Int32} {h : hp} {H : Heap} {locs : List Loc} {ls : Array Slot} (hW : kW SM G h (aS SM G) s H locs) (hl : lv_has ls 8 [(0, .ref (G.2.2 0)), (1, .int x1), (2, .int x2)]) (hq : w_X12_fillsRow_b23 Q x1 X23 x2 h) : W p l e rmX12_fillsRow s m args below meth c H locs 0 0 (MQ below (va_Qv Q (kB SM G) (aS SM G)) args s 0 0 (aS SM G)) (F0 m 23 ls []) := by
  have hx := C.1
  have hb := C.2.1
  unfold w_X12_fillsRow_b23 at hq
  refine lv_iload_n hx hb dX12_fillsRow_23 rfl (lv_at hl 2 rfl) ?_
  refine lv_aload_n hx hb dX12_fillsRow_24 rfl (lv_at hl 0 rfl) ?_
  refine gt12_26 C hK hW (rfl : shM 0 = 12) (List.mem_cons_of_mem _ mw276) (fun _ h9 => List.mem_cons_of_mem _ (inU_wsX120 _ h9)) dX12_fillsRow_25 ?_
  refine lv_aload_n hx hb dX12_fillsRow_28 rfl (lv_at hl 0 rfl) ?_
  refine gt12_18 C hK hW (rfl : shM 0 = 12) (List.mem_cons_of_mem _ mw610) (fun _ h9 => List.mem_cons_of_mem _ (inU_wsX120 _ h9)) dX12_fillsRow_29 ?_
  refine k_iald C hK hW (shM_lt (rfl : shM 13 = 14) (by decide)) (ceM_14 (rfl : shM 13 = 14) (rfl : lnM 13 = 2)) hq.1 dX12_fillsRow_32 ?_
  have hq := hq.2
  refine lv_icmp_ge (tgt := 289) hx hb dX12_fillsRow_33 (by decide) (fun c4 => ?_) (fun c4 => ?_)
  · have hq := hq.1 c4
    exact k_vret rfl C hW dX12_fillsRow_289 hq
  · have hq := hq.2 c4
    refine lv_iload_n hx hb dX12_fillsRow_36 rfl (lv_at hl 1 rfl) ?_
    refine lv_iload_n hx hb dX12_fillsRow_37 rfl (lv_at hl 2 rfl) ?_
    refine k_ishr hx hb dX12_fillsRow_38 ?_
    refine lv_iconst (v := 1) hx hb dX12_fillsRow_39 (by decide) ?_
    refine lv_iand hx hb dX12_fillsRow_40 ?_
    refine lv_if_ne (tgt := 47) hx hb dX12_fillsRow_41 (by decide) (fun c5 => ?_) (fun c5 => ?_)
    · have hq := hq.1 c5
      refine lv_iconst (v := 0) hx hb dX12_fillsRow_47 (by decide) ?_
      refine lv_istore_n (lv' := [(3, .int 0), (0, .ref (G.2.2 0)), (1, .int x1), (2, .int x2)]) hx hb dX12_fillsRow_48 rfl hl (by decide) rfl (fun ls hl => ?_)
      refine lv_aload_n hx hb dX12_fillsRow_49 rfl (lv_at hl 1 rfl) ?_
      refine lv_aload_n hx hb dX12_fillsRow_50 rfl (lv_at hl 1 rfl) ?_
      refine gt12_28 C hK hW (rfl : shM 0 = 12) (List.mem_cons_of_mem _ mw278) (fun _ h9 => List.mem_cons_of_mem _ (inU_wsX120 _ h9)) dX12_fillsRow_51 ?_
      refine lv_bipush (v := 8) hx hb dX12_fillsRow_54 (by decide) ?_
      refine lv_aload_n hx hb dX12_fillsRow_56 rfl (lv_at hl 1 rfl) ?_
      refine gt12_18 C hK hW (rfl : shM 0 = 12) (List.mem_cons_of_mem _ mw610) (fun _ h9 => List.mem_cons_of_mem _ (inU_wsX120 _ h9)) dX12_fillsRow_57 ?_
      refine lv_imul hx hb dX12_fillsRow_60 ?_
      refine lv_iload_n hx hb dX12_fillsRow_61 rfl (lv_at hl 3 rfl) ?_
      refine lv_iadd hx hb dX12_fillsRow_62 ?_
      refine k_iald C hK hW (shM_lt (rfl : shM 15 = 14) (by decide)) (ceM_14 (rfl : shM 15 = 14) (rfl : lnM 15 = 16)) hq.1 dX12_fillsRow_63 ?_
      have hq := hq.2
      refine k_ci hW (va_runV (As := [.int (gI h 15 (ix ((8 * (gI h 0 18)) + x2)))]) (rest := []) (k_fix C) (c_X12_restOf l G h (gI h 15 (ix ((8 * (gI h 0 18)) + x2))) _ hq) (cwV 1 C.2.2.2.2.2.1 (gU_V mw1277 mw1278 mw1279 mw5 mw1280) rfl rfl rfl (by decide +kernel) ⟨Nat.le_of_ble_eq_true rfl, Nat.le_of_ble_eq_true rfl⟩) (k_preV hK hW (shM_lt (rfl : shM 0 = 12) (by decide)) (ceM_12 (rfl : shM 0 = 12)) (q := (RX12, TX12, 73)) rfl) rfl rfl hl.1 rfl (lv_room (Nat.le_of_ble_eq_true rfl)) dX12_fillsRow_64 ⟨Nat.le_refl 0, Nat.le_refl 0⟩) (fun r6 h7 H locs hq hW => ?_)
      rw [hq.1] at hW
      have hq := hq.2
      refine lv_istore (lv' := [(4, .int r6), (3, .int 0), (0, .ref (G.2.2 0)), (1, .int x1), (2, .int x2)]) hx hb dX12_fillsRow_67 hl (by decide) rfl (fun ls hl => ?_)
      refine lv_aload_n hx hb dX12_fillsRow_69 rfl (lv_at hl 2 rfl) ?_
      refine gt12_68 C hK hW (rfl : shM 0 = 12) (List.mem_cons_of_mem _ mw310) (fun _ h9 => List.mem_cons_of_mem _ (inU_wsX120 _ h9)) dX12_fillsRow_70 ?_
      refine lv_iconst (v := 0) hx hb dX12_fillsRow_73 (by decide) ?_
      refine lv_iconst (v := 1) hx hb dX12_fillsRow_74 (by decide) ?_
      refine k_iast okM C hK hW (shM_lt (rfl : shM 44 = 14) (by decide)) (fun g9 => ceM_14 (rfl : shM 44 = 14) (rfl : lnM 44 = 7)) hq.1 dX12_fillsRow_75 (fun H locs hW => ?_)
      have hq := hq.2
      obtain ⟨h8, eh8⟩ : ∃ z : hp, z = sI h 44 (ix 0) 1 := ⟨_, rfl⟩
      rw [← eh8] at hW
      have hq := hq h8 eh8
      refine lv_iconst (v := 0) hx hb dX12_fillsRow_76 (by decide) ?_
      refine lv_istore (lv' := [(5, .int 0), (4, .int r6), (3, .int 0), (0, .ref (G.2.2 0)), (1, .int x1), (2, .int x2)]) hx hb dX12_fillsRow_77 hl (by decide) rfl (fun ls hl => ?_)
      exact k_X12_fillsRow_79 C hK hX23 hW (lv_sub hl [3, 4, 5, 2, 1, 0] rfl) hq
    · have hq := hq.2 c5
      refine lv_goto (tgt := 283) hx hb dX12_fillsRow_44 (by decide) ?_
      obtain ⟨x2_9, ex2_9⟩ : ∃ y : Int32, y = x2 + 1 := ⟨_, rfl⟩
      have hq := hq x2_9 ex2_9
      refine lv_iinc (v := x2_9) (lv' := [(2, .int x2_9), (0, .ref (G.2.2 0)), (1, .int x1)]) hx hb dX12_fillsRow_283 hl (k := 2) rfl (by rw [ex2_9]; rfl) (by decide) rfl (fun ls hl => ?_)
      refine lv_goto (tgt := 23) hx hb dX12_fillsRow_286 (by decide) ?_
      exact hX23 _ _ _ _ _ hW (lv_sub hl [1, 2, 0] rfl) hq
theorem k_X12_fillsRow_23 {Q : hp → Prop} {x1 : Int32} (C : kC p s m args meth c cX12_fillsRow 8 none RX12 wUX12_fillsRow) (hK : kK G s) {x2 : Int32} {h : hp} {H : Heap} {locs : List Loc} {ls : Array Slot} (hW : kW SM G h (aS SM G) s H locs) (hl : lv_has ls 8 [(0, .ref (G.2.2 0)), (1, .int x1), (2, .int x2)]) (hq : w_X12_fillsRow_23 Q x1 x2 h) : W p l e rmX12_fillsRow s m args below meth c H locs 0 0 (MQ below (va_Qv Q (kB SM G) (aS SM G)) args s 0 0 (aS SM G)) (F0 m 23 ls []) := by
  have key := hq (fun (q : Int32 × hp) => ∀ (H : Heap) (locs : List Loc) (ls : Array Slot), kW SM G q.2 (aS SM G) s H locs → lv_has ls 8 [(0, .ref (G.2.2 0)), (1, .int x1), (2, .int q.1)] → W p l e rmX12_fillsRow s m args below meth c H locs 0 0 (MQ below (va_Qv Q (kB SM G) (aS SM G)) args s 0 0 (aS SM G)) (F0 m 23 ls []))
    (fun q hq H locs ls hW hl => k_X12_fillsRow_b23 C hK (fun x2 h H locs ls hW hl hI => hI H locs ls hW hl) hW hl hq)
  exact key _ _ _ hW hl
theorem k_X12_fillsRow_b2 {Q : hp → Prop} {X2 : Int32 × hp → Prop} {x1 : Int32} (C : kC p s m args meth c cX12_fillsRow 8 none RX12 wUX12_fillsRow) (hK : kK G s) (hX2 : ∀ (x2 : Int32) (h : hp) (H : Heap) (locs : List Loc) (ls : Array Slot), kW SM G h (aS SM G) s H locs → lv_has ls 8 [(0, .ref (G.2.2 0)), (1, .int x1), (2, .int x2)] → X2 (x2, h) → W p l e rmX12_fillsRow s m args below meth c H locs 0 0 (MQ below (va_Qv Q (kB SM G) (aS SM G)) args s 0 0 (aS SM G)) (F0 m 2 ls [])) {x2 : Int32} {h : hp} {H : Heap} {locs : List Loc} {ls : Array Slot} (hW : kW SM G h (aS SM G) s H locs) (hl : lv_has ls 8 [(0, .ref (G.2.2 0)), (1, .int x1), (2, .int x2)]) (hq : w_X12_fillsRow_b2 Q x1 X2 x2 h) : W p l e rmX12_fillsRow s m args below meth c H locs 0 0 (MQ below (va_Qv Q (kB SM G) (aS SM G)) args s 0 0 (aS SM G)) (F0 m 2 ls []) := by
  have hx := C.1
  have hb := C.2.1
  unfold w_X12_fillsRow_b2 at hq
  refine lv_iload_n hx hb dX12_fillsRow_2 rfl (lv_at hl 2 rfl) ?_
  refine lv_bipush (v := 6) hx hb dX12_fillsRow_3 (by decide) ?_
  refine lv_icmp_ge (tgt := 21) hx hb dX12_fillsRow_5 (by decide) (fun c1 => ?_) (fun c1 => ?_)
  · have hq := hq.1 c1
    refine lv_iconst (v := 0) hx hb dX12_fillsRow_21 (by decide) ?_
    refine lv_istore_n (lv' := [(2, .int 0), (0, .ref (G.2.2 0)), (1, .int x1)]) hx hb dX12_fillsRow_22 rfl hl (by decide) rfl (fun ls hl => ?_)
    exact k_X12_fillsRow_23 C hK hW (lv_sub hl [1, 2, 0] rfl) hq
  · have hq := hq.2 c1
    refine lv_aload_n hx hb dX12_fillsRow_8 rfl (lv_at hl 0 rfl) ?_
    refine gt12_67 C hK hW (rfl : shM 0 = 12) (List.mem_cons_of_mem _ mw309) (fun _ h9 => List.mem_cons_of_mem _ (inU_wsX120 _ h9)) dX12_fillsRow_9 ?_
    refine lv_iload_n hx hb dX12_fillsRow_12 rfl (lv_at hl 2 rfl) ?_
    refine lv_iconst (v := 0) hx hb dX12_fillsRow_13 (by decide) ?_
    refine k_iast okM C hK hW (shM_lt (rfl : shM 43 = 14) (by decide)) (fun g9 => ceM_14 (rfl : shM 43 = 14) (rfl : lnM 43 = 6)) hq.1 dX12_fillsRow_14 (fun H locs hW => ?_)
    have hq := hq.2
    obtain ⟨h2, eh2⟩ : ∃ z : hp, z = sI h 43 (ix x2) 0 := ⟨_, rfl⟩
    rw [← eh2] at hW
    have hq := hq h2 eh2
    obtain ⟨x2_3, ex2_3⟩ : ∃ y : Int32, y = x2 + 1 := ⟨_, rfl⟩
    have hq := hq x2_3 ex2_3
    refine lv_iinc (v := x2_3) (lv' := [(2, .int x2_3), (0, .ref (G.2.2 0)), (1, .int x1)]) hx hb dX12_fillsRow_15 hl (k := 2) rfl (by rw [ex2_3]; rfl) (by decide) rfl (fun ls hl => ?_)
    refine lv_goto (tgt := 2) hx hb dX12_fillsRow_18 (by decide) ?_
    exact hX2 _ _ _ _ _ hW (lv_sub hl [1, 2, 0] rfl) hq
theorem k_X12_fillsRow_2 {Q : hp → Prop} {x1 : Int32} (C : kC p s m args meth c cX12_fillsRow 8 none RX12 wUX12_fillsRow) (hK : kK G s) {x2 : Int32} {h : hp} {H : Heap} {locs : List Loc} {ls : Array Slot} (hW : kW SM G h (aS SM G) s H locs) (hl : lv_has ls 8 [(0, .ref (G.2.2 0)), (1, .int x1), (2, .int x2)]) (hq : w_X12_fillsRow_2 Q x1 x2 h) : W p l e rmX12_fillsRow s m args below meth c H locs 0 0 (MQ below (va_Qv Q (kB SM G) (aS SM G)) args s 0 0 (aS SM G)) (F0 m 2 ls []) := by
  have key := hq (fun (q : Int32 × hp) => ∀ (H : Heap) (locs : List Loc) (ls : Array Slot), kW SM G q.2 (aS SM G) s H locs → lv_has ls 8 [(0, .ref (G.2.2 0)), (1, .int x1), (2, .int q.1)] → W p l e rmX12_fillsRow s m args below meth c H locs 0 0 (MQ below (va_Qv Q (kB SM G) (aS SM G)) args s 0 0 (aS SM G)) (F0 m 2 ls []))
    (fun q hq H locs ls hW hl => k_X12_fillsRow_b2 C hK (fun x2 h H locs ls hW hl hI => hI H locs ls hW hl) hW hl hq)
  exact key _ _ _ hW hl
theorem k_X12_fillsRow_0 {Q : hp → Prop} {x1 : Int32} {h : hp} (C : kC p s m args meth c cX12_fillsRow 8 none RX12 wUX12_fillsRow) (hK : kK G s) {H : Heap} {locs : List Loc} {ls : Array Slot} (hW : kW SM G h (aS SM G) s H locs) (hl : lv_has ls 8 [(0, .ref (G.2.2 0)), (1, .int x1)]) (hq : w_X12_fillsRow_0 Q x1 h) : W p l e rmX12_fillsRow s m args below meth c H locs 0 0 (MQ below (va_Qv Q (kB SM G) (aS SM G)) args s 0 0 (aS SM G)) (F0 m 0 ls []) := by
  have hx := C.1
  have hb := C.2.1
  unfold w_X12_fillsRow_0 at hq
  refine lv_iconst (v := 0) hx hb dX12_fillsRow_0 (by decide) ?_
  refine lv_istore_n (lv' := [(2, .int 0), (0, .ref (G.2.2 0)), (1, .int x1)]) hx hb dX12_fillsRow_1 rfl hl (by decide) rfl (fun ls hl => ?_)
  exact k_X12_fillsRow_2 C hK hW (lv_sub hl [1, 2, 0] rfl) hq
theorem c_X12_fillsRow (l : Launch) (G : wG) (h : hp) (x1 : Int32) (Q : hp → Prop) (hq : w_X12_fillsRow h x1 Q) : ctV l SM G yX12_fillsRow wUX12_fillsRow rmX12_fillsRow h [.ref (G.2.2 0), .int x1] Q := by
  refine k_start (cc := cX12_fillsRow) (maxL := 8) (rt := none) (own := RX12) (by decide +kernel) rfl rfl (Nat.le_of_ble_eq_true rfl) ?_
  intro p e s m below meth c ls C hK hW hl
  exact k_X12_fillsRow_0 C hK hW hl hq
theorem k_X12_shareRow_0 {Q : Int32 → hp → Prop} {x1 : Int32} {x2 : Int32} {h : hp} (C : kC p s m args meth c cX12_shareRow 3 (some .int) RX12 wUX12_shareRow) (hK : kK G s) {H : Heap} {locs : List Loc} {ls : Array Slot} (hW : kW SM G h (aS SM G) s H locs) (hl : lv_has ls 3 [(0, .ref (G.2.2 0)), (1, .int x1), (2, .int x2)]) (hq : w_X12_shareRow_0 Q x1 x2 h) : W p l e rmX12_shareRow s m args below meth c H locs 0 0 (MQ below (va_Qi Q (kB SM G) (aS SM G)) args s 0 0 (aS SM G)) (F0 m 0 ls []) := by
  have hx := C.1
  have hb := C.2.1
  unfold w_X12_shareRow_0 at hq
  refine lv_aload_n hx hb dX12_shareRow_0 rfl (lv_at hl 0 rfl) ?_
  refine lv_iload_n hx hb dX12_shareRow_1 rfl (lv_at hl 1 rfl) ?_
  refine k_ci hW (va_runV (As := [.int x1]) (rest := []) (k_fix C) (c_X12_isSet l G h x1 _ hq) (cwV 1 C.2.2.2.2.2.1 (gU_V mw1266 mw1267 mw1268 mw5 mw1269) rfl rfl rfl (by decide +kernel) ⟨Nat.le_of_ble_eq_true rfl, Nat.le_of_ble_eq_true rfl⟩) (k_preV hK hW (shM_lt (rfl : shM 0 = 12) (by decide)) (ceM_12 (rfl : shM 0 = 12)) (q := (RX12, TX12, 73)) rfl) rfl rfl hl.1 rfl (lv_room (Nat.le_of_ble_eq_true rfl)) dX12_shareRow_2 ⟨Nat.le_refl 0, Nat.le_refl 0⟩) (fun r1 h2 H locs hq hW => ?_)
  rw [hq.1] at hW
  have hq := hq.2
  refine lv_if_eq (tgt := 24) hx hb dX12_shareRow_5 (by decide) (fun c3 => ?_) (fun c3 => ?_)
  · have hq := hq.1 c3
    refine lv_iconst (v := (-1)) hx hb dX12_shareRow_24 (by decide) ?_
    exact k_iret rfl C hW dX12_shareRow_25 hq
  · have hq := hq.2 c3
    refine lv_iload_n hx hb dX12_shareRow_8 rfl (lv_at hl 2 rfl) ?_
    refine lv_i2l (v := x2.toInt64) hx hb dX12_shareRow_9 rfl ?_
    refine lv_lconst (v := 0) hx hb dX12_shareRow_10 (by decide) ?_
    refine lv_iload_n hx hb dX12_shareRow_11 rfl (lv_at hl 1 rfl) ?_
    refine k_ci hW (va_runS (As := [.int x1]) (rest := [.long 0, .long (x2.toInt64)]) (k_fix C) (c_X12_bits l G h x1 _ hq) (va_cwS 1 C.2.2.2.2.2.1 (gU_S mw1270 mw1271 mw5 mw1272) rfl rfl rfl (by decide +kernel) ⟨Nat.le_of_ble_eq_true rfl, Nat.le_of_ble_eq_true rfl⟩) (k_preS hK hW) rfl rfl hl.1 rfl (lv_room (Nat.le_of_ble_eq_true rfl)) dX12_shareRow_12 ⟨Nat.le_refl 0, Nat.le_refl 0⟩) (fun r4 h5 H locs hq hW => ?_)
    rw [hq.1] at hW
    have hq := hq.2
    refine lv_iconst (v := 1) hx hb dX12_shareRow_15 (by decide) ?_
    refine lv_isub hx hb dX12_shareRow_16 ?_
    refine lv_i2l (v := (r4 - 1).toInt64) hx hb dX12_shareRow_17 rfl ?_
    refine k_ci hW (va_runS (As := [.long (x2.toInt64), .long 0, .long ((r4 - 1).toInt64)]) (rest := []) (k_fix C) (c_X12_in l G h (x2.toInt64) 0 ((r4 - 1).toInt64) _ hq) (va_cwS 3 C.2.2.2.2.2.1 (gU_S mw762 mw763 mw5 mw764) rfl rfl rfl (by decide +kernel) ⟨Nat.le_of_ble_eq_true rfl, Nat.le_of_ble_eq_true rfl⟩) (k_preS hK hW) rfl rfl hl.1 rfl (lv_room (Nat.le_of_ble_eq_true rfl)) dX12_shareRow_18 ⟨Nat.le_refl 0, Nat.le_refl 0⟩) (fun r6 h7 H locs hq hW => ?_)
    rw [hq.1] at hW
    have hq := hq.2
    refine lv_if_ne (tgt := 26) hx hb dX12_shareRow_21 (by decide) (fun c8 => ?_) (fun c8 => ?_)
    · have hq := hq.1 c8
      refine lv_aload_n hx hb dX12_shareRow_26 rfl (lv_at hl 0 rfl) ?_
      refine lv_iload_n hx hb dX12_shareRow_27 rfl (lv_at hl 1 rfl) ?_
      refine k_cv hW (va_runV (As := [.int x1]) (rest := []) (k_fix C) (c_X12_fillsRow l G h x1 _ hq) (cwV 1 C.2.2.2.2.2.1 (gU_V mw1391 mw1392 mw1393 mw5 mw1394) rfl rfl rfl (by decide +kernel) ⟨Nat.le_of_ble_eq_true rfl, Nat.le_of_ble_eq_true rfl⟩) (k_preV hK hW (shM_lt (rfl : shM 0 = 12) (by decide)) (ceM_12 (rfl : shM 0 = 12)) (q := (RX12, TX12, 73)) rfl) rfl rfl hl.1 rfl (lv_room (Nat.le_of_ble_eq_true rfl)) dX12_shareRow_28 ⟨Nat.le_refl 0, Nat.le_refl 0⟩) (fun h9 H locs hq hW => ?_)
      refine lv_aload_n hx hb dX12_shareRow_31 rfl (lv_at hl 0 rfl) ?_
      refine gt12_67 C hK hW (rfl : shM 0 = 12) (List.mem_cons_of_mem _ mw309) (fun _ h9 => List.mem_cons_of_mem _ (inU_wsX120 _ h9)) dX12_shareRow_32 ?_
      refine lv_iload_n hx hb dX12_shareRow_35 rfl (lv_at hl 2 rfl) ?_
      refine k_iald C hK hW (shM_lt (rfl : shM 43 = 14) (by decide)) (ceM_14 (rfl : shM 43 = 14) (rfl : lnM 43 = 6)) hq.1 dX12_shareRow_36 ?_
      have hq := hq.2
      exact k_iret rfl C hW dX12_shareRow_37 hq
    · have hq := hq.2 c8
      refine lv_iconst (v := (-1)) hx hb dX12_shareRow_24 (by decide) ?_
      exact k_iret rfl C hW dX12_shareRow_25 hq
theorem c_X12_shareRow (l : Launch) (G : wG) (h : hp) (x1 : Int32) (x2 : Int32) (Q : Int32 → hp → Prop) (hq : w_X12_shareRow h x1 x2 Q) : ctI l SM G yX12_shareRow wUX12_shareRow rmX12_shareRow h [.ref (G.2.2 0), .int x1, .int x2] Q := by
  refine k_start (cc := cX12_shareRow) (maxL := 3) (rt := (some .int)) (own := RX12) (by decide +kernel) rfl rfl (Nat.le_of_ble_eq_true rfl) ?_
  intro p e s m below meth c ls C hK hW hl
  exact k_X12_shareRow_0 C hK hW hl hq
theorem k_X12_wrong_b67 {Q : Int32 → Prop} {X35 : Int32 × Int32 → Prop} {X67 : Int32 × Int32 → Prop} {x1 : Int32} {x2 : Int32} {x3 : Int32} {h : hp} (C : kC p s m args meth c cX12_wrong 6 (some .int) RX12 wUX12_wrong) (hK : kK G s) (hX35 : ∀ (x2 : Int32) (x3 : Int32) (H : Heap) (locs : List Loc) (ls : Array Slot), kW SM G h (aS SM G) s H locs → lv_has ls 6 [(0, .ref (G.2.2 0)), (1, .int x1), (2, .int x2), (3, .int x3)] → X35 (x2, x3) → W p l e rmX12_wrong s m args below meth c H locs 0 0 (MQ below (va_Qi (fun r9 h9 => h9 = h ∧ Q r9) (kB SM G) (aS SM G)) args s 0 0 (aS SM G)) (F0 m 35 ls [])) (hX67 : ∀ (x4 : Int32) (x5 : Int32) (H : Heap) (locs : List Loc) (ls : Array Slot), kW SM G h (aS SM G) s H locs → lv_has ls 6 [(0, .ref (G.2.2 0)), (1, .int x1), (2, .int x2), (3, .int x3), (4, .int x4), (5, .int x5)] → X67 (x4, x5) → W p l e rmX12_wrong s m args below meth c H locs 0 0 (MQ below (va_Qi (fun r9 h9 => h9 = h ∧ Q r9) (kB SM G) (aS SM G)) args s 0 0 (aS SM G)) (F0 m 67 ls [])) {x4 : Int32} {x5 : Int32} {H : Heap} {locs : List Loc} {ls : Array Slot} (hW : kW SM G h (aS SM G) s H locs) (hl : lv_has ls 6 [(0, .ref (G.2.2 0)), (1, .int x1), (2, .int x2), (3, .int x3), (4, .int x4), (5, .int x5)]) (hq : w_X12_wrong_b67 Q X35 x1 x2 x3 h X67 x4 x5) : W p l e rmX12_wrong s m args below meth c H locs 0 0 (MQ below (va_Qi (fun r9 h9 => h9 = h ∧ Q r9) (kB SM G) (aS SM G)) args s 0 0 (aS SM G)) (F0 m 67 ls []) := by
  have hx := C.1
  have hb := C.2.1
  unfold w_X12_wrong_b67 at hq
  refine lv_iload hx hb dX12_wrong_67 (lv_at hl 5 rfl) ?_
  refine lv_aload_n hx hb dX12_wrong_69 rfl (lv_at hl 0 rfl) ?_
  refine gt12_26 C hK hW (rfl : shM 0 = 12) (List.mem_cons_of_mem _ mw276) (fun _ h9 => List.mem_cons_of_mem _ (inU_wsX120 _ h9)) dX12_wrong_70 ?_
  refine lv_aload_n hx hb dX12_wrong_73 rfl (lv_at hl 0 rfl) ?_
  refine gt12_18 C hK hW (rfl : shM 0 = 12) (List.mem_cons_of_mem _ mw610) (fun _ h9 => List.mem_cons_of_mem _ (inU_wsX120 _ h9)) dX12_wrong_74 ?_
  refine k_iald C hK hW (shM_lt (rfl : shM 13 = 14) (by decide)) (ceM_14 (rfl : shM 13 = 14) (rfl : lnM 13 = 2)) hq.1 dX12_wrong_77 ?_
  have hq := hq.2
  refine lv_icmp_ge (tgt := 138) hx hb dX12_wrong_78 (by decide) (fun c10 => ?_) (fun c10 => ?_)
  · have hq := hq.1 c10
    refine lv_iload_n hx hb dX12_wrong_138 rfl (lv_at hl 2 rfl) ?_
    refine lv_if_lt (tgt := 154) hx hb dX12_wrong_139 (by decide) (fun c11 => ?_) (fun c11 => ?_)
    · have hq := hq.1 c11
      refine lv_iload hx hb dX12_wrong_154 (lv_at hl 4 rfl) ?_
      refine lv_istore_n (lv' := [(2, .int x4), (0, .ref (G.2.2 0)), (1, .int x1), (3, .int x3), (4, .int x4), (5, .int x5)]) hx hb dX12_wrong_156 rfl hl (by decide) rfl (fun ls hl => ?_)
      obtain ⟨x3_12, ex3_12⟩ : ∃ y : Int32, y = x3 + 1 := ⟨_, rfl⟩
      have hq := hq x3_12 ex3_12
      refine lv_iinc (v := x3_12) (lv' := [(3, .int x3_12), (2, .int x4), (0, .ref (G.2.2 0)), (1, .int x1), (4, .int x4), (5, .int x5)]) hx hb dX12_wrong_157 hl (k := 3) rfl (by rw [ex3_12]; rfl) (by decide) rfl (fun ls hl => ?_)
      refine lv_goto (tgt := 35) hx hb dX12_wrong_160 (by decide) ?_
      exact hX35 _ _ _ _ _ hW (lv_sub hl [2, 3, 1, 0] rfl) hq
    · have hq := hq.2 c11
      refine lv_iload hx hb dX12_wrong_142 (lv_at hl 4 rfl) ?_
      refine k_ci hW (va_runS (As := [.int x4]) (rest := []) (k_fix C) (c_X12_bits l G h x4 _ hq) (va_cwS 1 C.2.2.2.2.2.1 (gU_S mw1270 mw1271 mw5 mw1272) rfl rfl rfl (by decide +kernel) ⟨Nat.le_of_ble_eq_true rfl, Nat.le_of_ble_eq_true rfl⟩) (k_preS hK hW) rfl rfl hl.1 rfl (lv_room (Nat.le_of_ble_eq_true rfl)) dX12_wrong_144 ⟨Nat.le_refl 0, Nat.le_refl 0⟩) (fun r13 h14 H locs hq hW => ?_)
      rw [hq.1] at hW
      have hq := hq.2
      refine lv_iload_n hx hb dX12_wrong_147 rfl (lv_at hl 2 rfl) ?_
      refine k_ci hW (va_runS (As := [.int x2]) (rest := [.int r13]) (k_fix C) (c_X12_bits l G h x2 _ hq) (va_cwS 1 C.2.2.2.2.2.1 (gU_S mw1270 mw1271 mw5 mw1272) rfl rfl rfl (by decide +kernel) ⟨Nat.le_of_ble_eq_true rfl, Nat.le_of_ble_eq_true rfl⟩) (k_preS hK hW) rfl rfl hl.1 rfl (lv_room (Nat.le_of_ble_eq_true rfl)) dX12_wrong_148 ⟨Nat.le_refl 0, Nat.le_refl 0⟩) (fun r15 h16 H locs hq hW => ?_)
      rw [hq.1] at hW
      have hq := hq.2
      refine lv_icmp_ge (tgt := 157) hx hb dX12_wrong_151 (by decide) (fun c17 => ?_) (fun c17 => ?_)
      · have hq := hq.1 c17
        obtain ⟨x3_18, ex3_18⟩ : ∃ y : Int32, y = x3 + 1 := ⟨_, rfl⟩
        have hq := hq x3_18 ex3_18
        refine lv_iinc (v := x3_18) (lv' := [(3, .int x3_18), (0, .ref (G.2.2 0)), (1, .int x1), (2, .int x2), (4, .int x4), (5, .int x5)]) hx hb dX12_wrong_157 hl (k := 3) rfl (by rw [ex3_18]; rfl) (by decide) rfl (fun ls hl => ?_)
        refine lv_goto (tgt := 35) hx hb dX12_wrong_160 (by decide) ?_
        exact hX35 _ _ _ _ _ hW (lv_sub hl [1, 2, 3, 0] rfl) hq
      · have hq := hq.2 c17
        refine lv_iload hx hb dX12_wrong_154 (lv_at hl 4 rfl) ?_
        refine lv_istore_n (lv' := [(2, .int x4), (0, .ref (G.2.2 0)), (1, .int x1), (3, .int x3), (4, .int x4), (5, .int x5)]) hx hb dX12_wrong_156 rfl hl (by decide) rfl (fun ls hl => ?_)
        obtain ⟨x3_19, ex3_19⟩ : ∃ y : Int32, y = x3 + 1 := ⟨_, rfl⟩
        have hq := hq x3_19 ex3_19
        refine lv_iinc (v := x3_19) (lv' := [(3, .int x3_19), (2, .int x4), (0, .ref (G.2.2 0)), (1, .int x1), (4, .int x4), (5, .int x5)]) hx hb dX12_wrong_157 hl (k := 3) rfl (by rw [ex3_19]; rfl) (by decide) rfl (fun ls hl => ?_)
        refine lv_goto (tgt := 35) hx hb dX12_wrong_160 (by decide) ?_
        exact hX35 _ _ _ _ _ hW (lv_sub hl [2, 3, 1, 0] rfl) hq
  · have hq := hq.2 c10
    refine lv_aload_n hx hb dX12_wrong_81 rfl (lv_at hl 0 rfl) ?_
    refine lv_iload_n hx hb dX12_wrong_82 rfl (lv_at hl 3 rfl) ?_
    refine lv_aload_n hx hb dX12_wrong_83 rfl (lv_at hl 0 rfl) ?_
    refine gt12_27 C hK hW (rfl : shM 0 = 12) (List.mem_cons_of_mem _ mw277) (fun _ h9 => List.mem_cons_of_mem _ (inU_wsX120 _ h9)) dX12_wrong_84 ?_
    refine lv_bipush (v := 8) hx hb dX12_wrong_87 (by decide) ?_
    refine lv_aload_n hx hb dX12_wrong_89 rfl (lv_at hl 0 rfl) ?_
    refine gt12_18 C hK hW (rfl : shM 0 = 12) (List.mem_cons_of_mem _ mw610) (fun _ h9 => List.mem_cons_of_mem _ (inU_wsX120 _ h9)) dX12_wrong_90 ?_
    refine lv_imul hx hb dX12_wrong_93 ?_
    refine lv_iload hx hb dX12_wrong_94 (lv_at hl 5 rfl) ?_
    refine lv_iadd hx hb dX12_wrong_96 ?_
    refine k_iald C hK hW (shM_lt (rfl : shM 14 = 14) (by decide)) (ceM_14 (rfl : shM 14 = 14) (rfl : lnM 14 = 16)) hq.1 dX12_wrong_97 ?_
    have hq := hq.2
    refine k_ci hW (va_runV (As := [.int x3, .int (gI h 14 (ix ((8 * (gI h 0 18)) + x5)))]) (rest := []) (k_fix C) (c_X12_rowComes l G h x3 (gI h 14 (ix ((8 * (gI h 0 18)) + x5))) _ hq) (cwV 2 C.2.2.2.2.2.1 (gU_V mw1273 mw1274 mw1275 mw5 mw1276) rfl rfl rfl (by decide +kernel) ⟨Nat.le_of_ble_eq_true rfl, Nat.le_of_ble_eq_true rfl⟩) (k_preV hK hW (shM_lt (rfl : shM 0 = 12) (by decide)) (ceM_12 (rfl : shM 0 = 12)) (q := (RX12, TX12, 73)) rfl) rfl rfl hl.1 rfl (lv_room (Nat.le_of_ble_eq_true rfl)) dX12_wrong_98 ⟨Nat.le_refl 0, Nat.le_refl 0⟩) (fun r20 h21 H locs hq hW => ?_)
    rw [hq.1] at hW
    have hq := hq.2
    refine lv_aload_n hx hb dX12_wrong_101 rfl (lv_at hl 0 rfl) ?_
    refine lv_aload_n hx hb dX12_wrong_102 rfl (lv_at hl 0 rfl) ?_
    refine gt12_28 C hK hW (rfl : shM 0 = 12) (List.mem_cons_of_mem _ mw278) (fun _ h9 => List.mem_cons_of_mem _ (inU_wsX120 _ h9)) dX12_wrong_103 ?_
    refine lv_bipush (v := 8) hx hb dX12_wrong_106 (by decide) ?_
    refine lv_aload_n hx hb dX12_wrong_108 rfl (lv_at hl 0 rfl) ?_
    refine gt12_18 C hK hW (rfl : shM 0 = 12) (List.mem_cons_of_mem _ mw610) (fun _ h9 => List.mem_cons_of_mem _ (inU_wsX120 _ h9)) dX12_wrong_109 ?_
    refine lv_imul hx hb dX12_wrong_112 ?_
    refine lv_iload hx hb dX12_wrong_113 (lv_at hl 5 rfl) ?_
    refine lv_iadd hx hb dX12_wrong_115 ?_
    refine k_iald C hK hW (shM_lt (rfl : shM 15 = 14) (by decide)) (ceM_14 (rfl : shM 15 = 14) (rfl : lnM 15 = 16)) hq.1 dX12_wrong_116 ?_
    have hq := hq.2
    refine k_ci hW (va_runV (As := [.int (gI h 15 (ix ((8 * (gI h 0 18)) + x5)))]) (rest := [.int r20]) (k_fix C) (c_X12_restOf l G h (gI h 15 (ix ((8 * (gI h 0 18)) + x5))) _ hq) (cwV 1 C.2.2.2.2.2.1 (gU_V mw1277 mw1278 mw1279 mw5 mw1280) rfl rfl rfl (by decide +kernel) ⟨Nat.le_of_ble_eq_true rfl, Nat.le_of_ble_eq_true rfl⟩) (k_preV hK hW (shM_lt (rfl : shM 0 = 12) (by decide)) (ceM_12 (rfl : shM 0 = 12)) (q := (RX12, TX12, 73)) rfl) rfl rfl hl.1 rfl (lv_room (Nat.le_of_ble_eq_true rfl)) dX12_wrong_117 ⟨Nat.le_refl 0, Nat.le_refl 0⟩) (fun r22 h23 H locs hq hW => ?_)
    rw [hq.1] at hW
    have hq := hq.2
    refine lv_icmp_eq (tgt := 132) hx hb dX12_wrong_120 (by decide) (fun c24 => ?_) (fun c24 => ?_)
    · have hq := hq.1 c24
      obtain ⟨x5_25, ex5_25⟩ : ∃ y : Int32, y = x5 + 1 := ⟨_, rfl⟩
      have hq := hq x5_25 ex5_25
      refine lv_iinc (v := x5_25) (lv' := [(5, .int x5_25), (0, .ref (G.2.2 0)), (1, .int x1), (2, .int x2), (3, .int x3), (4, .int x4)]) hx hb dX12_wrong_132 hl (k := 5) rfl (by rw [ex5_25]; rfl) (by decide) rfl (fun ls hl => ?_)
      refine lv_goto (tgt := 67) hx hb dX12_wrong_135 (by decide) ?_
      exact hX67 _ _ _ _ _ hW (lv_sub hl [1, 2, 3, 4, 5, 0] rfl) hq
    · have hq := hq.2 c24
      refine lv_iload hx hb dX12_wrong_123 (lv_at hl 4 rfl) ?_
      refine lv_iconst (v := 1) hx hb dX12_wrong_125 (by decide) ?_
      refine lv_iload hx hb dX12_wrong_126 (lv_at hl 5 rfl) ?_
      refine k_ishl hx hb dX12_wrong_128 ?_
      refine lv_ior hx hb dX12_wrong_129 ?_
      refine lv_topi (fun x4_26 ex4_26 => ?_)
      have hq := hq x4_26 ex4_26
      refine lv_istore (lv' := [(4, .int x4_26), (0, .ref (G.2.2 0)), (1, .int x1), (2, .int x2), (3, .int x3), (5, .int x5)]) hx hb dX12_wrong_130 hl (by decide) rfl (fun ls hl => ?_)
      obtain ⟨x5_27, ex5_27⟩ : ∃ y : Int32, y = x5 + 1 := ⟨_, rfl⟩
      have hq := hq x5_27 ex5_27
      refine lv_iinc (v := x5_27) (lv' := [(5, .int x5_27), (4, .int x4_26), (0, .ref (G.2.2 0)), (1, .int x1), (2, .int x2), (3, .int x3)]) hx hb dX12_wrong_132 hl (k := 5) rfl (by rw [ex5_27]; rfl) (by decide) rfl (fun ls hl => ?_)
      refine lv_goto (tgt := 67) hx hb dX12_wrong_135 (by decide) ?_
      exact hX67 _ _ _ _ _ hW (lv_sub hl [2, 3, 4, 5, 1, 0] rfl) hq
theorem k_X12_wrong_67 {Q : Int32 → Prop} {X35 : Int32 × Int32 → Prop} {x1 : Int32} {x2 : Int32} {x3 : Int32} {h : hp} (C : kC p s m args meth c cX12_wrong 6 (some .int) RX12 wUX12_wrong) (hK : kK G s) (hX35 : ∀ (x2 : Int32) (x3 : Int32) (H : Heap) (locs : List Loc) (ls : Array Slot), kW SM G h (aS SM G) s H locs → lv_has ls 6 [(0, .ref (G.2.2 0)), (1, .int x1), (2, .int x2), (3, .int x3)] → X35 (x2, x3) → W p l e rmX12_wrong s m args below meth c H locs 0 0 (MQ below (va_Qi (fun r9 h9 => h9 = h ∧ Q r9) (kB SM G) (aS SM G)) args s 0 0 (aS SM G)) (F0 m 35 ls [])) {x4 : Int32} {x5 : Int32} {H : Heap} {locs : List Loc} {ls : Array Slot} (hW : kW SM G h (aS SM G) s H locs) (hl : lv_has ls 6 [(0, .ref (G.2.2 0)), (1, .int x1), (2, .int x2), (3, .int x3), (4, .int x4), (5, .int x5)]) (hq : w_X12_wrong_67 Q X35 x1 x2 x3 h x4 x5) : W p l e rmX12_wrong s m args below meth c H locs 0 0 (MQ below (va_Qi (fun r9 h9 => h9 = h ∧ Q r9) (kB SM G) (aS SM G)) args s 0 0 (aS SM G)) (F0 m 67 ls []) := by
  have key := hq (fun (q : Int32 × Int32) => ∀ (H : Heap) (locs : List Loc) (ls : Array Slot), kW SM G h (aS SM G) s H locs → lv_has ls 6 [(0, .ref (G.2.2 0)), (1, .int x1), (2, .int x2), (3, .int x3), (4, .int q.1), (5, .int q.2)] → W p l e rmX12_wrong s m args below meth c H locs 0 0 (MQ below (va_Qi (fun r9 h9 => h9 = h ∧ Q r9) (kB SM G) (aS SM G)) args s 0 0 (aS SM G)) (F0 m 67 ls []))
    (fun q hq H locs ls hW hl => k_X12_wrong_b67 C hK hX35 (fun x4 x5 H locs ls hW hl hI => hI H locs ls hW hl) hW hl hq)
  exact key _ _ _ hW hl
theorem k_X12_wrong_b35 {Q : Int32 → Prop} {X35 : Int32 × Int32 → Prop} {x1 : Int32} {h : hp} (C : kC p s m args meth c cX12_wrong 6 (some .int) RX12 wUX12_wrong) (hK : kK G s) (hX35 : ∀ (x2 : Int32) (x3 : Int32) (H : Heap) (locs : List Loc) (ls : Array Slot), kW SM G h (aS SM G) s H locs → lv_has ls 6 [(0, .ref (G.2.2 0)), (1, .int x1), (2, .int x2), (3, .int x3)] → X35 (x2, x3) → W p l e rmX12_wrong s m args below meth c H locs 0 0 (MQ below (va_Qi (fun r9 h9 => h9 = h ∧ Q r9) (kB SM G) (aS SM G)) args s 0 0 (aS SM G)) (F0 m 35 ls [])) {x2 : Int32} {x3 : Int32} {H : Heap} {locs : List Loc} {ls : Array Slot} (hW : kW SM G h (aS SM G) s H locs) (hl : lv_has ls 6 [(0, .ref (G.2.2 0)), (1, .int x1), (2, .int x2), (3, .int x3)]) (hq : w_X12_wrong_b35 Q x1 h X35 x2 x3) : W p l e rmX12_wrong s m args below meth c H locs 0 0 (MQ below (va_Qi (fun r9 h9 => h9 = h ∧ Q r9) (kB SM G) (aS SM G)) args s 0 0 (aS SM G)) (F0 m 35 ls []) := by
  have hx := C.1
  have hb := C.2.1
  unfold w_X12_wrong_b35 at hq
  refine lv_iload_n hx hb dX12_wrong_35 rfl (lv_at hl 3 rfl) ?_
  refine lv_iconst (v := 1) hx hb dX12_wrong_36 (by decide) ?_
  refine lv_aload_n hx hb dX12_wrong_37 rfl (lv_at hl 0 rfl) ?_
  refine gt12_26 C hK hW (rfl : shM 0 = 12) (List.mem_cons_of_mem _ mw276) (fun _ h9 => List.mem_cons_of_mem _ (inU_wsX120 _ h9)) dX12_wrong_38 ?_
  refine lv_aload_n hx hb dX12_wrong_41 rfl (lv_at hl 0 rfl) ?_
  refine gt12_18 C hK hW (rfl : shM 0 = 12) (List.mem_cons_of_mem _ mw610) (fun _ h9 => List.mem_cons_of_mem _ (inU_wsX120 _ h9)) dX12_wrong_42 ?_
  refine k_iald C hK hW (shM_lt (rfl : shM 13 = 14) (by decide)) (ceM_14 (rfl : shM 13 = 14) (rfl : lnM 13 = 2)) hq.1 dX12_wrong_45 ?_
  have hq := hq.2
  refine k_ishl hx hb dX12_wrong_46 ?_
  refine lv_icmp_ge (tgt := 163) hx hb dX12_wrong_47 (by decide) (fun c5 => ?_) (fun c5 => ?_)
  · have hq := hq.1 c5
    refine lv_iload_n hx hb dX12_wrong_163 rfl (lv_at hl 2 rfl) ?_
    exact k_iret rfl C hW dX12_wrong_164 ⟨rfl, hq⟩
  · have hq := hq.2 c5
    refine lv_iload_n hx hb dX12_wrong_50 rfl (lv_at hl 3 rfl) ?_
    refine k_ci hW (va_runS (As := [.int x3]) (rest := []) (k_fix C) (c_X12_bits l G h x3 _ hq) (va_cwS 1 C.2.2.2.2.2.1 (gU_S mw1270 mw1271 mw5 mw1272) rfl rfl rfl (by decide +kernel) ⟨Nat.le_of_ble_eq_true rfl, Nat.le_of_ble_eq_true rfl⟩) (k_preS hK hW) rfl rfl hl.1 rfl (lv_room (Nat.le_of_ble_eq_true rfl)) dX12_wrong_51 ⟨Nat.le_refl 0, Nat.le_refl 0⟩) (fun r6 h7 H locs hq hW => ?_)
    rw [hq.1] at hW
    have hq := hq.2
    refine lv_iload_n hx hb dX12_wrong_54 rfl (lv_at hl 1 rfl) ?_
    refine lv_icmp_eq (tgt := 61) hx hb dX12_wrong_55 (by decide) (fun c8 => ?_) (fun c8 => ?_)
    · have hq := hq.1 c8
      refine lv_iconst (v := 0) hx hb dX12_wrong_61 (by decide) ?_
      refine lv_istore (lv' := [(4, .int 0), (0, .ref (G.2.2 0)), (1, .int x1), (2, .int x2), (3, .int x3)]) hx hb dX12_wrong_62 hl (by decide) rfl (fun ls hl => ?_)
      refine lv_iconst (v := 0) hx hb dX12_wrong_64 (by decide) ?_
      refine lv_istore (lv' := [(5, .int 0), (4, .int 0), (0, .ref (G.2.2 0)), (1, .int x1), (2, .int x2), (3, .int x3)]) hx hb dX12_wrong_65 hl (by decide) rfl (fun ls hl => ?_)
      exact k_X12_wrong_67 C hK hX35 hW (lv_sub hl [2, 3, 4, 5, 1, 0] rfl) hq
    · have hq := hq.2 c8
      refine lv_goto (tgt := 157) hx hb dX12_wrong_58 (by decide) ?_
      obtain ⟨x3_9, ex3_9⟩ : ∃ y : Int32, y = x3 + 1 := ⟨_, rfl⟩
      have hq := hq x3_9 ex3_9
      refine lv_iinc (v := x3_9) (lv' := [(3, .int x3_9), (0, .ref (G.2.2 0)), (1, .int x1), (2, .int x2)]) hx hb dX12_wrong_157 hl (k := 3) rfl (by rw [ex3_9]; rfl) (by decide) rfl (fun ls hl => ?_)
      refine lv_goto (tgt := 35) hx hb dX12_wrong_160 (by decide) ?_
      exact hX35 _ _ _ _ _ hW (lv_sub hl [1, 2, 3, 0] rfl) hq
theorem k_X12_wrong_35 {Q : Int32 → Prop} {x1 : Int32} {h : hp} (C : kC p s m args meth c cX12_wrong 6 (some .int) RX12 wUX12_wrong) (hK : kK G s) {x2 : Int32} {x3 : Int32} {H : Heap} {locs : List Loc} {ls : Array Slot} (hW : kW SM G h (aS SM G) s H locs) (hl : lv_has ls 6 [(0, .ref (G.2.2 0)), (1, .int x1), (2, .int x2), (3, .int x3)]) (hq : w_X12_wrong_35 Q x1 h x2 x3) : W p l e rmX12_wrong s m args below meth c H locs 0 0 (MQ below (va_Qi (fun r9 h9 => h9 = h ∧ Q r9) (kB SM G) (aS SM G)) args s 0 0 (aS SM G)) (F0 m 35 ls []) := by
  have key := hq (fun (q : Int32 × Int32) => ∀ (H : Heap) (locs : List Loc) (ls : Array Slot), kW SM G h (aS SM G) s H locs → lv_has ls 6 [(0, .ref (G.2.2 0)), (1, .int x1), (2, .int q.1), (3, .int q.2)] → W p l e rmX12_wrong s m args below meth c H locs 0 0 (MQ below (va_Qi (fun r9 h9 => h9 = h ∧ Q r9) (kB SM G) (aS SM G)) args s 0 0 (aS SM G)) (F0 m 35 ls []))
    (fun q hq H locs ls hW hl => k_X12_wrong_b35 C hK (fun x2 x3 H locs ls hW hl hI => hI H locs ls hW hl) hW hl hq)
  exact key _ _ _ hW hl
theorem k_X12_wrong_0 {Q : Int32 → Prop} {x1 : Int32} {h : hp} (C : kC p s m args meth c cX12_wrong 6 (some .int) RX12 wUX12_wrong) (hK : kK G s) {H : Heap} {locs : List Loc} {ls : Array Slot} (hW : kW SM G h (aS SM G) s H locs) (hl : lv_has ls 6 [(0, .ref (G.2.2 0)), (1, .int x1)]) (hq : w_X12_wrong_0 Q x1 h) : W p l e rmX12_wrong s m args below meth c H locs 0 0 (MQ below (va_Qi (fun r9 h9 => h9 = h ∧ Q r9) (kB SM G) (aS SM G)) args s 0 0 (aS SM G)) (F0 m 0 ls []) := by
  have hx := C.1
  have hb := C.2.1
  unfold w_X12_wrong_0 at hq
  refine lv_iload_n hx hb dX12_wrong_0 rfl (lv_at hl 1 rfl) ?_
  refine lv_i2l (v := x1.toInt64) hx hb dX12_wrong_1 rfl ?_
  refine lv_lconst (v := 1) hx hb dX12_wrong_2 (by decide) ?_
  refine lv_ldc2 (v := 6) hx hb C.2.2.2.2.1 (C.2.2.2.2.2.1 _ (List.mem_cons_of_mem _ mw845)) dX12_wrong_3 ?_
  refine k_ci hW (va_runS (As := [.long (x1.toInt64), .long 1, .long 6]) (rest := []) (k_fix C) (c_X12_in l G h (x1.toInt64) 1 6 _ hq) (va_cwS 3 C.2.2.2.2.2.1 (gU_S mw762 mw763 mw5 mw764) rfl rfl rfl (by decide +kernel) ⟨Nat.le_of_ble_eq_true rfl, Nat.le_of_ble_eq_true rfl⟩) (k_preS hK hW) rfl rfl hl.1 rfl (lv_room (Nat.le_of_ble_eq_true rfl)) dX12_wrong_6 ⟨Nat.le_refl 0, Nat.le_refl 0⟩) (fun r1 h2 H locs hq hW => ?_)
  rw [hq.1] at hW
  have hq := hq.2
  refine lv_if_ne (tgt := 14) hx hb dX12_wrong_9 (by decide) (fun c3 => ?_) (fun c3 => ?_)
  · have hq := hq.1 c3
    refine lv_aload_n hx hb dX12_wrong_14 rfl (lv_at hl 0 rfl) ?_
    refine gt12_26 C hK hW (rfl : shM 0 = 12) (List.mem_cons_of_mem _ mw276) (fun _ h9 => List.mem_cons_of_mem _ (inU_wsX120 _ h9)) dX12_wrong_15 ?_
    refine lv_aload_n hx hb dX12_wrong_18 rfl (lv_at hl 0 rfl) ?_
    refine gt12_18 C hK hW (rfl : shM 0 = 12) (List.mem_cons_of_mem _ mw610) (fun _ h9 => List.mem_cons_of_mem _ (inU_wsX120 _ h9)) dX12_wrong_19 ?_
    refine k_iald C hK hW (shM_lt (rfl : shM 13 = 14) (by decide)) (ceM_14 (rfl : shM 13 = 14) (rfl : lnM 13 = 2)) hq.1 dX12_wrong_22 ?_
    have hq := hq.2
    refine lv_iload_n hx hb dX12_wrong_23 rfl (lv_at hl 1 rfl) ?_
    refine lv_icmp_ge (tgt := 30) hx hb dX12_wrong_24 (by decide) (fun c4 => ?_) (fun c4 => ?_)
    · have hq := hq.1 c4
      refine lv_bipush (v := (-2)) hx hb dX12_wrong_30 (by decide) ?_
      refine lv_istore_n (lv' := [(2, .int (-2)), (0, .ref (G.2.2 0)), (1, .int x1)]) hx hb dX12_wrong_32 rfl hl (by decide) rfl (fun ls hl => ?_)
      refine lv_iconst (v := 1) hx hb dX12_wrong_33 (by decide) ?_
      refine lv_istore_n (lv' := [(3, .int 1), (2, .int (-2)), (0, .ref (G.2.2 0)), (1, .int x1)]) hx hb dX12_wrong_34 rfl hl (by decide) rfl (fun ls hl => ?_)
      exact k_X12_wrong_35 C hK hW (lv_sub hl [2, 3, 1, 0] rfl) hq
    · have hq := hq.2 c4
      refine lv_bipush (v := (-2)) hx hb dX12_wrong_27 (by decide) ?_
      exact k_iret rfl C hW dX12_wrong_29 ⟨rfl, hq⟩
  · have hq := hq.2 c3
    refine lv_iconst (v := (-1)) hx hb dX12_wrong_12 (by decide) ?_
    exact k_iret rfl C hW dX12_wrong_13 ⟨rfl, hq⟩
theorem c_X12_wrong (l : Launch) (G : wG) (h : hp) (x1 : Int32) (Q : Int32 → Prop) (hq : w_X12_wrong h x1 Q) : ctI l SM G yX12_wrong wUX12_wrong rmX12_wrong h [.ref (G.2.2 0), .int x1] (fun r9 h9 => h9 = h ∧ Q r9) := by
  refine k_start (cc := cX12_wrong) (maxL := 6) (rt := (some .int)) (own := RX12) (by decide +kernel) rfl rfl (Nat.le_of_ble_eq_true rfl) ?_
  intro p e s m below meth c ls C hK hW hl
  exact k_X12_wrong_0 C hK hW hl hq
theorem k_X12_paired_0 {Q : Int64 → Prop} {x0 : Int64} {x2 : Int64} {h : hp} (C : kC p s m args meth c cX12_paired 6 (some .long) RX12 wUX12_paired) (hK : kK G s) {H : Heap} {locs : List Loc} {ls : Array Slot} (hW : kW SM G h (aS SM G) s H locs) (hl : lv_has ls 6 [(0, .long x0), (2, .long x2)]) (hq : w_X12_paired_0 Q x0 x2) : W p l e rmX12_paired s m args below meth c H locs 0 0 (MQ below (va_Ql (fun r9 h9 => h9 = h ∧ Q r9) (kB SM G) (aS SM G)) args s 0 0 (aS SM G)) (F0 m 0 ls []) := by
  have hx := C.1
  have hb := C.2.1
  unfold w_X12_paired_0 at hq
  refine lv_lload_n hx hb dX12_paired_0 rfl (lv_at hl 0 rfl) ?_
  refine lv_lload_n hx hb dX12_paired_1 rfl (lv_at hl 1 rfl) ?_
  refine lv_ladd hx hb dX12_paired_2 ?_
  refine lv_topl (fun x4_1 ex4_1 => ?_)
  have hq := hq x4_1 ex4_1
  refine lv_lstore (lv' := [(4, .long x4_1), (0, .long x0), (2, .long x2)]) hx hb dX12_paired_3 hl (by decide) rfl (fun ls hl => ?_)
  refine lv_lload hx hb dX12_paired_5 (lv_at hl 0 rfl) ?_
  refine lv_ldc2 (v := 2) hx hb C.2.2.2.2.1 (C.2.2.2.2.2.1 _ (List.mem_cons_of_mem _ mw843)) dX12_paired_7 ?_
  refine k_lrem hx hb dX12_paired_10 (by decide) ?_
  refine lv_lconst (v := 0) hx hb dX12_paired_11 (by decide) ?_
  refine W.lcmp hx hb dX12_paired_12 ?_
  refine lv_if_ne (tgt := 30) hx hb dX12_paired_13 (by decide) (fun c2 => ?_) (fun c2 => ?_)
  · have hq := hq.1 (fun z => c2 ((lg_cmp_eq _ _).mpr z))
    refine lv_lload hx hb dX12_paired_30 (lv_at hl 0 rfl) ?_
    refine lv_lconst (v := 1) hx hb dX12_paired_32 (by decide) ?_
    refine lv_ladd hx hb dX12_paired_33 ?_
    refine lv_ldc2 (v := 2) hx hb C.2.2.2.2.1 (C.2.2.2.2.2.1 _ (List.mem_cons_of_mem _ mw843)) dX12_paired_34 ?_
    refine lv_ldiv hx hb dX12_paired_37 (by decide) ?_
    refine lv_lload hx hb dX12_paired_38 (lv_at hl 0 rfl) ?_
    refine lv_lmul hx hb dX12_paired_40 ?_
    refine lv_lload_n hx hb dX12_paired_41 rfl (lv_at hl 2 rfl) ?_
    refine lv_ladd hx hb dX12_paired_42 ?_
    exact k_lret rfl C hW dX12_paired_43 ⟨rfl, hq⟩
  · have hq := hq.2 ((lg_cmp_eq _ _).mp c2)
    refine lv_lload hx hb dX12_paired_16 (lv_at hl 0 rfl) ?_
    refine lv_ldc2 (v := 2) hx hb C.2.2.2.2.1 (C.2.2.2.2.2.1 _ (List.mem_cons_of_mem _ mw843)) dX12_paired_18 ?_
    refine lv_ldiv hx hb dX12_paired_21 (by decide) ?_
    refine lv_lload hx hb dX12_paired_22 (lv_at hl 0 rfl) ?_
    refine lv_lconst (v := 1) hx hb dX12_paired_24 (by decide) ?_
    refine lv_ladd hx hb dX12_paired_25 ?_
    refine lv_lmul hx hb dX12_paired_26 ?_
    refine lv_goto (tgt := 41) hx hb dX12_paired_27 (by decide) ?_
    refine lv_lload_n hx hb dX12_paired_41 rfl (lv_at hl 2 rfl) ?_
    refine lv_ladd hx hb dX12_paired_42 ?_
    exact k_lret rfl C hW dX12_paired_43 ⟨rfl, hq⟩
theorem c_X12_paired (l : Launch) (G : wG) (h : hp) (x0 : Int64) (x2 : Int64) (Q : Int64 → Prop) (hq : w_X12_paired x0 x2 Q) : ctL l SM G yX12_paired wUX12_paired rmX12_paired h [.long x0, .long x2] (fun r9 h9 => h9 = h ∧ Q r9) := by
  refine k_start (cc := cX12_paired) (maxL := 6) (rt := (some .long)) (own := RX12) (by decide +kernel) rfl rfl (Nat.le_of_ble_eq_true rfl) ?_
  intro p e s m below meth c ls C hK hW hl
  exact k_X12_paired_0 C hK hW hl hq
theorem k_X12_pair_0 {Q : Int64 → Prop} {x1 : Int32} {x2 : Int32} {h : hp} (C : kC p s m args meth c cX12_pair 3 (some .long) RX12 wUX12_pair) (hK : kK G s) {H : Heap} {locs : List Loc} {ls : Array Slot} (hW : kW SM G h (aS SM G) s H locs) (hl : lv_has ls 3 [(0, .ref (G.2.2 0)), (1, .int x1), (2, .int x2)]) (hq : w_X12_pair_0 Q x1 x2) : W p l e rmX12_pair s m args below meth c H locs 0 0 (MQ below (va_Ql (fun r9 h9 => h9 = h ∧ Q r9) (kB SM G) (aS SM G)) args s 0 0 (aS SM G)) (F0 m 0 ls []) := by
  have hx := C.1
  have hb := C.2.1
  unfold w_X12_pair_0 at hq
  refine lv_iload_n hx hb dX12_pair_0 rfl (lv_at hl 1 rfl) ?_
  refine lv_i2l (v := x1.toInt64) hx hb dX12_pair_1 rfl ?_
  refine lv_lconst (v := 0) hx hb dX12_pair_2 (by decide) ?_
  refine lv_ldc2 (v := 999999999) hx hb C.2.2.2.2.1 (C.2.2.2.2.2.1 _ (List.mem_cons_of_mem _ mw1498)) dX12_pair_3 ?_
  refine k_ci hW (va_runS (As := [.long (x1.toInt64), .long 0, .long 999999999]) (rest := []) (k_fix C) (c_X12_in l G h (x1.toInt64) 0 999999999 _ hq) (va_cwS 3 C.2.2.2.2.2.1 (gU_S mw762 mw763 mw5 mw764) rfl rfl rfl (by decide +kernel) ⟨Nat.le_of_ble_eq_true rfl, Nat.le_of_ble_eq_true rfl⟩) (k_preS hK hW) rfl rfl hl.1 rfl (lv_room (Nat.le_of_ble_eq_true rfl)) dX12_pair_6 ⟨Nat.le_refl 0, Nat.le_refl 0⟩) (fun r1 h2 H locs hq hW => ?_)
  rw [hq.1] at hW
  have hq := hq.2
  refine lv_if_eq (tgt := 34) hx hb dX12_pair_9 (by decide) (fun c3 => ?_) (fun c3 => ?_)
  · have hq := hq.1 c3
    refine lv_ldc2 (v := (-1)) hx hb C.2.2.2.2.1 (C.2.2.2.2.2.1 _ (List.mem_cons_of_mem _ mw820)) dX12_pair_34 ?_
    exact k_lret rfl C hW dX12_pair_37 ⟨rfl, hq⟩
  · have hq := hq.2 c3
    refine lv_iload_n hx hb dX12_pair_12 rfl (lv_at hl 2 rfl) ?_
    refine lv_i2l (v := x2.toInt64) hx hb dX12_pair_13 rfl ?_
    refine lv_lconst (v := 0) hx hb dX12_pair_14 (by decide) ?_
    refine lv_ldc2 (v := 999999999) hx hb C.2.2.2.2.1 (C.2.2.2.2.2.1 _ (List.mem_cons_of_mem _ mw1498)) dX12_pair_15 ?_
    refine k_ci hW (va_runS (As := [.long (x2.toInt64), .long 0, .long 999999999]) (rest := []) (k_fix C) (c_X12_in l G h (x2.toInt64) 0 999999999 _ hq) (va_cwS 3 C.2.2.2.2.2.1 (gU_S mw762 mw763 mw5 mw764) rfl rfl rfl (by decide +kernel) ⟨Nat.le_of_ble_eq_true rfl, Nat.le_of_ble_eq_true rfl⟩) (k_preS hK hW) rfl rfl hl.1 rfl (lv_room (Nat.le_of_ble_eq_true rfl)) dX12_pair_18 ⟨Nat.le_refl 0, Nat.le_refl 0⟩) (fun r4 h5 H locs hq hW => ?_)
    rw [hq.1] at hW
    have hq := hq.2
    refine lv_if_eq (tgt := 34) hx hb dX12_pair_21 (by decide) (fun c6 => ?_) (fun c6 => ?_)
    · have hq := hq.1 c6
      refine lv_ldc2 (v := (-1)) hx hb C.2.2.2.2.1 (C.2.2.2.2.2.1 _ (List.mem_cons_of_mem _ mw820)) dX12_pair_34 ?_
      exact k_lret rfl C hW dX12_pair_37 ⟨rfl, hq⟩
    · have hq := hq.2 c6
      refine lv_iload_n hx hb dX12_pair_24 rfl (lv_at hl 1 rfl) ?_
      refine lv_i2l (v := x1.toInt64) hx hb dX12_pair_25 rfl ?_
      refine lv_iload_n hx hb dX12_pair_26 rfl (lv_at hl 2 rfl) ?_
      refine lv_i2l (v := x2.toInt64) hx hb dX12_pair_27 rfl ?_
      refine k_cl hW (va_runS (As := [.long (x1.toInt64), .long (x2.toInt64)]) (rest := []) (k_fix C) (c_X12_paired l G h (x1.toInt64) (x2.toInt64) _ hq) (va_cwS 2 C.2.2.2.2.2.1 (gU_S mw1499 mw1500 mw5 mw1501) rfl rfl rfl (by decide +kernel) ⟨Nat.le_of_ble_eq_true rfl, Nat.le_of_ble_eq_true rfl⟩) (k_preS hK hW) rfl rfl hl.1 rfl (lv_room (Nat.le_of_ble_eq_true rfl)) dX12_pair_28 ⟨Nat.le_refl 0, Nat.le_refl 0⟩) (fun r7 h8 H locs hq hW => ?_)
      rw [hq.1] at hW
      have hq := hq.2
      refine lv_goto (tgt := 37) hx hb dX12_pair_31 (by decide) ?_
      exact k_lret rfl C hW dX12_pair_37 ⟨rfl, hq⟩
theorem c_X12_pair (l : Launch) (G : wG) (h : hp) (x1 : Int32) (x2 : Int32) (Q : Int64 → Prop) (hq : w_X12_pair x1 x2 Q) : ctL l SM G yX12_pair wUX12_pair rmX12_pair h [.ref (G.2.2 0), .int x1, .int x2] (fun r9 h9 => h9 = h ∧ Q r9) := by
  refine k_start (cc := cX12_pair) (maxL := 3) (rt := (some .long)) (own := RX12) (by decide +kernel) rfl rfl (Nat.le_of_ble_eq_true rfl) ?_
  intro p e s m below meth c ls C hK hW hl
  exact k_X12_pair_0 C hK hW hl hq
theorem k_X12_unpair_b23 {Q : Int64 → Prop} {X23 : Int64 × Int64 → Prop} {x1 : Int64} {x3 : Int32} {h : hp} (C : kC p s m args meth c cX12_unpair 10 (some .long) RX12 wUX12_unpair) (hK : kK G s) (hX23 : ∀ (x4 : Int64) (x6 : Int64) (H : Heap) (locs : List Loc) (ls : Array Slot), kW SM G h (aS SM G) s H locs → lv_has ls 10 [(1, .long x1), (3, .int x3), (4, .long x4), (6, .long x6)] → X23 (x4, x6) → W p l e rmX12_unpair s m args below meth c H locs 0 0 (MQ below (va_Ql (fun r9 h9 => h9 = h ∧ Q r9) (kB SM G) (aS SM G)) args s 0 0 (aS SM G)) (F0 m 23 ls [])) {x4 : Int64} {x6 : Int64} {H : Heap} {locs : List Loc} {ls : Array Slot} (hW : kW SM G h (aS SM G) s H locs) (hl : lv_has ls 10 [(1, .long x1), (3, .int x3), (4, .long x4), (6, .long x6)]) (hq : w_X12_unpair_b23 Q x1 x3 X23 x4 x6) : W p l e rmX12_unpair s m args below meth c H locs 0 0 (MQ below (va_Ql (fun r9 h9 => h9 = h ∧ Q r9) (kB SM G) (aS SM G)) args s 0 0 (aS SM G)) (F0 m 23 ls []) := by
  have hx := C.1
  have hb := C.2.1
  unfold w_X12_unpair_b23 at hq
  refine lv_lload hx hb dX12_unpair_23 (lv_at hl 2 rfl) ?_
  refine lv_lload hx hb dX12_unpair_25 (lv_at hl 3 rfl) ?_
  refine W.lcmp hx hb dX12_unpair_27 ?_
  refine lv_if_ge (tgt := 71) hx hb dX12_unpair_28 (by decide) (fun c4 => ?_) (fun c4 => ?_)
  · have hq := hq.1 ((lg_cmp_ge _ _).mp c4)
    refine lv_lload_n hx hb dX12_unpair_71 rfl (lv_at hl 0 rfl) ?_
    refine lv_lload hx hb dX12_unpair_72 (lv_at hl 2 rfl) ?_
    refine lv_lconst (v := 0) hx hb dX12_unpair_74 (by decide) ?_
    refine k_cl hW (va_runS (As := [.long x4, .long 0]) (rest := [.long x1]) (k_fix C) (c_X12_paired l G h x4 0 _ hq) (va_cwS 2 C.2.2.2.2.2.1 (gU_S mw1499 mw1500 mw5 mw1501) rfl rfl rfl (by decide +kernel) ⟨Nat.le_of_ble_eq_true rfl, Nat.le_of_ble_eq_true rfl⟩) (k_preS hK hW) rfl rfl hl.1 rfl (lv_room (Nat.le_of_ble_eq_true rfl)) dX12_unpair_75 ⟨Nat.le_refl 0, Nat.le_refl 0⟩) (fun r5 h6 H locs hq hW => ?_)
    rw [hq.1] at hW
    have hq := hq.2
    refine lv_lsub hx hb dX12_unpair_78 ?_
    refine lv_topl (fun x8_7 ex8_7 => ?_)
    have hq := hq x8_7 ex8_7
    refine lv_lstore (lv' := [(8, .long x8_7), (1, .long x1), (3, .int x3), (4, .long x4), (6, .long x6)]) hx hb dX12_unpair_79 hl (by decide) rfl (fun ls hl => ?_)
    refine lv_iload_n hx hb dX12_unpair_81 rfl (lv_at hl 2 rfl) ?_
    refine lv_if_eq (tgt := 90) hx hb dX12_unpair_82 (by decide) (fun c8 => ?_) (fun c8 => ?_)
    · have hq := hq.1 c8
      refine lv_lload hx hb dX12_unpair_90 (lv_at hl 3 rfl) ?_
      refine lv_lload hx hb dX12_unpair_92 (lv_at hl 0 rfl) ?_
      refine lv_lsub hx hb dX12_unpair_94 ?_
      exact k_lret rfl C hW dX12_unpair_95 ⟨rfl, hq⟩
    · have hq := hq.2 c8
      refine lv_lload hx hb dX12_unpair_85 (lv_at hl 0 rfl) ?_
      refine lv_goto (tgt := 95) hx hb dX12_unpair_87 (by decide) ?_
      exact k_lret rfl C hW dX12_unpair_95 ⟨rfl, hq⟩
  · have hq := hq.2 (fun z => c4 ((lg_cmp_ge _ _).mpr z))
    refine lv_lload hx hb dX12_unpair_31 (lv_at hl 2 rfl) ?_
    refine lv_lload hx hb dX12_unpair_33 (lv_at hl 3 rfl) ?_
    refine lv_ladd hx hb dX12_unpair_35 ?_
    refine lv_lconst (v := 1) hx hb dX12_unpair_36 (by decide) ?_
    refine lv_ladd hx hb dX12_unpair_37 ?_
    refine lv_ldc2 (v := 2) hx hb C.2.2.2.2.1 (C.2.2.2.2.2.1 _ (List.mem_cons_of_mem _ mw843)) dX12_unpair_38 ?_
    refine lv_ldiv hx hb dX12_unpair_41 (by decide) ?_
    refine lv_topl (fun x8_9 ex8_9 => ?_)
    have hq := hq x8_9 ex8_9
    refine lv_lstore (lv' := [(8, .long x8_9), (1, .long x1), (3, .int x3), (4, .long x4), (6, .long x6)]) hx hb dX12_unpair_42 hl (by decide) rfl (fun ls hl => ?_)
    refine lv_lload hx hb dX12_unpair_44 (lv_at hl 0 rfl) ?_
    refine lv_lconst (v := 0) hx hb dX12_unpair_46 (by decide) ?_
    refine k_cl hW (va_runS (As := [.long x8_9, .long 0]) (rest := []) (k_fix C) (c_X12_paired l G h x8_9 0 _ hq) (va_cwS 2 C.2.2.2.2.2.1 (gU_S mw1499 mw1500 mw5 mw1501) rfl rfl rfl (by decide +kernel) ⟨Nat.le_of_ble_eq_true rfl, Nat.le_of_ble_eq_true rfl⟩) (k_preS hK hW) rfl rfl hl.1 rfl (lv_room (Nat.le_of_ble_eq_true rfl)) dX12_unpair_47 ⟨Nat.le_refl 0, Nat.le_refl 0⟩) (fun r10 h11 H locs hq hW => ?_)
    rw [hq.1] at hW
    have hq := hq.2
    refine lv_lload_n hx hb dX12_unpair_50 rfl (lv_at hl 1 rfl) ?_
    refine W.lcmp hx hb dX12_unpair_51 ?_
    refine lv_if_gt (tgt := 62) hx hb dX12_unpair_52 (by decide) (fun c12 => ?_) (fun c12 => ?_)
    · have hq := hq.1 ((lg_cmp_gt _ _).mp c12)
      refine lv_lload hx hb dX12_unpair_62 (lv_at hl 0 rfl) ?_
      refine lv_lconst (v := 1) hx hb dX12_unpair_64 (by decide) ?_
      refine lv_lsub hx hb dX12_unpair_65 ?_
      refine lv_topl (fun x6_13 ex6_13 => ?_)
      have hq := hq x6_13 ex6_13
      refine lv_lstore (lv' := [(6, .long x6_13), (8, .long x8_9), (1, .long x1), (3, .int x3), (4, .long x4)]) hx hb dX12_unpair_66 hl (by decide) rfl (fun ls hl => ?_)
      refine lv_goto (tgt := 23) hx hb dX12_unpair_68 (by decide) ?_
      exact hX23 _ _ _ _ _ hW (lv_sub hl [2, 3, 4, 0] rfl) hq
    · have hq := hq.2 (fun z => c12 ((lg_cmp_gt _ _).mpr z))
      refine lv_lload hx hb dX12_unpair_55 (lv_at hl 0 rfl) ?_
      refine lv_lstore (lv' := [(4, .long x8_9), (8, .long x8_9), (1, .long x1), (3, .int x3), (6, .long x6)]) hx hb dX12_unpair_57 hl (by decide) rfl (fun ls hl => ?_)
      refine lv_goto (tgt := 68) hx hb dX12_unpair_59 (by decide) ?_
      refine lv_goto (tgt := 23) hx hb dX12_unpair_68 (by decide) ?_
      exact hX23 _ _ _ _ _ hW (lv_sub hl [2, 3, 0, 4] rfl) hq
theorem k_X12_unpair_23 {Q : Int64 → Prop} {x1 : Int64} {x3 : Int32} {h : hp} (C : kC p s m args meth c cX12_unpair 10 (some .long) RX12 wUX12_unpair) (hK : kK G s) {x4 : Int64} {x6 : Int64} {H : Heap} {locs : List Loc} {ls : Array Slot} (hW : kW SM G h (aS SM G) s H locs) (hl : lv_has ls 10 [(1, .long x1), (3, .int x3), (4, .long x4), (6, .long x6)]) (hq : w_X12_unpair_23 Q x1 x3 x4 x6) : W p l e rmX12_unpair s m args below meth c H locs 0 0 (MQ below (va_Ql (fun r9 h9 => h9 = h ∧ Q r9) (kB SM G) (aS SM G)) args s 0 0 (aS SM G)) (F0 m 23 ls []) := by
  have key := hq (fun (q : Int64 × Int64) => ∀ (H : Heap) (locs : List Loc) (ls : Array Slot), kW SM G h (aS SM G) s H locs → lv_has ls 10 [(1, .long x1), (3, .int x3), (4, .long q.1), (6, .long q.2)] → W p l e rmX12_unpair s m args below meth c H locs 0 0 (MQ below (va_Ql (fun r9 h9 => h9 = h ∧ Q r9) (kB SM G) (aS SM G)) args s 0 0 (aS SM G)) (F0 m 23 ls []))
    (fun q hq H locs ls hW hl => k_X12_unpair_b23 C hK (fun x4 x6 H locs ls hW hl hI => hI H locs ls hW hl) hW hl hq)
  exact key _ _ _ hW hl
theorem k_X12_unpair_0 {Q : Int64 → Prop} {x1 : Int64} {x3 : Int32} {h : hp} (C : kC p s m args meth c cX12_unpair 10 (some .long) RX12 wUX12_unpair) (hK : kK G s) {H : Heap} {locs : List Loc} {ls : Array Slot} (hW : kW SM G h (aS SM G) s H locs) (hl : lv_has ls 10 [(0, .ref (G.2.2 0)), (1, .long x1), (3, .int x3)]) (hq : w_X12_unpair_0 Q x1 x3) : W p l e rmX12_unpair s m args below meth c H locs 0 0 (MQ below (va_Ql (fun r9 h9 => h9 = h ∧ Q r9) (kB SM G) (aS SM G)) args s 0 0 (aS SM G)) (F0 m 0 ls []) := by
  have hx := C.1
  have hb := C.2.1
  unfold w_X12_unpair_0 at hq
  refine lv_lload_n hx hb dX12_unpair_0 rfl (lv_at hl 1 rfl) ?_
  refine lv_lconst (v := 0) hx hb dX12_unpair_1 (by decide) ?_
  refine lv_ldc2 (v := 1000000000000000000) hx hb C.2.2.2.2.1 (C.2.2.2.2.2.1 _ (List.mem_cons_of_mem _ mw842)) dX12_unpair_2 ?_
  refine k_ci hW (va_runS (As := [.long x1, .long 0, .long 1000000000000000000]) (rest := []) (k_fix C) (c_X12_in l G h x1 0 1000000000000000000 _ hq) (va_cwS 3 C.2.2.2.2.2.1 (gU_S mw762 mw763 mw5 mw764) rfl rfl rfl (by decide +kernel) ⟨Nat.le_of_ble_eq_true rfl, Nat.le_of_ble_eq_true rfl⟩) (k_preS hK hW) rfl rfl hl.1 rfl (lv_room (Nat.le_of_ble_eq_true rfl)) dX12_unpair_5 ⟨Nat.le_refl 0, Nat.le_refl 0⟩) (fun r1 h2 H locs hq hW => ?_)
  rw [hq.1] at hW
  have hq := hq.2
  refine lv_if_ne (tgt := 15) hx hb dX12_unpair_8 (by decide) (fun c3 => ?_) (fun c3 => ?_)
  · have hq := hq.1 c3
    refine lv_lconst (v := 0) hx hb dX12_unpair_15 (by decide) ?_
    refine lv_lstore (lv' := [(4, .long 0), (0, .ref (G.2.2 0)), (1, .long x1), (3, .int x3)]) hx hb dX12_unpair_16 hl (by decide) rfl (fun ls hl => ?_)
    refine lv_ldc2 (v := 1500000000) hx hb C.2.2.2.2.1 (C.2.2.2.2.2.1 _ (List.mem_cons_of_mem _ mw1511)) dX12_unpair_18 ?_
    refine lv_lstore (lv' := [(6, .long 1500000000), (4, .long 0), (0, .ref (G.2.2 0)), (1, .long x1), (3, .int x3)]) hx hb dX12_unpair_21 hl (by decide) rfl (fun ls hl => ?_)
    exact k_X12_unpair_23 C hK hW (lv_sub hl [3, 4, 1, 0] rfl) hq
  · have hq := hq.2 c3
    refine lv_ldc2 (v := (-1)) hx hb C.2.2.2.2.1 (C.2.2.2.2.2.1 _ (List.mem_cons_of_mem _ mw820)) dX12_unpair_11 ?_
    exact k_lret rfl C hW dX12_unpair_14 ⟨rfl, hq⟩
theorem c_X12_unpair (l : Launch) (G : wG) (h : hp) (x1 : Int64) (x3 : Int32) (Q : Int64 → Prop) (hq : w_X12_unpair x1 x3 Q) : ctL l SM G yX12_unpair wUX12_unpair rmX12_unpair h [.ref (G.2.2 0), .long x1, .int x3] (fun r9 h9 => h9 = h ∧ Q r9) := by
  refine k_start (cc := cX12_unpair) (maxL := 10) (rt := (some .long)) (own := RX12) (by decide +kernel) rfl rfl (Nat.le_of_ble_eq_true rfl) ?_
  intro p e s m below meth c ls C hK hW hl
  exact k_X12_unpair_0 C hK hW hl hq
end LINKS
