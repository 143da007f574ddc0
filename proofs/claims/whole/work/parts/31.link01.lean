section LINKS
variable {p : Program} {l : Launch} {e : Env} {s : State} {m : MethodId} {args : Array Value} {below : List Frame} {meth : Method} {c : Code} {G : wG}
theorem k_X10_comeBy_b30 {Q : hp → Prop} {X15 : Int32 × Int64 × Int32 × hp → Prop} {X30 : Int32 × Int32 × hp → Prop} {x1 : Int64} {x4 : Int64} {x6 : Int32} {x7 : Int32} (C : kC p s m args meth c cX10_comeBy 9 none RX10 wUX10_comeBy) (hK : kK G s) (hX15 : ∀ (x3 : Int32) (x4 : Int64) (x6 : Int32) (h : hp) (H : Heap) (locs : List Loc) (ls : Array Slot), kW SC G h (aS SC G) s H locs → lv_has ls 9 [(0, .ref (G.2.2 64)), (1, .long x1), (3, .int x3), (4, .long x4), (6, .int x6)] → X15 (x3, x4, x6, h) → W p l e rmX10_comeBy s m args below meth c H locs 0 0 (MQ below (va_Qv Q (kB SC G) (aS SC G)) args s 0 0 (aS SC G)) (F0 m 15 ls [])) (hX30 : ∀ (x3 : Int32) (x8 : Int32) (h : hp) (H : Heap) (locs : List Loc) (ls : Array Slot), kW SC G h (aS SC G) s H locs → lv_has ls 9 [(0, .ref (G.2.2 64)), (1, .long x1), (3, .int x3), (4, .long x4), (6, .int x6), (7, .int x7), (8, .int x8)] → X30 (x3, x8, h) → W p l e rmX10_comeBy s m args below meth c H locs 0 0 (MQ below (va_Qv Q (kB SC G) (aS SC G)) args s 0 0 (aS SC G)) (F0 m 30 ls [])) {x3 : Int32} {x8 : Int32} {h : hp} {H : Heap} {locs : List Loc} {ls : Array Slot} (hW : kW SC G h (aS SC G) s H locs) (hl : lv_has ls 9 [(0, .ref (G.2.2 64)), (1, .long x1), (3, .int x3), (4, .long x4), (6, .int x6), (7, .int x7), (8, .int x8)]) (hq : w_X10_comeBy_b30 Q X15 x1 x4 x6 x7 X30 x3 x8 h) : W p l e rmX10_comeBy s m args below meth c H locs 0 0 (MQ below (va_Qv Q (kB SC G) (aS SC G)) args s 0 0 (aS SC G)) (F0 m 30 ls []) := by
  have hx := C.1
  have hb := C.2.1
  unfold w_X10_comeBy_b30 at hq
  refine lv_iload hx hb dX10_comeBy_30 (lv_at hl 6 rfl) ?_
  refine lv_iload hx hb dX10_comeBy_32 (lv_at hl 5 rfl) ?_
  refine lv_aload_n hx hb dX10_comeBy_34 rfl (lv_at hl 0 rfl) ?_
  refine gt10_2 C hK hW (rfl : shC 64 = 10) (List.mem_cons_of_mem _ mw218) (fun _ h9 => List.mem_cons_of_mem _ (inU_wsX100 _ h9)) dX10_comeBy_35 ?_
  refine lv_imul hx hb dX10_comeBy_38 ?_
  refine lv_icmp_ge (tgt := 76) hx hb dX10_comeBy_39 (by decide) (fun c3 => ?_) (fun c3 => ?_)
  · have hq := hq.1 c3
    refine lv_lload hx hb dX10_comeBy_76 (lv_at hl 3 rfl) ?_
    refine lv_lload_n hx hb dX10_comeBy_78 rfl (lv_at hl 1 rfl) ?_
    refine lv_lmul hx hb dX10_comeBy_79 ?_
    refine lv_topl (fun x4_4 ex4_4 => ?_)
    have hq := hq x4_4 ex4_4
    refine lv_lstore (lv' := [(4, .long x4_4), (0, .ref (G.2.2 64)), (1, .long x1), (3, .int x3), (6, .int x6), (7, .int x7), (8, .int x8)]) hx hb dX10_comeBy_80 hl (by decide) rfl (fun ls hl => ?_)
    obtain ⟨x6_5, ex6_5⟩ : ∃ y : Int32, y = x6 + 1 := ⟨_, rfl⟩
    have hq := hq x6_5 ex6_5
    refine lv_iinc (v := x6_5) (lv' := [(6, .int x6_5), (4, .long x4_4), (0, .ref (G.2.2 64)), (1, .long x1), (3, .int x3), (7, .int x7), (8, .int x8)]) hx hb dX10_comeBy_82 hl (k := 4) rfl (by rw [ex6_5]; rfl) (by decide) rfl (fun ls hl => ?_)
    refine lv_goto (tgt := 15) hx hb dX10_comeBy_85 (by decide) ?_
    exact hX15 _ _ _ _ _ _ _ hW (lv_sub hl [2, 3, 4, 1, 0] rfl) hq
  · have hq := hq.2 c3
    refine lv_iload_n hx hb dX10_comeBy_42 rfl (lv_at hl 2 rfl) ?_
    refine lv_sipush (v := 10000) hx hb dX10_comeBy_43 (by decide) ?_
    refine lv_icmp_ge (tgt := 76) hx hb dX10_comeBy_46 (by decide) (fun c6 => ?_) (fun c6 => ?_)
    · have hq := hq.1 c6
      refine lv_lload hx hb dX10_comeBy_76 (lv_at hl 3 rfl) ?_
      refine lv_lload_n hx hb dX10_comeBy_78 rfl (lv_at hl 1 rfl) ?_
      refine lv_lmul hx hb dX10_comeBy_79 ?_
      refine lv_topl (fun x4_7 ex4_7 => ?_)
      have hq := hq x4_7 ex4_7
      refine lv_lstore (lv' := [(4, .long x4_7), (0, .ref (G.2.2 64)), (1, .long x1), (3, .int x3), (6, .int x6), (7, .int x7), (8, .int x8)]) hx hb dX10_comeBy_80 hl (by decide) rfl (fun ls hl => ?_)
      obtain ⟨x6_8, ex6_8⟩ : ∃ y : Int32, y = x6 + 1 := ⟨_, rfl⟩
      have hq := hq x6_8 ex6_8
      refine lv_iinc (v := x6_8) (lv' := [(6, .int x6_8), (4, .long x4_7), (0, .ref (G.2.2 64)), (1, .long x1), (3, .int x3), (7, .int x7), (8, .int x8)]) hx hb dX10_comeBy_82 hl (k := 4) rfl (by rw [ex6_8]; rfl) (by decide) rfl (fun ls hl => ?_)
      refine lv_goto (tgt := 15) hx hb dX10_comeBy_85 (by decide) ?_
      exact hX15 _ _ _ _ _ _ _ hW (lv_sub hl [2, 3, 4, 1, 0] rfl) hq
    · have hq := hq.2 c6
      refine lv_aload_n hx hb dX10_comeBy_49 rfl (lv_at hl 0 rfl) ?_
      refine gt10_3 C hK hW (rfl : shC 64 = 10) (List.mem_cons_of_mem _ mw219) (fun _ h9 => List.mem_cons_of_mem _ (inU_wsX100 _ h9)) dX10_comeBy_50 ?_
      refine lv_iload_n hx hb dX10_comeBy_53 rfl (lv_at hl 2 rfl) ?_
      refine lv_aload_n hx hb dX10_comeBy_54 rfl (lv_at hl 0 rfl) ?_
      refine gt10_3 C hK hW (rfl : shC 64 = 10) (List.mem_cons_of_mem _ mw219) (fun _ h9 => List.mem_cons_of_mem _ (inU_wsX100 _ h9)) dX10_comeBy_55 ?_
      refine lv_iload_n hx hb dX10_comeBy_58 rfl (lv_at hl 2 rfl) ?_
      refine lv_iload hx hb dX10_comeBy_59 (lv_at hl 5 rfl) ?_
      refine lv_isub hx hb dX10_comeBy_61 ?_
      refine k_lald C hK hW (shC_lt (rfl : shC 65 = 15) (by decide)) (ceC_15 (rfl : shC 65 = 15) (rfl : lnC 65 = 10000)) hq.1 dX10_comeBy_62 ?_
      have hq := hq.2
      refine lv_lload hx hb dX10_comeBy_63 (lv_at hl 3 rfl) ?_
      refine lv_ladd hx hb dX10_comeBy_65 ?_
      refine k_last okC C hK hW (shC_lt (rfl : shC 65 = 15) (by decide)) (fun g9 => ceC_15 (rfl : shC 65 = 15) (rfl : lnC 65 = 10000)) hq.1 dX10_comeBy_66 (fun H locs hW => ?_)
      have hq := hq.2
      obtain ⟨h9, eh9⟩ : ∃ z : hp, z = sL h 65 (ix x3) ((gL h 65 (ix (x3 - x7))) + x4) := ⟨_, rfl⟩
      rw [← eh9] at hW
      have hq := hq h9 eh9
      obtain ⟨x3_10, ex3_10⟩ : ∃ y : Int32, y = x3 + 1 := ⟨_, rfl⟩
      have hq := hq x3_10 ex3_10
      refine lv_iinc (v := x3_10) (lv' := [(3, .int x3_10), (0, .ref (G.2.2 64)), (1, .long x1), (4, .long x4), (6, .int x6), (7, .int x7), (8, .int x8)]) hx hb dX10_comeBy_67 hl (k := 2) rfl (by rw [ex3_10]; rfl) (by decide) rfl (fun ls hl => ?_)
      obtain ⟨x8_11, ex8_11⟩ : ∃ y : Int32, y = x8 + 1 := ⟨_, rfl⟩
      have hq := hq x8_11 ex8_11
      refine lv_iinc (v := x8_11) (lv' := [(8, .int x8_11), (3, .int x3_10), (0, .ref (G.2.2 64)), (1, .long x1), (4, .long x4), (6, .int x6), (7, .int x7)]) hx hb dX10_comeBy_70 hl (k := 6) rfl (by rw [ex8_11]; rfl) (by decide) rfl (fun ls hl => ?_)
      refine lv_goto (tgt := 30) hx hb dX10_comeBy_73 (by decide) ?_
      exact hX30 _ _ _ _ _ _ hW (lv_sub hl [2, 3, 1, 4, 5, 6, 0] rfl) hq
theorem k_X10_comeBy_30 {Q : hp → Prop} {X15 : Int32 × Int64 × Int32 × hp → Prop} {x1 : Int64} {x4 : Int64} {x6 : Int32} {x7 : Int32} (C : kC p s m args meth c cX10_comeBy 9 none RX10 wUX10_comeBy) (hK : kK G s) (hX15 : ∀ (x3 : Int32) (x4 : Int64) (x6 : Int32) (h : hp) (H : Heap) (locs : List Loc) (ls : Array Slot), kW SC G h (aS SC G) s H locs → lv_has ls 9 [(0, .ref (G.2.2 64)), (1, .long x1), (3, .int x3), (4, .long x4), (6, .int x6)] → X15 (x3, x4, x6, h) → W p l e rmX10_comeBy s m args below meth c H locs 0 0 (MQ below (va_Qv Q (kB SC G) (aS SC G)) args s 0 0 (aS SC G)) (F0 m 15 ls [])) {x3 : Int32} {x8 : Int32} {h : hp} {H : Heap} {locs : List Loc} {ls : Array Slot} (hW : kW SC G h (aS SC G) s H locs) (hl : lv_has ls 9 [(0, .ref (G.2.2 64)), (1, .long x1), (3, .int x3), (4, .long x4), (6, .int x6), (7, .int x7), (8, .int x8)]) (hq : w_X10_comeBy_30 Q X15 x1 x4 x6 x7 x3 x8 h) : W p l e rmX10_comeBy s m args below meth c H locs 0 0 (MQ below (va_Qv Q (kB SC G) (aS SC G)) args s 0 0 (aS SC G)) (F0 m 30 ls []) := by
  have key := hq (fun (q : Int32 × Int32 × hp) => ∀ (H : Heap) (locs : List Loc) (ls : Array Slot), kW SC G q.2.2 (aS SC G) s H locs → lv_has ls 9 [(0, .ref (G.2.2 64)), (1, .long x1), (3, .int q.1), (4, .long x4), (6, .int x6), (7, .int x7), (8, .int q.2.1)] → W p l e rmX10_comeBy s m args below meth c H locs 0 0 (MQ below (va_Qv Q (kB SC G) (aS SC G)) args s 0 0 (aS SC G)) (F0 m 30 ls []))
    (fun q hq H locs ls hW hl => k_X10_comeBy_b30 C hK hX15 (fun x3 x8 h H locs ls hW hl hI => hI H locs ls hW hl) hW hl hq)
  exact key _ _ _ hW hl
theorem k_X10_comeBy_b15 {Q : hp → Prop} {X15 : Int32 × Int64 × Int32 × hp → Prop} {x1 : Int64} (C : kC p s m args meth c cX10_comeBy 9 none RX10 wUX10_comeBy) (hK : kK G s) (hX15 : ∀ (x3 : Int32) (x4 : Int64) (x6 : Int32) (h : hp) (H : Heap) (locs : List Loc) (ls : Array Slot), kW SC G h (aS SC G) s H locs → lv_has ls 9 [(0, .ref (G.2.2 64)), (1, .long x1), (3, .int x3), (4, .long x4), (6, .int x6)] → X15 (x3, x4, x6, h) → W p l e rmX10_comeBy s m args below meth c H locs 0 0 (MQ below (va_Qv Q (kB SC G) (aS SC G)) args s 0 0 (aS SC G)) (F0 m 15 ls [])) {x3 : Int32} {x4 : Int64} {x6 : Int32} {h : hp} {H : Heap} {locs : List Loc} {ls : Array Slot} (hW : kW SC G h (aS SC G) s H locs) (hl : lv_has ls 9 [(0, .ref (G.2.2 64)), (1, .long x1), (3, .int x3), (4, .long x4), (6, .int x6)]) (hq : w_X10_comeBy_b15 Q x1 X15 x3 x4 x6 h) : W p l e rmX10_comeBy s m args below meth c H locs 0 0 (MQ below (va_Qv Q (kB SC G) (aS SC G)) args s 0 0 (aS SC G)) (F0 m 15 ls []) := by
  have hx := C.1
  have hb := C.2.1
  unfold w_X10_comeBy_b15 at hq
  refine lv_iload hx hb dX10_comeBy_15 (lv_at hl 4 rfl) ?_
  refine lv_aload_n hx hb dX10_comeBy_17 rfl (lv_at hl 0 rfl) ?_
  refine gt10_0 C hK hW (rfl : shC 64 = 10) (List.mem_cons_of_mem _ mw216) (fun _ h9 => List.mem_cons_of_mem _ (inU_wsX100 _ h9)) dX10_comeBy_18 ?_
  refine lv_icmp_ge (tgt := 88) hx hb dX10_comeBy_21 (by decide) (fun c2 => ?_) (fun c2 => ?_)
  · have hq := hq.1 c2
    exact k_vret rfl C hW dX10_comeBy_88 hq
  · have hq := hq.2 c2
    refine lv_iload_n hx hb dX10_comeBy_24 rfl (lv_at hl 2 rfl) ?_
    refine lv_istore (lv' := [(7, .int x3), (0, .ref (G.2.2 64)), (1, .long x1), (3, .int x3), (4, .long x4), (6, .int x6)]) hx hb dX10_comeBy_25 hl (by decide) rfl (fun ls hl => ?_)
    refine lv_iconst (v := 0) hx hb dX10_comeBy_27 (by decide) ?_
    refine lv_istore (lv' := [(8, .int 0), (7, .int x3), (0, .ref (G.2.2 64)), (1, .long x1), (3, .int x3), (4, .long x4), (6, .int x6)]) hx hb dX10_comeBy_28 hl (by decide) rfl (fun ls hl => ?_)
    exact k_X10_comeBy_30 C hK hX15 hW (lv_sub hl [2, 3, 4, 5, 6, 1, 0] rfl) hq
theorem k_X10_comeBy_15 {Q : hp → Prop} {x1 : Int64} (C : kC p s m args meth c cX10_comeBy 9 none RX10 wUX10_comeBy) (hK : kK G s) {x3 : Int32} {x4 : Int64} {x6 : Int32} {h : hp} {H : Heap} {locs : List Loc} {ls : Array Slot} (hW : kW SC G h (aS SC G) s H locs) (hl : lv_has ls 9 [(0, .ref (G.2.2 64)), (1, .long x1), (3, .int x3), (4, .long x4), (6, .int x6)]) (hq : w_X10_comeBy_15 Q x1 x3 x4 x6 h) : W p l e rmX10_comeBy s m args below meth c H locs 0 0 (MQ below (va_Qv Q (kB SC G) (aS SC G)) args s 0 0 (aS SC G)) (F0 m 15 ls []) := by
  have key := hq (fun (q : Int32 × Int64 × Int32 × hp) => ∀ (H : Heap) (locs : List Loc) (ls : Array Slot), kW SC G q.2.2.2 (aS SC G) s H locs → lv_has ls 9 [(0, .ref (G.2.2 64)), (1, .long x1), (3, .int q.1), (4, .long q.2.1), (6, .int q.2.2.1)] → W p l e rmX10_comeBy s m args below meth c H locs 0 0 (MQ below (va_Qv Q (kB SC G) (aS SC G)) args s 0 0 (aS SC G)) (F0 m 15 ls []))
    (fun q hq H locs ls hW hl => k_X10_comeBy_b15 C hK (fun x3 x4 x6 h H locs ls hW hl hI => hI H locs ls hW hl) hW hl hq)
  exact key _ _ _ hW hl
theorem k_X10_comeBy_0 {Q : hp → Prop} {x1 : Int64} {h : hp} (C : kC p s m args meth c cX10_comeBy 9 none RX10 wUX10_comeBy) (hK : kK G s) {H : Heap} {locs : List Loc} {ls : Array Slot} (hW : kW SC G h (aS SC G) s H locs) (hl : lv_has ls 9 [(0, .ref (G.2.2 64)), (1, .long x1)]) (hq : w_X10_comeBy_0 Q x1 h) : W p l e rmX10_comeBy s m args below meth c H locs 0 0 (MQ below (va_Qv Q (kB SC G) (aS SC G)) args s 0 0 (aS SC G)) (F0 m 0 ls []) := by
  have hx := C.1
  have hb := C.2.1
  unfold w_X10_comeBy_0 at hq
  refine lv_iconst (v := 1) hx hb dX10_comeBy_0 (by decide) ?_
  refine lv_istore_n (lv' := [(3, .int 1), (0, .ref (G.2.2 64)), (1, .long x1)]) hx hb dX10_comeBy_1 rfl hl (by decide) rfl (fun ls hl => ?_)
  refine lv_lconst (v := 1) hx hb dX10_comeBy_2 (by decide) ?_
  refine lv_lstore (lv' := [(4, .long 1), (3, .int 1), (0, .ref (G.2.2 64)), (1, .long x1)]) hx hb dX10_comeBy_3 hl (by decide) rfl (fun ls hl => ?_)
  refine lv_aload_n hx hb dX10_comeBy_5 rfl (lv_at hl 2 rfl) ?_
  refine gt10_3 C hK hW (rfl : shC 64 = 10) (List.mem_cons_of_mem _ mw219) (fun _ h9 => List.mem_cons_of_mem _ (inU_wsX100 _ h9)) dX10_comeBy_6 ?_
  refine lv_iconst (v := 0) hx hb dX10_comeBy_9 (by decide) ?_
  refine lv_lconst (v := 0) hx hb dX10_comeBy_10 (by decide) ?_
  refine k_last okC C hK hW (shC_lt (rfl : shC 65 = 15) (by decide)) (fun g9 => ceC_15 (rfl : shC 65 = 15) (rfl : lnC 65 = 10000)) hq.1 dX10_comeBy_11 (fun H locs hW => ?_)
  have hq := hq.2
  obtain ⟨h1, eh1⟩ : ∃ z : hp, z = sL h 65 (ix 0) 0 := ⟨_, rfl⟩
  rw [← eh1] at hW
  have hq := hq h1 eh1
  refine lv_iconst (v := 0) hx hb dX10_comeBy_12 (by decide) ?_
  refine lv_istore (lv' := [(6, .int 0), (4, .long 1), (3, .int 1), (0, .ref (G.2.2 64)), (1, .long x1)]) hx hb dX10_comeBy_13 hl (by decide) rfl (fun ls hl => ?_)
  exact k_X10_comeBy_15 C hK hW (lv_sub hl [3, 4, 2, 1, 0] rfl) hq
theorem c_X10_comeBy (l : Launch) (G : wG) (h : hp) (x1 : Int64) (Q : hp → Prop) (hq : w_X10_comeBy h x1 Q) : ctV l SC G yX10_comeBy wUX10_comeBy rmX10_comeBy h [.ref (G.2.2 64), .long x1] Q := by
  refine k_start (cc := cX10_comeBy) (maxL := 9) (rt := none) (own := RX10) (by decide +kernel) rfl rfl (Nat.le_of_ble_eq_true rfl) ?_
  intro p e s m below meth c ls C hK hW hl
  exact k_X10_comeBy_0 C hK hW hl hq
theorem k_X1_dropWrong_50 {Q : hp → Prop} {X6 : Int32 × Int32 × hp → Prop} {x1 : Int64} {x3 : Int32} {x4 : Int32} {x5 : Int32} {x6 : Int32} {h : hp} (C : kC p s m args meth c cX1_dropWrong 7 none RX1 wUX1_dropWrong) (hK : kK G s) (hX6 : ∀ (x4 : Int32) (x5 : Int32) (h : hp) (H : Heap) (locs : List Loc) (ls : Array Slot), kW SC G h (aS SC G) s H locs → lv_has ls 7 [(0, .ref (G.2.2 71)), (1, .long x1), (3, .int x3), (4, .int x4), (5, .int x5)] → X6 (x4, x5, h) → W p l e rmX1_dropWrong s m args below meth c H locs 0 0 (MQ below (va_Qv Q (kB SC G) (aS SC G)) args s 0 0 (aS SC G)) (F0 m 6 ls [])) {H : Heap} {locs : List Loc} {ls : Array Slot} (hW : kW SC G h (aS SC G) s H locs) (hl : lv_has ls 7 [(0, .ref (G.2.2 71)), (1, .long x1), (3, .int x3), (4, .int x4), (5, .int x5), (6, .int x6)]) (hq : w_X1_dropWrong_50 Q X6 x1 x3 x4 x5 x6 h) : W p l e rmX1_dropWrong s m args below meth c H locs 0 0 (MQ below (va_Qv Q (kB SC G) (aS SC G)) args s 0 0 (aS SC G)) (F0 m 50 ls []) := by
  have hx := C.1
  have hb := C.2.1
  unfold w_X1_dropWrong_50 at hq
  refine lv_aload_n hx hb dX1_dropWrong_50 rfl (lv_at hl 0 rfl) ?_
  refine gt1_5 C hK hW (rfl : shC 71 = 1) (List.mem_cons_of_mem _ mw240) (fun _ h9 => List.mem_cons_of_mem _ (inU_wsX10 _ h9)) dX1_dropWrong_51 ?_
  refine lv_iload hx hb dX1_dropWrong_54 (lv_at hl 5 rfl) ?_
  refine k_iald C hK hW (shC_lt (rfl : shC 73 = 14) (by decide)) (ceC_14 (rfl : shC 73 = 14) (rfl : lnC 73 = 10000)) hq.1 dX1_dropWrong_56 ?_
  have hq := hq.2
  refine lv_iload_n hx hb dX1_dropWrong_57 rfl (lv_at hl 2 rfl) ?_
  refine lv_icmp_gt (tgt := 73) hx hb dX1_dropWrong_58 (by decide) (fun c6 => ?_) (fun c6 => ?_)
  · have hq := hq.1 c6
    obtain ⟨x5_7, ex5_7⟩ : ∃ y : Int32, y = x5 + 1 := ⟨_, rfl⟩
    have hq := hq x5_7 ex5_7
    refine lv_iinc (v := x5_7) (lv' := [(5, .int x5_7), (0, .ref (G.2.2 71)), (1, .long x1), (3, .int x3), (4, .int x4), (6, .int x6)]) hx hb dX1_dropWrong_73 hl (k := 4) rfl (by rw [ex5_7]; rfl) (by decide) rfl (fun ls hl => ?_)
    refine lv_goto (tgt := 6) hx hb dX1_dropWrong_76 (by decide) ?_
    exact hX6 _ _ _ _ _ _ hW (lv_sub hl [1, 2, 3, 4, 0] rfl) hq
  · have hq := hq.2 c6
    refine lv_aload_n hx hb dX1_dropWrong_61 rfl (lv_at hl 0 rfl) ?_
    refine gt1_0 C hK hW (rfl : shC 71 = 1) (List.mem_cons_of_mem _ mw236) (fun _ h9 => List.mem_cons_of_mem _ (inU_wsX10 _ h9)) dX1_dropWrong_62 ?_
    refine lv_iload hx hb dX1_dropWrong_65 (lv_at hl 3 rfl) ?_
    refine lv_iload hx hb dX1_dropWrong_67 (lv_at hl 5 rfl) ?_
    refine k_iast okC C hK hW (shC_lt (rfl : shC 72 = 14) (by decide)) (fun g9 => ceC_14 (rfl : shC 72 = 14) (rfl : lnC 72 = 10000)) hq.1 dX1_dropWrong_69 (fun H locs hW => ?_)
    have hq := hq.2
    obtain ⟨h8, eh8⟩ : ∃ z : hp, z = sI h 72 (ix x4) x6 := ⟨_, rfl⟩
    rw [← eh8] at hW
    have hq := hq h8 eh8
    obtain ⟨x4_9, ex4_9⟩ : ∃ y : Int32, y = x4 + 1 := ⟨_, rfl⟩
    have hq := hq x4_9 ex4_9
    refine lv_iinc (v := x4_9) (lv' := [(4, .int x4_9), (0, .ref (G.2.2 71)), (1, .long x1), (3, .int x3), (5, .int x5), (6, .int x6)]) hx hb dX1_dropWrong_70 hl (k := 3) rfl (by rw [ex4_9]; rfl) (by decide) rfl (fun ls hl => ?_)
    obtain ⟨x5_10, ex5_10⟩ : ∃ y : Int32, y = x5 + 1 := ⟨_, rfl⟩
    have hq := hq x5_10 ex5_10
    refine lv_iinc (v := x5_10) (lv' := [(5, .int x5_10), (4, .int x4_9), (0, .ref (G.2.2 71)), (1, .long x1), (3, .int x3), (6, .int x6)]) hx hb dX1_dropWrong_73 hl (k := 4) rfl (by rw [ex5_10]; rfl) (by decide) rfl (fun ls hl => ?_)
    refine lv_goto (tgt := 6) hx hb dX1_dropWrong_76 (by decide) ?_
    exact hX6 _ _ _ _ _ _ hW (lv_sub hl [2, 3, 4, 1, 0] rfl) hq
theorem k_X1_dropWrong_b6 {Q : hp → Prop} {X6 : Int32 × Int32 × hp → Prop} {x1 : Int64} {x3 : Int32} (C : kC p s m args meth c cX1_dropWrong 7 none RX1 wUX1_dropWrong) (hK : kK G s) (hX6 : ∀ (x4 : Int32) (x5 : Int32) (h : hp) (H : Heap) (locs : List Loc) (ls : Array Slot), kW SC G h (aS SC G) s H locs → lv_has ls 7 [(0, .ref (G.2.2 71)), (1, .long x1), (3, .int x3), (4, .int x4), (5, .int x5)] → X6 (x4, x5, h) → W p l e rmX1_dropWrong s m args below meth c H locs 0 0 (MQ below (va_Qv Q (kB SC G) (aS SC G)) args s 0 0 (aS SC G)) (F0 m 6 ls [])) {x4 : Int32} {x5 : Int32} {h : hp} {H : Heap} {locs : List Loc} {ls : Array Slot} (hW : kW SC G h (aS SC G) s H locs) (hl : lv_has ls 7 [(0, .ref (G.2.2 71)), (1, .long x1), (3, .int x3), (4, .int x4), (5, .int x5)]) (hq : w_X1_dropWrong_b6 Q x1 x3 X6 x4 x5 h) : W p l e rmX1_dropWrong s m args below meth c H locs 0 0 (MQ below (va_Qv Q (kB SC G) (aS SC G)) args s 0 0 (aS SC G)) (F0 m 6 ls []) := by
  have hx := C.1
  have hb := C.2.1
  unfold w_X1_dropWrong_b6 at hq
  refine lv_iload hx hb dX1_dropWrong_6 (lv_at hl 4 rfl) ?_
  refine lv_aload_n hx hb dX1_dropWrong_8 rfl (lv_at hl 0 rfl) ?_
  refine gt1_1 C hK hW (rfl : shC 71 = 1) (List.mem_cons_of_mem _ mw237) (fun _ h9 => List.mem_cons_of_mem _ (inU_wsX10 _ h9)) dX1_dropWrong_9 ?_
  refine lv_icmp_ge (tgt := 79) hx hb dX1_dropWrong_12 (by decide) (fun c1 => ?_) (fun c1 => ?_)
  · have hq := hq.1 c1
    refine lv_aload_n hx hb dX1_dropWrong_79 rfl (lv_at hl 0 rfl) ?_
    refine lv_iload hx hb dX1_dropWrong_80 (lv_at hl 3 rfl) ?_
    refine pt1_1 C hK hW (rfl : shC 71 = 1) (List.mem_cons_of_mem _ mw237) (fun _ h9 => List.mem_cons_of_mem _ (inU_wsX10 _ h9)) dX1_dropWrong_82 (fun h2 H locs eh2 hW => ?_)
    have hq := hq h2 eh2
    exact k_vret rfl C hW dX1_dropWrong_85 hq
  · have hq := hq.2 c1
    refine lv_aload_n hx hb dX1_dropWrong_15 rfl (lv_at hl 0 rfl) ?_
    refine gt1_0 C hK hW (rfl : shC 71 = 1) (List.mem_cons_of_mem _ mw236) (fun _ h9 => List.mem_cons_of_mem _ (inU_wsX10 _ h9)) dX1_dropWrong_16 ?_
    refine lv_iload hx hb dX1_dropWrong_19 (lv_at hl 4 rfl) ?_
    refine k_iald C hK hW (shC_lt (rfl : shC 72 = 14) (by decide)) (ceC_14 (rfl : shC 72 = 14) (rfl : lnC 72 = 10000)) hq.1 dX1_dropWrong_21 ?_
    have hq := hq.2
    refine lv_topi (fun x6_3 ex6_3 => ?_)
    have hq := hq x6_3 ex6_3
    refine lv_istore (lv' := [(6, .int x6_3), (0, .ref (G.2.2 71)), (1, .long x1), (3, .int x3), (4, .int x4), (5, .int x5)]) hx hb dX1_dropWrong_22 hl (by decide) rfl (fun ls hl => ?_)
    refine lv_aload_n hx hb dX1_dropWrong_24 rfl (lv_at hl 1 rfl) ?_
    refine gt1_4 C hK hW (rfl : shC 71 = 1) (List.mem_cons_of_mem _ mw243) (fun _ h9 => List.mem_cons_of_mem _ (inU_wsX10 _ h9)) dX1_dropWrong_25 ?_
    refine gt10_3 C hK hW (rfl : shC 64 = 10) (List.mem_cons_of_mem _ mw983) (fun _ h9 => List.mem_cons_of_mem _ (inU_wsX100 _ h9)) dX1_dropWrong_28 ?_
    refine lv_iload hx hb dX1_dropWrong_31 (lv_at hl 0 rfl) ?_
    refine k_lald C hK hW (shC_lt (rfl : shC 65 = 15) (by decide)) (ceC_15 (rfl : shC 65 = 15) (rfl : lnC 65 = 10000)) hq.1 dX1_dropWrong_33 ?_
    have hq := hq.2
    refine lv_lload_n hx hb dX1_dropWrong_34 rfl (lv_at hl 2 rfl) ?_
    refine W.lcmp hx hb dX1_dropWrong_35 ?_
    refine lv_if_eq (tgt := 50) hx hb dX1_dropWrong_36 (by decide) (fun c4 => ?_) (fun c4 => ?_)
    · have hq := hq.1 ((lg_cmp_eq _ _).mp c4)
      exact k_X1_dropWrong_50 C hK hX6 hW (lv_sub hl [1, 2, 3, 4, 5, 0] rfl) hq
    · have hq := hq.2 (fun z => c4 ((lg_cmp_eq _ _).mpr z))
      refine lv_aload_n hx hb dX1_dropWrong_39 rfl (lv_at hl 1 rfl) ?_
      refine gt1_5 C hK hW (rfl : shC 71 = 1) (List.mem_cons_of_mem _ mw240) (fun _ h9 => List.mem_cons_of_mem _ (inU_wsX10 _ h9)) dX1_dropWrong_40 ?_
      refine lv_iload hx hb dX1_dropWrong_43 (lv_at hl 0 rfl) ?_
      refine lv_dup2_11 hx hb dX1_dropWrong_45 rfl rfl ?_
      refine k_iald C hK hW (shC_lt (rfl : shC 73 = 14) (by decide)) (ceC_14 (rfl : shC 73 = 14) (rfl : lnC 73 = 10000)) hq.1 dX1_dropWrong_46 ?_
      have hq := hq.2
      refine lv_iconst (v := 1) hx hb dX1_dropWrong_47 (by decide) ?_
      refine lv_iadd hx hb dX1_dropWrong_48 ?_
      refine k_iast okC C hK hW (shC_lt (rfl : shC 73 = 14) (by decide)) (fun g9 => ceC_14 (rfl : shC 73 = 14) (rfl : lnC 73 = 10000)) hq.1 dX1_dropWrong_49 (fun H locs hW => ?_)
      have hq := hq.2
      obtain ⟨h5, eh5⟩ : ∃ z : hp, z = sI h 73 (ix x6_3) ((gI h 73 (ix x6_3)) + 1) := ⟨_, rfl⟩
      rw [← eh5] at hW
      have hq := hq h5 eh5
      exact k_X1_dropWrong_50 C hK hX6 hW (lv_sub hl [1, 2, 3, 4, 5, 0] rfl) hq
theorem k_X1_dropWrong_6 {Q : hp → Prop} {x1 : Int64} {x3 : Int32} (C : kC p s m args meth c cX1_dropWrong 7 none RX1 wUX1_dropWrong) (hK : kK G s) {x4 : Int32} {x5 : Int32} {h : hp} {H : Heap} {locs : List Loc} {ls : Array Slot} (hW : kW SC G h (aS SC G) s H locs) (hl : lv_has ls 7 [(0, .ref (G.2.2 71)), (1, .long x1), (3, .int x3), (4, .int x4), (5, .int x5)]) (hq : w_X1_dropWrong_6 Q x1 x3 x4 x5 h) : W p l e rmX1_dropWrong s m args below meth c H locs 0 0 (MQ below (va_Qv Q (kB SC G) (aS SC G)) args s 0 0 (aS SC G)) (F0 m 6 ls []) := by
  have key := hq (fun (q : Int32 × Int32 × hp) => ∀ (H : Heap) (locs : List Loc) (ls : Array Slot), kW SC G q.2.2 (aS SC G) s H locs → lv_has ls 7 [(0, .ref (G.2.2 71)), (1, .long x1), (3, .int x3), (4, .int q.1), (5, .int q.2.1)] → W p l e rmX1_dropWrong s m args below meth c H locs 0 0 (MQ below (va_Qv Q (kB SC G) (aS SC G)) args s 0 0 (aS SC G)) (F0 m 6 ls []))
    (fun q hq H locs ls hW hl => k_X1_dropWrong_b6 C hK (fun x4 x5 h H locs ls hW hl hI => hI H locs ls hW hl) hW hl hq)
  exact key _ _ _ hW hl
theorem k_X1_dropWrong_0 {Q : hp → Prop} {x1 : Int64} {x3 : Int32} {h : hp} (C : kC p s m args meth c cX1_dropWrong 7 none RX1 wUX1_dropWrong) (hK : kK G s) {H : Heap} {locs : List Loc} {ls : Array Slot} (hW : kW SC G h (aS SC G) s H locs) (hl : lv_has ls 7 [(0, .ref (G.2.2 71)), (1, .long x1), (3, .int x3)]) (hq : w_X1_dropWrong_0 Q x1 x3 h) : W p l e rmX1_dropWrong s m args below meth c H locs 0 0 (MQ below (va_Qv Q (kB SC G) (aS SC G)) args s 0 0 (aS SC G)) (F0 m 0 ls []) := by
  have hx := C.1
  have hb := C.2.1
  unfold w_X1_dropWrong_0 at hq
  refine lv_iconst (v := 0) hx hb dX1_dropWrong_0 (by decide) ?_
  refine lv_istore (lv' := [(4, .int 0), (0, .ref (G.2.2 71)), (1, .long x1), (3, .int x3)]) hx hb dX1_dropWrong_1 hl (by decide) rfl (fun ls hl => ?_)
  refine lv_iconst (v := 0) hx hb dX1_dropWrong_3 (by decide) ?_
  refine lv_istore (lv' := [(5, .int 0), (4, .int 0), (0, .ref (G.2.2 71)), (1, .long x1), (3, .int x3)]) hx hb dX1_dropWrong_4 hl (by decide) rfl (fun ls hl => ?_)
  exact k_X1_dropWrong_6 C hK hW (lv_sub hl [2, 3, 4, 1, 0] rfl) hq
theorem c_X1_dropWrong (l : Launch) (G : wG) (h : hp) (x1 : Int64) (x3 : Int32) (Q : hp → Prop) (hq : w_X1_dropWrong h x1 x3 Q) : ctV l SC G yX1_dropWrong wUX1_dropWrong rmX1_dropWrong h [.ref (G.2.2 71), .long x1, .int x3] Q := by
  refine k_start (cc := cX1_dropWrong) (maxL := 7) (rt := none) (own := RX1) (by decide +kernel) rfl rfl (Nat.le_of_ble_eq_true rfl) ?_
  intro p e s m below meth c ls C hK hW hl
  exact k_X1_dropWrong_0 C hK hW hl hq
theorem k_X1_select_b73 {o1 : Nat} (ho1 : shC o1 = 9) {Q : hp → Prop} {X73 : Int32 × hp → Prop} {x2 : Int32} {x3 : Int32} (C : kC p s m args meth c cX1_select 6 none RX1 wUX1_select) (hK : kK G s) (hX73 : ∀ (x5 : Int32) (h : hp) (H : Heap) (locs : List Loc) (ls : Array Slot), kW SC G h (aS SC G) s H locs → lv_has ls 6 [(0, .ref (G.2.2 71)), (1, .ref (G.2.2 o1)), (2, .int x2), (3, .int x3), (5, .int x5)] → X73 (x5, h) → W p l e rmX1_select s m args below meth c H locs 0 0 (MQ below (va_Qv Q (kB SC G) (aS SC G)) args s 0 0 (aS SC G)) (F0 m 73 ls [])) {x5 : Int32} {h : hp} {H : Heap} {locs : List Loc} {ls : Array Slot} (hW : kW SC G h (aS SC G) s H locs) (hl : lv_has ls 6 [(0, .ref (G.2.2 71)), (1, .ref (G.2.2 o1)), (2, .int x2), (3, .int x3), (5, .int x5)]) (hq : w_X1_select_b73 o1 Q x2 x3 X73 x5 h) : W p l e rmX1_select s m args below meth c H locs 0 0 (MQ below (va_Qv Q (kB SC G) (aS SC G)) args s 0 0 (aS SC G)) (F0 m 73 ls []) := by
  have hx := C.1
  have hb := C.2.1
  unfold w_X1_select_b73 at hq
  refine lv_iload hx hb dX1_select_73 (lv_at hl 4 rfl) ?_
  refine lv_iload_n hx hb dX1_select_75 rfl (lv_at hl 2 rfl) ?_
  refine lv_icmp_ge (tgt := 112) hx hb dX1_select_76 (by decide) (fun c9 => ?_) (fun c9 => ?_)
  · have hq := hq.1 c9
    exact k_vret rfl C hW dX1_select_112 hq
  · have hq := hq.2 c9
    refine lv_aload_n hx hb dX1_select_79 rfl (lv_at hl 0 rfl) ?_
    refine gt1_4 C hK hW (rfl : shC 71 = 1) (List.mem_cons_of_mem _ mw243) (fun _ h9 => List.mem_cons_of_mem _ (inU_wsX10 _ h9)) dX1_select_80 ?_
    refine lv_aload_n hx hb dX1_select_83 rfl (lv_at hl 1 rfl) ?_
    refine gt9_1 C hK hW ho1 (List.mem_cons_of_mem _ mw976) (fun _ h9 => List.mem_cons_of_mem _ (inU_wsX90 _ h9)) dX1_select_84 ?_
    refine lv_iload hx hb dX1_select_87 (lv_at hl 4 rfl) ?_
    refine k_iald C hK hW (shC_lt (sl9_1 ho1).1 (by decide)) (ceC_14 (sl9_1 ho1).1 (sl9_1 ho1).2) hq.1 dX1_select_89 ?_
    have hq := hq.2
    refine lv_i2l (v := (gI h (o1 + 1) (ix x5)).toInt64) hx hb dX1_select_90 rfl ?_
    refine k_cv hW (va_runV (As := [.long ((gI h (o1 + 1) (ix x5)).toInt64)]) (rest := []) (k_fix C) (c_X10_comeBy l G h ((gI h (o1 + 1) (ix x5)).toInt64) _ hq) (cwV 1 C.2.2.2.2.2.1 (gU_V mw978 mw855 mw856 mw34 mw857) rfl rfl rfl (by decide +kernel) ⟨Nat.le_of_ble_eq_true rfl, Nat.le_of_ble_eq_true rfl⟩) (k_preV hK hW (shC_lt (rfl : shC 64 = 10) (by decide)) (ceC_10 (rfl : shC 64 = 10)) (q := (RX10, TX10, 7)) rfl) rfl rfl hl.1 rfl (lv_room (Nat.le_of_ble_eq_true rfl)) dX1_select_91 ⟨Nat.le_refl 0, Nat.le_refl 0⟩) (fun h10 H locs hq hW => ?_)
    refine lv_aload_n hx hb dX1_select_94 rfl (lv_at hl 0 rfl) ?_
    refine lv_aload_n hx hb dX1_select_95 rfl (lv_at hl 1 rfl) ?_
    refine gt9_2 C hK hW ho1 (List.mem_cons_of_mem _ mw977) (fun _ h9 => List.mem_cons_of_mem _ (inU_wsX90 _ h9)) dX1_select_96 ?_
    refine lv_iload hx hb dX1_select_99 (lv_at hl 4 rfl) ?_
    refine k_lald C hK hW (shC_lt (sl9_2 ho1).1 (by decide)) (ceC_15 (sl9_2 ho1).1 (sl9_2 ho1).2) hq.1 dX1_select_101 ?_
    have hq := hq.2
    refine lv_iload_n hx hb dX1_select_102 rfl (lv_at hl 3 rfl) ?_
    refine k_cv hW (va_runV (As := [.long (gL h10 (o1 + 2) (ix x5)), .int x3]) (rest := []) (k_fix C) (c_X1_dropWrong l G h10 (gL h10 (o1 + 2) (ix x5)) x3 _ hq) (cwV 2 C.2.2.2.2.2.1 (gU_V mw979 mw980 mw981 mw38 mw982) rfl rfl rfl (by decide +kernel) ⟨Nat.le_of_ble_eq_true rfl, Nat.le_of_ble_eq_true rfl⟩) (k_preV hK hW (shC_lt (rfl : shC 71 = 1) (by decide)) (ceC_1 (rfl : shC 71 = 1)) (q := (RX1, TX1, 7)) rfl) rfl rfl hl.1 rfl (lv_room (Nat.le_of_ble_eq_true rfl)) dX1_select_103 ⟨Nat.le_refl 0, Nat.le_refl 0⟩) (fun h11 H locs hq hW => ?_)
    obtain ⟨x5_12, ex5_12⟩ : ∃ y : Int32, y = x5 + 1 := ⟨_, rfl⟩
    have hq := hq x5_12 ex5_12
    refine lv_iinc (v := x5_12) (lv' := [(5, .int x5_12), (0, .ref (G.2.2 71)), (1, .ref (G.2.2 o1)), (2, .int x2), (3, .int x3)]) hx hb dX1_select_106 hl (k := 4) rfl (by rw [ex5_12]; rfl) (by decide) rfl (fun ls hl => ?_)
    refine lv_goto (tgt := 73) hx hb dX1_select_109 (by decide) ?_
    exact hX73 _ _ _ _ _ hW (lv_sub hl [1, 2, 3, 4, 0] rfl) hq
theorem k_X1_select_73 {o1 : Nat} (ho1 : shC o1 = 9) {Q : hp → Prop} {x2 : Int32} {x3 : Int32} (C : kC p s m args meth c cX1_select 6 none RX1 wUX1_select) (hK : kK G s) {x5 : Int32} {h : hp} {H : Heap} {locs : List Loc} {ls : Array Slot} (hW : kW SC G h (aS SC G) s H locs) (hl : lv_has ls 6 [(0, .ref (G.2.2 71)), (1, .ref (G.2.2 o1)), (2, .int x2), (3, .int x3), (5, .int x5)]) (hq : w_X1_select_73 o1 Q x2 x3 x5 h) : W p l e rmX1_select s m args below meth c H locs 0 0 (MQ below (va_Qv Q (kB SC G) (aS SC G)) args s 0 0 (aS SC G)) (F0 m 73 ls []) := by
  have key := hq (fun (q : Int32 × hp) => ∀ (H : Heap) (locs : List Loc) (ls : Array Slot), kW SC G q.2 (aS SC G) s H locs → lv_has ls 6 [(0, .ref (G.2.2 71)), (1, .ref (G.2.2 o1)), (2, .int x2), (3, .int x3), (5, .int q.1)] → W p l e rmX1_select s m args below meth c H locs 0 0 (MQ below (va_Qv Q (kB SC G) (aS SC G)) args s 0 0 (aS SC G)) (F0 m 73 ls []))
    (fun q hq H locs ls hW hl => k_X1_select_b73 ho1 C hK (fun x5 h H locs ls hW hl hI => hI H locs ls hW hl) hW hl hq)
  exact key _ _ _ hW hl
theorem k_X1_select_b8 {o1 : Nat} (ho1 : shC o1 = 9) {Q : hp → Prop} {X8 : Int32 × hp → Prop} {x2 : Int32} {x3 : Int32} {x4 : Int32} (C : kC p s m args meth c cX1_select 6 none RX1 wUX1_select) (hK : kK G s) (hX8 : ∀ (x5 : Int32) (h : hp) (H : Heap) (locs : List Loc) (ls : Array Slot), kW SC G h (aS SC G) s H locs → lv_has ls 6 [(0, .ref (G.2.2 71)), (1, .ref (G.2.2 o1)), (2, .int x2), (3, .int x3), (4, .int x4), (5, .int x5)] → X8 (x5, h) → W p l e rmX1_select s m args below meth c H locs 0 0 (MQ below (va_Qv Q (kB SC G) (aS SC G)) args s 0 0 (aS SC G)) (F0 m 8 ls [])) {x5 : Int32} {h : hp} {H : Heap} {locs : List Loc} {ls : Array Slot} (hW : kW SC G h (aS SC G) s H locs) (hl : lv_has ls 6 [(0, .ref (G.2.2 71)), (1, .ref (G.2.2 o1)), (2, .int x2), (3, .int x3), (4, .int x4), (5, .int x5)]) (hq : w_X1_select_b8 o1 Q x2 x3 x4 X8 x5 h) : W p l e rmX1_select s m args below meth c H locs 0 0 (MQ below (va_Qv Q (kB SC G) (aS SC G)) args s 0 0 (aS SC G)) (F0 m 8 ls []) := by
  have hx := C.1
  have hb := C.2.1
  unfold w_X1_select_b8 at hq
  refine lv_iload hx hb dX1_select_8 (lv_at hl 5 rfl) ?_
  refine lv_aload_n hx hb dX1_select_10 rfl (lv_at hl 0 rfl) ?_
  refine gt1_4 C hK hW (rfl : shC 71 = 1) (List.mem_cons_of_mem _ mw243) (fun _ h9 => List.mem_cons_of_mem _ (inU_wsX10 _ h9)) dX1_select_11 ?_
  refine gt10_1 C hK hW (rfl : shC 64 = 10) (List.mem_cons_of_mem _ mw974) (fun _ h9 => List.mem_cons_of_mem _ (inU_wsX100 _ h9)) dX1_select_14 ?_
  refine lv_icmp_ge (tgt := 70) hx hb dX1_select_17 (by decide) (fun c2 => ?_) (fun c2 => ?_)
  · have hq := hq.1 c2
    refine lv_iconst (v := 0) hx hb dX1_select_70 (by decide) ?_
    refine lv_istore (lv' := [(5, .int 0), (0, .ref (G.2.2 71)), (1, .ref (G.2.2 o1)), (2, .int x2), (3, .int x3), (4, .int x4)]) hx hb dX1_select_71 hl (by decide) rfl (fun ls hl => ?_)
    exact k_X1_select_73 ho1 C hK hW (lv_sub hl [1, 2, 3, 4, 0] rfl) hq
  · have hq := hq.2 c2
    refine lv_aload_n hx hb dX1_select_20 rfl (lv_at hl 0 rfl) ?_
    refine gt1_4 C hK hW (rfl : shC 71 = 1) (List.mem_cons_of_mem _ mw243) (fun _ h9 => List.mem_cons_of_mem _ (inU_wsX10 _ h9)) dX1_select_21 ?_
    refine gt10_4 C hK hW (rfl : shC 64 = 10) (List.mem_cons_of_mem _ mw975) (fun _ h9 => List.mem_cons_of_mem _ (inU_wsX100 _ h9)) dX1_select_24 ?_
    refine lv_iload hx hb dX1_select_27 (lv_at hl 5 rfl) ?_
    refine k_iald C hK hW (shC_lt (rfl : shC 66 = 14) (by decide)) (ceC_14 (rfl : shC 66 = 14) (rfl : lnC 66 = 10000)) hq.1 dX1_select_29 ?_
    have hq := hq.2
    refine lv_iload hx hb dX1_select_30 (lv_at hl 4 rfl) ?_
    refine lv_icmp_gt (tgt := 64) hx hb dX1_select_32 (by decide) (fun c3 => ?_) (fun c3 => ?_)
    · have hq := hq.1 c3
      obtain ⟨x5_4, ex5_4⟩ : ∃ y : Int32, y = x5 + 1 := ⟨_, rfl⟩
      have hq := hq x5_4 ex5_4
      refine lv_iinc (v := x5_4) (lv' := [(5, .int x5_4), (0, .ref (G.2.2 71)), (1, .ref (G.2.2 o1)), (2, .int x2), (3, .int x3), (4, .int x4)]) hx hb dX1_select_64 hl (k := 5) rfl (by rw [ex5_4]; rfl) (by decide) rfl (fun ls hl => ?_)
      refine lv_goto (tgt := 8) hx hb dX1_select_67 (by decide) ?_
      exact hX8 _ _ _ _ _ hW (lv_sub hl [1, 2, 3, 4, 5, 0] rfl) hq
    · have hq := hq.2 c3
      refine lv_aload_n hx hb dX1_select_35 rfl (lv_at hl 0 rfl) ?_
      refine gt1_0 C hK hW (rfl : shC 71 = 1) (List.mem_cons_of_mem _ mw236) (fun _ h9 => List.mem_cons_of_mem _ (inU_wsX10 _ h9)) dX1_select_36 ?_
      refine lv_aload_n hx hb dX1_select_39 rfl (lv_at hl 0 rfl) ?_
      refine gt1_1 C hK hW (rfl : shC 71 = 1) (List.mem_cons_of_mem _ mw237) (fun _ h9 => List.mem_cons_of_mem _ (inU_wsX10 _ h9)) dX1_select_40 ?_
      refine lv_iload hx hb dX1_select_43 (lv_at hl 5 rfl) ?_
      refine k_iast okC C hK hW (shC_lt (rfl : shC 72 = 14) (by decide)) (fun g9 => ceC_14 (rfl : shC 72 = 14) (rfl : lnC 72 = 10000)) hq.1 dX1_select_45 (fun H locs hW => ?_)
      have hq := hq.2
      obtain ⟨h5, eh5⟩ : ∃ z : hp, z = sI h 72 (ix (gI h 71 1)) x5 := ⟨_, rfl⟩
      rw [← eh5] at hW
      have hq := hq h5 eh5
      refine lv_aload_n hx hb dX1_select_46 rfl (lv_at hl 0 rfl) ?_
      refine gt1_5 C hK hW (rfl : shC 71 = 1) (List.mem_cons_of_mem _ mw240) (fun _ h9 => List.mem_cons_of_mem _ (inU_wsX10 _ h9)) dX1_select_47 ?_
      refine lv_iload hx hb dX1_select_50 (lv_at hl 5 rfl) ?_
      refine lv_iconst (v := 0) hx hb dX1_select_52 (by decide) ?_
      refine k_iast okC C hK hW (shC_lt (rfl : shC 73 = 14) (by decide)) (fun g9 => ceC_14 (rfl : shC 73 = 14) (rfl : lnC 73 = 10000)) hq.1 dX1_select_53 (fun H locs hW => ?_)
      have hq := hq.2
      obtain ⟨h6, eh6⟩ : ∃ z : hp, z = sI h5 73 (ix x5) 0 := ⟨_, rfl⟩
      rw [← eh6] at hW
      have hq := hq h6 eh6
      refine lv_aload_n hx hb dX1_select_54 rfl (lv_at hl 0 rfl) ?_
      refine lv_dup hx hb dX1_select_55 rfl ?_
      refine gt1_1 C hK hW (rfl : shC 71 = 1) (List.mem_cons_of_mem _ mw237) (fun _ h9 => List.mem_cons_of_mem _ (inU_wsX10 _ h9)) dX1_select_56 ?_
      refine lv_iconst (v := 1) hx hb dX1_select_59 (by decide) ?_
      refine lv_iadd hx hb dX1_select_60 ?_
      refine pt1_1 C hK hW (rfl : shC 71 = 1) (List.mem_cons_of_mem _ mw237) (fun _ h9 => List.mem_cons_of_mem _ (inU_wsX10 _ h9)) dX1_select_61 (fun h7 H locs eh7 hW => ?_)
      have hq := hq h7 eh7
      obtain ⟨x5_8, ex5_8⟩ : ∃ y : Int32, y = x5 + 1 := ⟨_, rfl⟩
      have hq := hq x5_8 ex5_8
      refine lv_iinc (v := x5_8) (lv' := [(5, .int x5_8), (0, .ref (G.2.2 71)), (1, .ref (G.2.2 o1)), (2, .int x2), (3, .int x3), (4, .int x4)]) hx hb dX1_select_64 hl (k := 5) rfl (by rw [ex5_8]; rfl) (by decide) rfl (fun ls hl => ?_)
      refine lv_goto (tgt := 8) hx hb dX1_select_67 (by decide) ?_
      exact hX8 _ _ _ _ _ hW (lv_sub hl [1, 2, 3, 4, 5, 0] rfl) hq
theorem k_X1_select_8 {o1 : Nat} (ho1 : shC o1 = 9) {Q : hp → Prop} {x2 : Int32} {x3 : Int32} {x4 : Int32} (C : kC p s m args meth c cX1_select 6 none RX1 wUX1_select) (hK : kK G s) {x5 : Int32} {h : hp} {H : Heap} {locs : List Loc} {ls : Array Slot} (hW : kW SC G h (aS SC G) s H locs) (hl : lv_has ls 6 [(0, .ref (G.2.2 71)), (1, .ref (G.2.2 o1)), (2, .int x2), (3, .int x3), (4, .int x4), (5, .int x5)]) (hq : w_X1_select_8 o1 Q x2 x3 x4 x5 h) : W p l e rmX1_select s m args below meth c H locs 0 0 (MQ below (va_Qv Q (kB SC G) (aS SC G)) args s 0 0 (aS SC G)) (F0 m 8 ls []) := by
  have key := hq (fun (q : Int32 × hp) => ∀ (H : Heap) (locs : List Loc) (ls : Array Slot), kW SC G q.2 (aS SC G) s H locs → lv_has ls 6 [(0, .ref (G.2.2 71)), (1, .ref (G.2.2 o1)), (2, .int x2), (3, .int x3), (4, .int x4), (5, .int q.1)] → W p l e rmX1_select s m args below meth c H locs 0 0 (MQ below (va_Qv Q (kB SC G) (aS SC G)) args s 0 0 (aS SC G)) (F0 m 8 ls []))
    (fun q hq H locs ls hW hl => k_X1_select_b8 ho1 C hK (fun x5 h H locs ls hW hl hI => hI H locs ls hW hl) hW hl hq)
  exact key _ _ _ hW hl
theorem k_X1_select_0 {o1 : Nat} (ho1 : shC o1 = 9) {Q : hp → Prop} {x2 : Int32} {x3 : Int32} {x4 : Int32} {h : hp} (C : kC p s m args meth c cX1_select 6 none RX1 wUX1_select) (hK : kK G s) {H : Heap} {locs : List Loc} {ls : Array Slot} (hW : kW SC G h (aS SC G) s H locs) (hl : lv_has ls 6 [(0, .ref (G.2.2 71)), (1, .ref (G.2.2 o1)), (2, .int x2), (3, .int x3), (4, .int x4)]) (hq : w_X1_select_0 o1 Q x2 x3 x4 h) : W p l e rmX1_select s m args below meth c H locs 0 0 (MQ below (va_Qv Q (kB SC G) (aS SC G)) args s 0 0 (aS SC G)) (F0 m 0 ls []) := by
  have hx := C.1
  have hb := C.2.1
  unfold w_X1_select_0 at hq
  refine lv_aload_n hx hb dX1_select_0 rfl (lv_at hl 0 rfl) ?_
  refine lv_iconst (v := 0) hx hb dX1_select_1 (by decide) ?_
  refine pt1_1 C hK hW (rfl : shC 71 = 1) (List.mem_cons_of_mem _ mw237) (fun _ h9 => List.mem_cons_of_mem _ (inU_wsX10 _ h9)) dX1_select_2 (fun h1 H locs eh1 hW => ?_)
  have hq := hq h1 eh1
  refine lv_iconst (v := 0) hx hb dX1_select_5 (by decide) ?_
  refine lv_istore (lv' := [(5, .int 0), (0, .ref (G.2.2 71)), (1, .ref (G.2.2 o1)), (2, .int x2), (3, .int x3), (4, .int x4)]) hx hb dX1_select_6 hl (by decide) rfl (fun ls hl => ?_)
  exact k_X1_select_8 ho1 C hK hW (lv_sub hl [1, 2, 3, 4, 5, 0] rfl) hq
theorem c_X1_select (l : Launch) (G : wG) {o1 : Nat} (ho1 : shC o1 = 9) (h : hp) (x2 : Int32) (x3 : Int32) (x4 : Int32) (Q : hp → Prop) (hq : w_X1_select o1 h x2 x3 x4 Q) : ctV l SC G yX1_select wUX1_select rmX1_select h [.ref (G.2.2 71), .ref (G.2.2 o1), .int x2, .int x3, .int x4] Q := by
  refine k_start (cc := cX1_select) (maxL := 6) (rt := none) (own := RX1) (by decide +kernel) rfl rfl (Nat.le_of_ble_eq_true rfl) ?_
  intro p e s m below meth c ls C hK hW hl
  exact k_X1_select_0 ho1 C hK hW hl hq
theorem k_X10_numberAt_b17 {Q : Int32 → Prop} {X17 : Int32 × Int32 → Prop} {x2 : Int32} {x4 : Int32} {h : hp} (C : kC p s m args meth c cX10_numberAt 6 (some .int) RX10 wUX10_numberAt) (hK : kK G s) (hX17 : ∀ (x3 : Int32) (x5 : Int32) (H : Heap) (locs : List Loc) (ls : Array Slot), kW SC G h (aS SC G) s H locs → lv_has ls 6 [(2, .int x2), (3, .int x3), (4, .int x4), (5, .int x5)] → X17 (x3, x5) → W p l e rmX10_numberAt s m args below meth c H locs 0 0 (MQ below (va_Qi (fun r9 h9 => h9 = h ∧ Q r9) (kB SC G) (aS SC G)) args s 0 0 (aS SC G)) (F0 m 17 ls [])) {x3 : Int32} {x5 : Int32} {H : Heap} {locs : List Loc} {ls : Array Slot} (hW : kW SC G h (aS SC G) s H locs) (hl : lv_has ls 6 [(2, .int x2), (3, .int x3), (4, .int x4), (5, .int x5)]) (hq : w_X10_numberAt_b17 Q x2 x4 h X17 x3 x5) : W p l e rmX10_numberAt s m args below meth c H locs 0 0 (MQ below (va_Qi (fun r9 h9 => h9 = h ∧ Q r9) (kB SC G) (aS SC G)) args s 0 0 (aS SC G)) (F0 m 17 ls []) := by
  have hx := C.1
  have hb := C.2.1
  unfold w_X10_numberAt_b17 at hq
  refine lv_iload hx hb dX10_numberAt_17 (lv_at hl 3 rfl) ?_
  refine lv_iload_n hx hb dX10_numberAt_19 rfl (lv_at hl 0 rfl) ?_
  refine lv_icmp_ge (tgt := 34) hx hb dX10_numberAt_20 (by decide) (fun c2 => ?_) (fun c2 => ?_)
  · have hq := hq.1 c2
    refine lv_iload_n hx hb dX10_numberAt_34 rfl (lv_at hl 1 rfl) ?_
    refine lv_iload hx hb dX10_numberAt_35 (lv_at hl 2 rfl) ?_
    refine k_irem hx hb dX10_numberAt_37 hq.1 ?_
    have hq := hq.2
    exact k_iret rfl C hW dX10_numberAt_38 ⟨rfl, hq⟩
  · have hq := hq.2 c2
    refine lv_iload_n hx hb dX10_numberAt_23 rfl (lv_at hl 1 rfl) ?_
    refine lv_iload hx hb dX10_numberAt_24 (lv_at hl 2 rfl) ?_
    refine lv_idiv hx hb dX10_numberAt_26 hq.1 ?_
    have hq := hq.2
    refine lv_topi (fun x3_3 ex3_3 => ?_)
    have hq := hq x3_3 ex3_3
    refine lv_istore_n (lv' := [(3, .int x3_3), (2, .int x2), (4, .int x4), (5, .int x5)]) hx hb dX10_numberAt_27 rfl hl (by decide) rfl (fun ls hl => ?_)
    obtain ⟨x5_4, ex5_4⟩ : ∃ y : Int32, y = x5 + 1 := ⟨_, rfl⟩
    have hq := hq x5_4 ex5_4
    refine lv_iinc (v := x5_4) (lv' := [(5, .int x5_4), (3, .int x3_3), (2, .int x2), (4, .int x4)]) hx hb dX10_numberAt_28 hl (k := 3) rfl (by rw [ex5_4]; rfl) (by decide) rfl (fun ls hl => ?_)
    refine lv_goto (tgt := 17) hx hb dX10_numberAt_31 (by decide) ?_
    exact hX17 _ _ _ _ _ hW (lv_sub hl [2, 1, 3, 0] rfl) hq
theorem k_X10_numberAt_17 {Q : Int32 → Prop} {x2 : Int32} {x4 : Int32} {h : hp} (C : kC p s m args meth c cX10_numberAt 6 (some .int) RX10 wUX10_numberAt) (hK : kK G s) {x3 : Int32} {x5 : Int32} {H : Heap} {locs : List Loc} {ls : Array Slot} (hW : kW SC G h (aS SC G) s H locs) (hl : lv_has ls 6 [(2, .int x2), (3, .int x3), (4, .int x4), (5, .int x5)]) (hq : w_X10_numberAt_17 Q x2 x4 h x3 x5) : W p l e rmX10_numberAt s m args below meth c H locs 0 0 (MQ below (va_Qi (fun r9 h9 => h9 = h ∧ Q r9) (kB SC G) (aS SC G)) args s 0 0 (aS SC G)) (F0 m 17 ls []) := by
  have key := hq (fun (q : Int32 × Int32) => ∀ (H : Heap) (locs : List Loc) (ls : Array Slot), kW SC G h (aS SC G) s H locs → lv_has ls 6 [(2, .int x2), (3, .int q.1), (4, .int x4), (5, .int q.2)] → W p l e rmX10_numberAt s m args below meth c H locs 0 0 (MQ below (va_Qi (fun r9 h9 => h9 = h ∧ Q r9) (kB SC G) (aS SC G)) args s 0 0 (aS SC G)) (F0 m 17 ls []))
    (fun q hq H locs ls hW hl => k_X10_numberAt_b17 C hK (fun x3 x5 H locs ls hW hl hI => hI H locs ls hW hl) hW hl hq)
  exact key _ _ _ hW hl
theorem k_X10_numberAt_0 {Q : Int32 → Prop} {x1 : Int32} {x2 : Int32} {h : hp} (C : kC p s m args meth c cX10_numberAt 6 (some .int) RX10 wUX10_numberAt) (hK : kK G s) {H : Heap} {locs : List Loc} {ls : Array Slot} (hW : kW SC G h (aS SC G) s H locs) (hl : lv_has ls 6 [(0, .ref (G.2.2 64)), (1, .int x1), (2, .int x2)]) (hq : w_X10_numberAt_0 Q x1 x2 h) : W p l e rmX10_numberAt s m args below meth c H locs 0 0 (MQ below (va_Qi (fun r9 h9 => h9 = h ∧ Q r9) (kB SC G) (aS SC G)) args s 0 0 (aS SC G)) (F0 m 0 ls []) := by
  have hx := C.1
  have hb := C.2.1
  unfold w_X10_numberAt_0 at hq
  refine lv_iload_n hx hb dX10_numberAt_0 rfl (lv_at hl 1 rfl) ?_
  refine lv_istore_n (lv' := [(3, .int x1), (0, .ref (G.2.2 64)), (1, .int x1), (2, .int x2)]) hx hb dX10_numberAt_1 rfl hl (by decide) rfl (fun ls hl => ?_)
  refine lv_aload_n hx hb dX10_numberAt_2 rfl (lv_at hl 1 rfl) ?_
  refine gt10_2 C hK hW (rfl : shC 64 = 10) (List.mem_cons_of_mem _ mw218) (fun _ h9 => List.mem_cons_of_mem _ (inU_wsX100 _ h9)) dX10_numberAt_3 ?_
  refine lv_iconst (v := 1) hx hb dX10_numberAt_6 (by decide) ?_
  refine lv_iadd hx hb dX10_numberAt_7 ?_
  refine lv_iconst (v := 2) hx hb dX10_numberAt_8 (by decide) ?_
  refine va_mmax hx hb (C.2.2.2.1.trans hl.1.symm) C.2.2.2.2.1 (C.2.2.2.2.2.1 _ (List.mem_cons_of_mem _ mw920)) (C.2.2.2.2.2.1 _ (List.mem_cons_of_mem _ mw513)) (C.2.2.2.2.2.1 _ (List.mem_cons_of_mem _ mw510)) (C.2.2.2.2.2.1 _ (List.mem_cons_of_mem _ mw514)) (Nat.le_of_ble_eq_true rfl) (Nat.le_of_ble_eq_true rfl) (Nat.le_refl 0) (Nat.le_refl 0) dX10_numberAt_9 ?_
  refine lv_topi (fun x4_1 ex4_1 => ?_)
  have hq := hq x4_1 ex4_1
  refine lv_istore (lv' := [(4, .int x4_1), (3, .int x1), (0, .ref (G.2.2 64)), (1, .int x1), (2, .int x2)]) hx hb dX10_numberAt_12 hl (by decide) rfl (fun ls hl => ?_)
  refine lv_iconst (v := 0) hx hb dX10_numberAt_14 (by decide) ?_
  refine lv_istore (lv' := [(5, .int 0), (4, .int x4_1), (3, .int x1), (0, .ref (G.2.2 64)), (1, .int x1), (2, .int x2)]) hx hb dX10_numberAt_15 hl (by decide) rfl (fun ls hl => ?_)
  exact k_X10_numberAt_17 C hK hW (lv_sub hl [5, 2, 1, 0] rfl) hq
theorem c_X10_numberAt (l : Launch) (G : wG) (h : hp) (x1 : Int32) (x2 : Int32) (Q : Int32 → Prop) (hq : w_X10_numberAt h x1 x2 Q) : ctI l SC G yX10_numberAt wUX10_numberAt rmX10_numberAt h [.ref (G.2.2 64), .int x1, .int x2] (fun r9 h9 => h9 = h ∧ Q r9) := by
  refine k_start (cc := cX10_numberAt) (maxL := 6) (rt := (some .int)) (own := RX10) (by decide +kernel) rfl rfl (Nat.le_of_ble_eq_true rfl) ?_
  intro p e s m below meth c ls C hK hW hl
  exact k_X10_numberAt_0 C hK hW hl hq
theorem k_X1_leastAt_b5 {Q : Int32 → Prop} {X5 : Int32 × Int32 → Prop} {x1 : Int32} {h : hp} (C : kC p s m args meth c cX1_leastAt 4 (some .int) RX1 wUX1_leastAt) (hK : kK G s) (hX5 : ∀ (x2 : Int32) (x3 : Int32) (H : Heap) (locs : List Loc) (ls : Array Slot), kW SC G h (aS SC G) s H locs → lv_has ls 4 [(0, .ref (G.2.2 71)), (1, .int x1), (2, .int x2), (3, .int x3)] → X5 (x2, x3) → W p l e rmX1_leastAt s m args below meth c H locs 0 0 (MQ below (va_Qi (fun r9 h9 => h9 = h ∧ Q r9) (kB SC G) (aS SC G)) args s 0 0 (aS SC G)) (F0 m 5 ls [])) {x2 : Int32} {x3 : Int32} {H : Heap} {locs : List Loc} {ls : Array Slot} (hW : kW SC G h (aS SC G) s H locs) (hl : lv_has ls 4 [(0, .ref (G.2.2 71)), (1, .int x1), (2, .int x2), (3, .int x3)]) (hq : w_X1_leastAt_b5 Q x1 h X5 x2 x3) : W p l e rmX1_leastAt s m args below meth c H locs 0 0 (MQ below (va_Qi (fun r9 h9 => h9 = h ∧ Q r9) (kB SC G) (aS SC G)) args s 0 0 (aS SC G)) (F0 m 5 ls []) := by
  have hx := C.1
  have hb := C.2.1
  unfold w_X1_leastAt_b5 at hq
  refine lv_iload_n hx hb dX1_leastAt_5 rfl (lv_at hl 3 rfl) ?_
  refine lv_aload_n hx hb dX1_leastAt_6 rfl (lv_at hl 0 rfl) ?_
  refine gt1_1 C hK hW (rfl : shC 71 = 1) (List.mem_cons_of_mem _ mw237) (fun _ h9 => List.mem_cons_of_mem _ (inU_wsX10 _ h9)) dX1_leastAt_7 ?_
  refine lv_icmp_ge (tgt := 38) hx hb dX1_leastAt_10 (by decide) (fun c1 => ?_) (fun c1 => ?_)
  · have hq := hq.1 c1
    refine lv_iload_n hx hb dX1_leastAt_38 rfl (lv_at hl 2 rfl) ?_
    exact k_iret rfl C hW dX1_leastAt_39 ⟨rfl, hq⟩
  · have hq := hq.2 c1
    refine lv_iload_n hx hb dX1_leastAt_13 rfl (lv_at hl 2 rfl) ?_
    refine lv_aload_n hx hb dX1_leastAt_14 rfl (lv_at hl 0 rfl) ?_
    refine gt1_4 C hK hW (rfl : shC 71 = 1) (List.mem_cons_of_mem _ mw243) (fun _ h9 => List.mem_cons_of_mem _ (inU_wsX10 _ h9)) dX1_leastAt_15 ?_
    refine lv_aload_n hx hb dX1_leastAt_18 rfl (lv_at hl 0 rfl) ?_
    refine gt1_0 C hK hW (rfl : shC 71 = 1) (List.mem_cons_of_mem _ mw236) (fun _ h9 => List.mem_cons_of_mem _ (inU_wsX10 _ h9)) dX1_leastAt_19 ?_
    refine lv_iload_n hx hb dX1_leastAt_22 rfl (lv_at hl 3 rfl) ?_
    refine k_iald C hK hW (shC_lt (rfl : shC 72 = 14) (by decide)) (ceC_14 (rfl : shC 72 = 14) (rfl : lnC 72 = 10000)) hq.1 dX1_leastAt_23 ?_
    have hq := hq.2
    refine lv_iload_n hx hb dX1_leastAt_24 rfl (lv_at hl 1 rfl) ?_
    refine k_ci hW (va_runV (As := [.int (gI h 72 (ix x3)), .int x1]) (rest := [.int x2]) (k_fix C) (c_X10_numberAt l G h (gI h 72 (ix x3)) x1 _ hq) (cwV 2 C.2.2.2.2.2.1 (gU_V mw1024 mw917 mw918 mw34 mw919) rfl rfl rfl (by decide +kernel) ⟨Nat.le_of_ble_eq_true rfl, Nat.le_of_ble_eq_true rfl⟩) (k_preV hK hW (shC_lt (rfl : shC 64 = 10) (by decide)) (ceC_10 (rfl : shC 64 = 10)) (q := (RX10, TX10, 7)) rfl) rfl rfl hl.1 rfl (lv_room (Nat.le_of_ble_eq_true rfl)) dX1_leastAt_25 ⟨Nat.le_refl 0, Nat.le_refl 0⟩) (fun r2 h3 H locs hq hW => ?_)
    rw [hq.1] at hW
    have hq := hq.2
    refine va_mmin hx hb (C.2.2.2.1.trans hl.1.symm) C.2.2.2.2.1 (C.2.2.2.2.2.1 _ (List.mem_cons_of_mem _ mw1023)) (C.2.2.2.2.2.1 _ (List.mem_cons_of_mem _ mw509)) (C.2.2.2.2.2.1 _ (List.mem_cons_of_mem _ mw510)) (C.2.2.2.2.2.1 _ (List.mem_cons_of_mem _ mw511)) (Nat.le_of_ble_eq_true rfl) (Nat.le_of_ble_eq_true rfl) (Nat.le_refl 0) (Nat.le_refl 0) dX1_leastAt_28 ?_
    refine lv_topi (fun x2_4 ex2_4 => ?_)
    have hq := hq x2_4 ex2_4
    refine lv_istore_n (lv' := [(2, .int x2_4), (0, .ref (G.2.2 71)), (1, .int x1), (3, .int x3)]) hx hb dX1_leastAt_31 rfl hl (by decide) rfl (fun ls hl => ?_)
    obtain ⟨x3_5, ex3_5⟩ : ∃ y : Int32, y = x3 + 1 := ⟨_, rfl⟩
    have hq := hq x3_5 ex3_5
    refine lv_iinc (v := x3_5) (lv' := [(3, .int x3_5), (2, .int x2_4), (0, .ref (G.2.2 71)), (1, .int x1)]) hx hb dX1_leastAt_32 hl (k := 3) rfl (by rw [ex3_5]; rfl) (by decide) rfl (fun ls hl => ?_)
    refine lv_goto (tgt := 5) hx hb dX1_leastAt_35 (by decide) ?_
    exact hX5 _ _ _ _ _ hW (lv_sub hl [2, 3, 1, 0] rfl) hq
theorem k_X1_leastAt_5 {Q : Int32 → Prop} {x1 : Int32} {h : hp} (C : kC p s m args meth c cX1_leastAt 4 (some .int) RX1 wUX1_leastAt) (hK : kK G s) {x2 : Int32} {x3 : Int32} {H : Heap} {locs : List Loc} {ls : Array Slot} (hW : kW SC G h (aS SC G) s H locs) (hl : lv_has ls 4 [(0, .ref (G.2.2 71)), (1, .int x1), (2, .int x2), (3, .int x3)]) (hq : w_X1_leastAt_5 Q x1 h x2 x3) : W p l e rmX1_leastAt s m args below meth c H locs 0 0 (MQ below (va_Qi (fun r9 h9 => h9 = h ∧ Q r9) (kB SC G) (aS SC G)) args s 0 0 (aS SC G)) (F0 m 5 ls []) := by
  have key := hq (fun (q : Int32 × Int32) => ∀ (H : Heap) (locs : List Loc) (ls : Array Slot), kW SC G h (aS SC G) s H locs → lv_has ls 4 [(0, .ref (G.2.2 71)), (1, .int x1), (2, .int q.1), (3, .int q.2)] → W p l e rmX1_leastAt s m args below meth c H locs 0 0 (MQ below (va_Qi (fun r9 h9 => h9 = h ∧ Q r9) (kB SC G) (aS SC G)) args s 0 0 (aS SC G)) (F0 m 5 ls []))
    (fun q hq H locs ls hW hl => k_X1_leastAt_b5 C hK (fun x2 x3 H locs ls hW hl hI => hI H locs ls hW hl) hW hl hq)
  exact key _ _ _ hW hl
theorem k_X1_leastAt_0 {Q : Int32 → Prop} {x1 : Int32} {h : hp} (C : kC p s m args meth c cX1_leastAt 4 (some .int) RX1 wUX1_leastAt) (hK : kK G s) {H : Heap} {locs : List Loc} {ls : Array Slot} (hW : kW SC G h (aS SC G) s H locs) (hl : lv_has ls 4 [(0, .ref (G.2.2 71)), (1, .int x1)]) (hq : w_X1_leastAt_0 Q x1 h) : W p l e rmX1_leastAt s m args below meth c H locs 0 0 (MQ below (va_Qi (fun r9 h9 => h9 = h ∧ Q r9) (kB SC G) (aS SC G)) args s 0 0 (aS SC G)) (F0 m 0 ls []) := by
  have hx := C.1
  have hb := C.2.1
  unfold w_X1_leastAt_0 at hq
  refine lv_bipush (v := 9) hx hb dX1_leastAt_0 (by decide) ?_
  refine lv_istore_n (lv' := [(2, .int 9), (0, .ref (G.2.2 71)), (1, .int x1)]) hx hb dX1_leastAt_2 rfl hl (by decide) rfl (fun ls hl => ?_)
  refine lv_iconst (v := 0) hx hb dX1_leastAt_3 (by decide) ?_
  refine lv_istore_n (lv' := [(3, .int 0), (2, .int 9), (0, .ref (G.2.2 71)), (1, .int x1)]) hx hb dX1_leastAt_4 rfl hl (by decide) rfl (fun ls hl => ?_)
  exact k_X1_leastAt_5 C hK hW (lv_sub hl [2, 3, 1, 0] rfl) hq
theorem c_X1_leastAt (l : Launch) (G : wG) (h : hp) (x1 : Int32) (Q : Int32 → Prop) (hq : w_X1_leastAt h x1 Q) : ctI l SC G yX1_leastAt wUX1_leastAt rmX1_leastAt h [.ref (G.2.2 71), .int x1] (fun r9 h9 => h9 = h ∧ Q r9) := by
  refine k_start (cc := cX1_leastAt) (maxL := 4) (rt := (some .int)) (own := RX1) (by decide +kernel) rfl rfl (Nat.le_of_ble_eq_true rfl) ?_
  intro p e s m below meth c ls C hK hW hl
  exact k_X1_leastAt_0 C hK hW hl hq
theorem k_X1_greatestAt_b4 {Q : Int32 → Prop} {X4 : Int32 × Int32 → Prop} {x1 : Int32} {h : hp} (C : kC p s m args meth c cX1_greatestAt 4 (some .int) RX1 wUX1_greatestAt) (hK : kK G s) (hX4 : ∀ (x2 : Int32) (x3 : Int32) (H : Heap) (locs : List Loc) (ls : Array Slot), kW SC G h (aS SC G) s H locs → lv_has ls 4 [(0, .ref (G.2.2 71)), (1, .int x1), (2, .int x2), (3, .int x3)] → X4 (x2, x3) → W p l e rmX1_greatestAt s m args below meth c H locs 0 0 (MQ below (va_Qi (fun r9 h9 => h9 = h ∧ Q r9) (kB SC G) (aS SC G)) args s 0 0 (aS SC G)) (F0 m 4 ls [])) {x2 : Int32} {x3 : Int32} {H : Heap} {locs : List Loc} {ls : Array Slot} (hW : kW SC G h (aS SC G) s H locs) (hl : lv_has ls 4 [(0, .ref (G.2.2 71)), (1, .int x1), (2, .int x2), (3, .int x3)]) (hq : w_X1_greatestAt_b4 Q x1 h X4 x2 x3) : W p l e rmX1_greatestAt s m args below meth c H locs 0 0 (MQ below (va_Qi (fun r9 h9 => h9 = h ∧ Q r9) (kB SC G) (aS SC G)) args s 0 0 (aS SC G)) (F0 m 4 ls []) := by
  have hx := C.1
  have hb := C.2.1
  unfold w_X1_greatestAt_b4 at hq
  refine lv_iload_n hx hb dX1_greatestAt_4 rfl (lv_at hl 3 rfl) ?_
  refine lv_aload_n hx hb dX1_greatestAt_5 rfl (lv_at hl 0 rfl) ?_
  refine gt1_1 C hK hW (rfl : shC 71 = 1) (List.mem_cons_of_mem _ mw237) (fun _ h9 => List.mem_cons_of_mem _ (inU_wsX10 _ h9)) dX1_greatestAt_6 ?_
  refine lv_icmp_ge (tgt := 37) hx hb dX1_greatestAt_9 (by decide) (fun c1 => ?_) (fun c1 => ?_)
  · have hq := hq.1 c1
    refine lv_iload_n hx hb dX1_greatestAt_37 rfl (lv_at hl 2 rfl) ?_
    exact k_iret rfl C hW dX1_greatestAt_38 ⟨rfl, hq⟩
  · have hq := hq.2 c1
    refine lv_iload_n hx hb dX1_greatestAt_12 rfl (lv_at hl 2 rfl) ?_
    refine lv_aload_n hx hb dX1_greatestAt_13 rfl (lv_at hl 0 rfl) ?_
    refine gt1_4 C hK hW (rfl : shC 71 = 1) (List.mem_cons_of_mem _ mw243) (fun _ h9 => List.mem_cons_of_mem _ (inU_wsX10 _ h9)) dX1_greatestAt_14 ?_
    refine lv_aload_n hx hb dX1_greatestAt_17 rfl (lv_at hl 0 rfl) ?_
    refine gt1_0 C hK hW (rfl : shC 71 = 1) (List.mem_cons_of_mem _ mw236) (fun _ h9 => List.mem_cons_of_mem _ (inU_wsX10 _ h9)) dX1_greatestAt_18 ?_
    refine lv_iload_n hx hb dX1_greatestAt_21 rfl (lv_at hl 3 rfl) ?_
    refine k_iald C hK hW (shC_lt (rfl : shC 72 = 14) (by decide)) (ceC_14 (rfl : shC 72 = 14) (rfl : lnC 72 = 10000)) hq.1 dX1_greatestAt_22 ?_
    have hq := hq.2
    refine lv_iload_n hx hb dX1_greatestAt_23 rfl (lv_at hl 1 rfl) ?_
    refine k_ci hW (va_runV (As := [.int (gI h 72 (ix x3)), .int x1]) (rest := [.int x2]) (k_fix C) (c_X10_numberAt l G h (gI h 72 (ix x3)) x1 _ hq) (cwV 2 C.2.2.2.2.2.1 (gU_V mw1024 mw917 mw918 mw34 mw919) rfl rfl rfl (by decide +kernel) ⟨Nat.le_of_ble_eq_true rfl, Nat.le_of_ble_eq_true rfl⟩) (k_preV hK hW (shC_lt (rfl : shC 64 = 10) (by decide)) (ceC_10 (rfl : shC 64 = 10)) (q := (RX10, TX10, 7)) rfl) rfl rfl hl.1 rfl (lv_room (Nat.le_of_ble_eq_true rfl)) dX1_greatestAt_24 ⟨Nat.le_refl 0, Nat.le_refl 0⟩) (fun r2 h3 H locs hq hW => ?_)
    rw [hq.1] at hW
    have hq := hq.2
    refine va_mmax hx hb (C.2.2.2.1.trans hl.1.symm) C.2.2.2.2.1 (C.2.2.2.2.2.1 _ (List.mem_cons_of_mem _ mw1029)) (C.2.2.2.2.2.1 _ (List.mem_cons_of_mem _ mw513)) (C.2.2.2.2.2.1 _ (List.mem_cons_of_mem _ mw510)) (C.2.2.2.2.2.1 _ (List.mem_cons_of_mem _ mw514)) (Nat.le_of_ble_eq_true rfl) (Nat.le_of_ble_eq_true rfl) (Nat.le_refl 0) (Nat.le_refl 0) dX1_greatestAt_27 ?_
    refine lv_topi (fun x2_4 ex2_4 => ?_)
    have hq := hq x2_4 ex2_4
    refine lv_istore_n (lv' := [(2, .int x2_4), (0, .ref (G.2.2 71)), (1, .int x1), (3, .int x3)]) hx hb dX1_greatestAt_30 rfl hl (by decide) rfl (fun ls hl => ?_)
    obtain ⟨x3_5, ex3_5⟩ : ∃ y : Int32, y = x3 + 1 := ⟨_, rfl⟩
    have hq := hq x3_5 ex3_5
    refine lv_iinc (v := x3_5) (lv' := [(3, .int x3_5), (2, .int x2_4), (0, .ref (G.2.2 71)), (1, .int x1)]) hx hb dX1_greatestAt_31 hl (k := 3) rfl (by rw [ex3_5]; rfl) (by decide) rfl (fun ls hl => ?_)
    refine lv_goto (tgt := 4) hx hb dX1_greatestAt_34 (by decide) ?_
    exact hX4 _ _ _ _ _ hW (lv_sub hl [2, 3, 1, 0] rfl) hq
theorem k_X1_greatestAt_4 {Q : Int32 → Prop} {x1 : Int32} {h : hp} (C : kC p s m args meth c cX1_greatestAt 4 (some .int) RX1 wUX1_greatestAt) (hK : kK G s) {x2 : Int32} {x3 : Int32} {H : Heap} {locs : List Loc} {ls : Array Slot} (hW : kW SC G h (aS SC G) s H locs) (hl : lv_has ls 4 [(0, .ref (G.2.2 71)), (1, .int x1), (2, .int x2), (3, .int x3)]) (hq : w_X1_greatestAt_4 Q x1 h x2 x3) : W p l e rmX1_greatestAt s m args below meth c H locs 0 0 (MQ below (va_Qi (fun r9 h9 => h9 = h ∧ Q r9) (kB SC G) (aS SC G)) args s 0 0 (aS SC G)) (F0 m 4 ls []) := by
  have key := hq (fun (q : Int32 × Int32) => ∀ (H : Heap) (locs : List Loc) (ls : Array Slot), kW SC G h (aS SC G) s H locs → lv_has ls 4 [(0, .ref (G.2.2 71)), (1, .int x1), (2, .int q.1), (3, .int q.2)] → W p l e rmX1_greatestAt s m args below meth c H locs 0 0 (MQ below (va_Qi (fun r9 h9 => h9 = h ∧ Q r9) (kB SC G) (aS SC G)) args s 0 0 (aS SC G)) (F0 m 4 ls []))
    (fun q hq H locs ls hW hl => k_X1_greatestAt_b4 C hK (fun x2 x3 H locs ls hW hl hI => hI H locs ls hW hl) hW hl hq)
  exact key _ _ _ hW hl
theorem k_X1_greatestAt_0 {Q : Int32 → Prop} {x1 : Int32} {h : hp} (C : kC p s m args meth c cX1_greatestAt 4 (some .int) RX1 wUX1_greatestAt) (hK : kK G s) {H : Heap} {locs : List Loc} {ls : Array Slot} (hW : kW SC G h (aS SC G) s H locs) (hl : lv_has ls 4 [(0, .ref (G.2.2 71)), (1, .int x1)]) (hq : w_X1_greatestAt_0 Q x1 h) : W p l e rmX1_greatestAt s m args below meth c H locs 0 0 (MQ below (va_Qi (fun r9 h9 => h9 = h ∧ Q r9) (kB SC G) (aS SC G)) args s 0 0 (aS SC G)) (F0 m 0 ls []) := by
  have hx := C.1
  have hb := C.2.1
  unfold w_X1_greatestAt_0 at hq
  refine lv_iconst (v := 0) hx hb dX1_greatestAt_0 (by decide) ?_
  refine lv_istore_n (lv' := [(2, .int 0), (0, .ref (G.2.2 71)), (1, .int x1)]) hx hb dX1_greatestAt_1 rfl hl (by decide) rfl (fun ls hl => ?_)
  refine lv_iconst (v := 0) hx hb dX1_greatestAt_2 (by decide) ?_
  refine lv_istore_n (lv' := [(3, .int 0), (2, .int 0), (0, .ref (G.2.2 71)), (1, .int x1)]) hx hb dX1_greatestAt_3 rfl hl (by decide) rfl (fun ls hl => ?_)
  exact k_X1_greatestAt_4 C hK hW (lv_sub hl [2, 3, 1, 0] rfl) hq
theorem c_X1_greatestAt (l : Launch) (G : wG) (h : hp) (x1 : Int32) (Q : Int32 → Prop) (hq : w_X1_greatestAt h x1 Q) : ctI l SC G yX1_greatestAt wUX1_greatestAt rmX1_greatestAt h [.ref (G.2.2 71), .int x1] (fun r9 h9 => h9 = h ∧ Q r9) := by
  refine k_start (cc := cX1_greatestAt) (maxL := 4) (rt := (some .int)) (own := RX1) (by decide +kernel) rfl rfl (Nat.le_of_ble_eq_true rfl) ?_
  intro p e s m below meth c ls C hK hW hl
  exact k_X1_greatestAt_0 C hK hW hl hq
theorem k_X1_surePlaces_b4 {Q : Int32 → Prop} {X4 : Int32 × Int32 → Prop} {h : hp} (C : kC p s m args meth c cX1_surePlaces 3 (some .int) RX1 wUX1_surePlaces) (hK : kK G s) (hX4 : ∀ (x1 : Int32) (x2 : Int32) (H : Heap) (locs : List Loc) (ls : Array Slot), kW SC G h (aS SC G) s H locs → lv_has ls 3 [(0, .ref (G.2.2 71)), (1, .int x1), (2, .int x2)] → X4 (x1, x2) → W p l e rmX1_surePlaces s m args below meth c H locs 0 0 (MQ below (va_Qi (fun r9 h9 => h9 = h ∧ Q r9) (kB SC G) (aS SC G)) args s 0 0 (aS SC G)) (F0 m 4 ls [])) {x1 : Int32} {x2 : Int32} {H : Heap} {locs : List Loc} {ls : Array Slot} (hW : kW SC G h (aS SC G) s H locs) (hl : lv_has ls 3 [(0, .ref (G.2.2 71)), (1, .int x1), (2, .int x2)]) (hq : w_X1_surePlaces_b4 Q h X4 x1 x2) : W p l e rmX1_surePlaces s m args below meth c H locs 0 0 (MQ below (va_Qi (fun r9 h9 => h9 = h ∧ Q r9) (kB SC G) (aS SC G)) args s 0 0 (aS SC G)) (F0 m 4 ls []) := by
  have hx := C.1
  have hb := C.2.1
  unfold w_X1_surePlaces_b4 at hq
  refine lv_iload_n hx hb dX1_surePlaces_4 rfl (lv_at hl 2 rfl) ?_
  refine lv_aload_n hx hb dX1_surePlaces_5 rfl (lv_at hl 0 rfl) ?_
  refine gt1_4 C hK hW (rfl : shC 71 = 1) (List.mem_cons_of_mem _ mw243) (fun _ h9 => List.mem_cons_of_mem _ (inU_wsX10 _ h9)) dX1_surePlaces_6 ?_
  refine gt10_0 C hK hW (rfl : shC 64 = 10) (List.mem_cons_of_mem _ mw1018) (fun _ h9 => List.mem_cons_of_mem _ (inU_wsX100 _ h9)) dX1_surePlaces_9 ?_
  refine lv_icmp_ge (tgt := 47) hx hb dX1_surePlaces_12 (by decide) (fun c1 => ?_) (fun c1 => ?_)
  · have hq := hq.1 c1
    refine lv_iload_n hx hb dX1_surePlaces_47 rfl (lv_at hl 1 rfl) ?_
    exact k_iret rfl C hW dX1_surePlaces_48 ⟨rfl, hq⟩
  · have hq := hq.2 c1
    refine lv_aload_n hx hb dX1_surePlaces_15 rfl (lv_at hl 0 rfl) ?_
    refine gt1_1 C hK hW (rfl : shC 71 = 1) (List.mem_cons_of_mem _ mw237) (fun _ h9 => List.mem_cons_of_mem _ (inU_wsX10 _ h9)) dX1_surePlaces_16 ?_
    refine lv_if_le (tgt := 47) hx hb dX1_surePlaces_19 (by decide) (fun c2 => ?_) (fun c2 => ?_)
    · have hq := hq.1 c2
      refine lv_iload_n hx hb dX1_surePlaces_47 rfl (lv_at hl 1 rfl) ?_
      exact k_iret rfl C hW dX1_surePlaces_48 ⟨rfl, hq⟩
    · have hq := hq.2 c2
      refine lv_aload_n hx hb dX1_surePlaces_22 rfl (lv_at hl 0 rfl) ?_
      refine lv_iload_n hx hb dX1_surePlaces_23 rfl (lv_at hl 2 rfl) ?_
      refine k_ci hW (va_runV (As := [.int x2]) (rest := []) (k_fix C) (c_X1_leastAt l G h x2 _ hq) (cwV 1 C.2.2.2.2.2.1 (gU_V mw1019 mw1020 mw1021 mw38 mw1022) rfl rfl rfl (by decide +kernel) ⟨Nat.le_of_ble_eq_true rfl, Nat.le_of_ble_eq_true rfl⟩) (k_preV hK hW (shC_lt (rfl : shC 71 = 1) (by decide)) (ceC_1 (rfl : shC 71 = 1)) (q := (RX1, TX1, 7)) rfl) rfl rfl hl.1 rfl (lv_room (Nat.le_of_ble_eq_true rfl)) dX1_surePlaces_24 ⟨Nat.le_refl 0, Nat.le_refl 0⟩) (fun r3 h4 H locs hq hW => ?_)
      rw [hq.1] at hW
      have hq := hq.2
      refine lv_aload_n hx hb dX1_surePlaces_27 rfl (lv_at hl 0 rfl) ?_
      refine lv_iload_n hx hb dX1_surePlaces_28 rfl (lv_at hl 2 rfl) ?_
      refine k_ci hW (va_runV (As := [.int x2]) (rest := [.int r3]) (k_fix C) (c_X1_greatestAt l G h x2 _ hq) (cwV 1 C.2.2.2.2.2.1 (gU_V mw1025 mw1026 mw1027 mw38 mw1028) rfl rfl rfl (by decide +kernel) ⟨Nat.le_of_ble_eq_true rfl, Nat.le_of_ble_eq_true rfl⟩) (k_preV hK hW (shC_lt (rfl : shC 71 = 1) (by decide)) (ceC_1 (rfl : shC 71 = 1)) (q := (RX1, TX1, 7)) rfl) rfl rfl hl.1 rfl (lv_room (Nat.le_of_ble_eq_true rfl)) dX1_surePlaces_29 ⟨Nat.le_refl 0, Nat.le_refl 0⟩) (fun r5 h6 H locs hq hW => ?_)
      rw [hq.1] at hW
      have hq := hq.2
      refine lv_icmp_ne (tgt := 41) hx hb dX1_surePlaces_32 (by decide) (fun c7 => ?_) (fun c7 => ?_)
      · have hq := hq.1 c7
        obtain ⟨x2_8, ex2_8⟩ : ∃ y : Int32, y = x2 + 1 := ⟨_, rfl⟩
        have hq := hq x2_8 ex2_8
        refine lv_iinc (v := x2_8) (lv' := [(2, .int x2_8), (0, .ref (G.2.2 71)), (1, .int x1)]) hx hb dX1_surePlaces_41 hl (k := 2) rfl (by rw [ex2_8]; rfl) (by decide) rfl (fun ls hl => ?_)
        refine lv_goto (tgt := 4) hx hb dX1_surePlaces_44 (by decide) ?_
        exact hX4 _ _ _ _ _ hW (lv_sub hl [1, 2, 0] rfl) hq
      · have hq := hq.2 c7
        refine lv_iload_n hx hb dX1_surePlaces_35 rfl (lv_at hl 1 rfl) ?_
        refine lv_iconst (v := 1) hx hb dX1_surePlaces_36 (by decide) ?_
        refine lv_iload_n hx hb dX1_surePlaces_37 rfl (lv_at hl 2 rfl) ?_
        refine k_ishl hx hb dX1_surePlaces_38 ?_
        refine lv_ior hx hb dX1_surePlaces_39 ?_
        refine lv_topi (fun x1_9 ex1_9 => ?_)
        have hq := hq x1_9 ex1_9
        refine lv_istore_n (lv' := [(1, .int x1_9), (0, .ref (G.2.2 71)), (2, .int x2)]) hx hb dX1_surePlaces_40 rfl hl (by decide) rfl (fun ls hl => ?_)
        obtain ⟨x2_10, ex2_10⟩ : ∃ y : Int32, y = x2 + 1 := ⟨_, rfl⟩
        have hq := hq x2_10 ex2_10
        refine lv_iinc (v := x2_10) (lv' := [(2, .int x2_10), (1, .int x1_9), (0, .ref (G.2.2 71))]) hx hb dX1_surePlaces_41 hl (k := 2) rfl (by rw [ex2_10]; rfl) (by decide) rfl (fun ls hl => ?_)
        refine lv_goto (tgt := 4) hx hb dX1_surePlaces_44 (by decide) ?_
        exact hX4 _ _ _ _ _ hW (lv_sub hl [2, 1, 0] rfl) hq
theorem k_X1_surePlaces_4 {Q : Int32 → Prop} {h : hp} (C : kC p s m args meth c cX1_surePlaces 3 (some .int) RX1 wUX1_surePlaces) (hK : kK G s) {x1 : Int32} {x2 : Int32} {H : Heap} {locs : List Loc} {ls : Array Slot} (hW : kW SC G h (aS SC G) s H locs) (hl : lv_has ls 3 [(0, .ref (G.2.2 71)), (1, .int x1), (2, .int x2)]) (hq : w_X1_surePlaces_4 Q h x1 x2) : W p l e rmX1_surePlaces s m args below meth c H locs 0 0 (MQ below (va_Qi (fun r9 h9 => h9 = h ∧ Q r9) (kB SC G) (aS SC G)) args s 0 0 (aS SC G)) (F0 m 4 ls []) := by
  have key := hq (fun (q : Int32 × Int32) => ∀ (H : Heap) (locs : List Loc) (ls : Array Slot), kW SC G h (aS SC G) s H locs → lv_has ls 3 [(0, .ref (G.2.2 71)), (1, .int q.1), (2, .int q.2)] → W p l e rmX1_surePlaces s m args below meth c H locs 0 0 (MQ below (va_Qi (fun r9 h9 => h9 = h ∧ Q r9) (kB SC G) (aS SC G)) args s 0 0 (aS SC G)) (F0 m 4 ls []))
    (fun q hq H locs ls hW hl => k_X1_surePlaces_b4 C hK (fun x1 x2 H locs ls hW hl hI => hI H locs ls hW hl) hW hl hq)
  exact key _ _ _ hW hl
theorem k_X1_surePlaces_0 {Q : Int32 → Prop} {h : hp} (C : kC p s m args meth c cX1_surePlaces 3 (some .int) RX1 wUX1_surePlaces) (hK : kK G s) {H : Heap} {locs : List Loc} {ls : Array Slot} (hW : kW SC G h (aS SC G) s H locs) (hl : lv_has ls 3 [(0, .ref (G.2.2 71))]) (hq : w_X1_surePlaces_0 Q h) : W p l e rmX1_surePlaces s m args below meth c H locs 0 0 (MQ below (va_Qi (fun r9 h9 => h9 = h ∧ Q r9) (kB SC G) (aS SC G)) args s 0 0 (aS SC G)) (F0 m 0 ls []) := by
  have hx := C.1
  have hb := C.2.1
  unfold w_X1_surePlaces_0 at hq
  refine lv_iconst (v := 0) hx hb dX1_surePlaces_0 (by decide) ?_
  refine lv_istore_n (lv' := [(1, .int 0), (0, .ref (G.2.2 71))]) hx hb dX1_surePlaces_1 rfl hl (by decide) rfl (fun ls hl => ?_)
  refine lv_iconst (v := 0) hx hb dX1_surePlaces_2 (by decide) ?_
  refine lv_istore_n (lv' := [(2, .int 0), (1, .int 0), (0, .ref (G.2.2 71))]) hx hb dX1_surePlaces_3 rfl hl (by decide) rfl (fun ls hl => ?_)
  exact k_X1_surePlaces_4 C hK hW (lv_sub hl [2, 1, 0] rfl) hq
theorem c_X1_surePlaces (l : Launch) (G : wG) (h : hp) (Q : Int32 → Prop) (hq : w_X1_surePlaces h Q) : ctI l SC G yX1_surePlaces wUX1_surePlaces rmX1_surePlaces h [.ref (G.2.2 71)] (fun r9 h9 => h9 = h ∧ Q r9) := by
  refine k_start (cc := cX1_surePlaces) (maxL := 3) (rt := (some .int)) (own := RX1) (by decide +kernel) rfl rfl (Nat.le_of_ble_eq_true rfl) ?_
  intro p e s m below meth c ls C hK hW hl
  exact k_X1_surePlaces_0 C hK hW hl hq
theorem k_X1_isSoForSome_b2 {Q : Int32 → Prop} {X2 : Int32 → Prop} {x1 : Int64} {h : hp} (C : kC p s m args meth c cX1_isSoForSome 4 (some .boolean) RX1 wUX1_isSoForSome) (hK : kK G s) (hX2 : ∀ (x3 : Int32) (H : Heap) (locs : List Loc) (ls : Array Slot), kW SC G h (aS SC G) s H locs → lv_has ls 4 [(0, .ref (G.2.2 71)), (1, .long x1), (3, .int x3)] → X2 x3 → W p l e rmX1_isSoForSome s m args below meth c H locs 0 0 (MQ below (va_Qi (fun r9 h9 => h9 = h ∧ Q r9) (kB SC G) (aS SC G)) args s 0 0 (aS SC G)) (F0 m 2 ls [])) {x3 : Int32} {H : Heap} {locs : List Loc} {ls : Array Slot} (hW : kW SC G h (aS SC G) s H locs) (hl : lv_has ls 4 [(0, .ref (G.2.2 71)), (1, .long x1), (3, .int x3)]) (hq : w_X1_isSoForSome_b2 Q x1 h X2 x3) : W p l e rmX1_isSoForSome s m args below meth c H locs 0 0 (MQ below (va_Qi (fun r9 h9 => h9 = h ∧ Q r9) (kB SC G) (aS SC G)) args s 0 0 (aS SC G)) (F0 m 2 ls []) := by
  have hx := C.1
  have hb := C.2.1
  unfold w_X1_isSoForSome_b2 at hq
  refine lv_iload_n hx hb dX1_isSoForSome_2 rfl (lv_at hl 2 rfl) ?_
  refine lv_aload_n hx hb dX1_isSoForSome_3 rfl (lv_at hl 0 rfl) ?_
  refine gt1_1 C hK hW (rfl : shC 71 = 1) (List.mem_cons_of_mem _ mw237) (fun _ h9 => List.mem_cons_of_mem _ (inU_wsX10 _ h9)) dX1_isSoForSome_4 ?_
  refine lv_icmp_ge (tgt := 37) hx hb dX1_isSoForSome_7 (by decide) (fun c1 => ?_) (fun c1 => ?_)
  · have hq := hq.1 c1
    refine lv_iconst (v := 0) hx hb dX1_isSoForSome_37 (by decide) ?_
    exact k_zret rfl isZ_0.1 C hW dX1_isSoForSome_38 ⟨rfl, hq⟩
  · have hq := hq.2 c1
    refine lv_aload_n hx hb dX1_isSoForSome_10 rfl (lv_at hl 0 rfl) ?_
    refine gt1_4 C hK hW (rfl : shC 71 = 1) (List.mem_cons_of_mem _ mw243) (fun _ h9 => List.mem_cons_of_mem _ (inU_wsX10 _ h9)) dX1_isSoForSome_11 ?_
    refine gt10_3 C hK hW (rfl : shC 64 = 10) (List.mem_cons_of_mem _ mw983) (fun _ h9 => List.mem_cons_of_mem _ (inU_wsX100 _ h9)) dX1_isSoForSome_14 ?_
    refine lv_aload_n hx hb dX1_isSoForSome_17 rfl (lv_at hl 0 rfl) ?_
    refine gt1_0 C hK hW (rfl : shC 71 = 1) (List.mem_cons_of_mem _ mw236) (fun _ h9 => List.mem_cons_of_mem _ (inU_wsX10 _ h9)) dX1_isSoForSome_18 ?_
    refine lv_iload_n hx hb dX1_isSoForSome_21 rfl (lv_at hl 2 rfl) ?_
    refine k_iald C hK hW (shC_lt (rfl : shC 72 = 14) (by decide)) (ceC_14 (rfl : shC 72 = 14) (rfl : lnC 72 = 10000)) hq.1 dX1_isSoForSome_22 ?_
    have hq := hq.2
    refine k_lald C hK hW (shC_lt (rfl : shC 65 = 15) (by decide)) (ceC_15 (rfl : shC 65 = 15) (rfl : lnC 65 = 10000)) hq.1 dX1_isSoForSome_23 ?_
    have hq := hq.2
    refine lv_lload_n hx hb dX1_isSoForSome_24 rfl (lv_at hl 1 rfl) ?_
    refine W.lcmp hx hb dX1_isSoForSome_25 ?_
    refine lv_if_ne (tgt := 31) hx hb dX1_isSoForSome_26 (by decide) (fun c2 => ?_) (fun c2 => ?_)
    · have hq := hq.1 (fun z => c2 ((lg_cmp_eq _ _).mpr z))
      obtain ⟨x3_3, ex3_3⟩ : ∃ y : Int32, y = x3 + 1 := ⟨_, rfl⟩
      have hq := hq x3_3 ex3_3
      refine lv_iinc (v := x3_3) (lv' := [(3, .int x3_3), (0, .ref (G.2.2 71)), (1, .long x1)]) hx hb dX1_isSoForSome_31 hl (k := 2) rfl (by rw [ex3_3]; rfl) (by decide) rfl (fun ls hl => ?_)
      refine lv_goto (tgt := 2) hx hb dX1_isSoForSome_34 (by decide) ?_
      exact hX2 _ _ _ _ hW (lv_sub hl [1, 2, 0] rfl) hq
    · have hq := hq.2 ((lg_cmp_eq _ _).mp c2)
      refine lv_iconst (v := 1) hx hb dX1_isSoForSome_29 (by decide) ?_
      exact k_zret rfl isZ_1.1 C hW dX1_isSoForSome_30 ⟨rfl, hq⟩
theorem k_X1_isSoForSome_2 {Q : Int32 → Prop} {x1 : Int64} {h : hp} (C : kC p s m args meth c cX1_isSoForSome 4 (some .boolean) RX1 wUX1_isSoForSome) (hK : kK G s) {x3 : Int32} {H : Heap} {locs : List Loc} {ls : Array Slot} (hW : kW SC G h (aS SC G) s H locs) (hl : lv_has ls 4 [(0, .ref (G.2.2 71)), (1, .long x1), (3, .int x3)]) (hq : w_X1_isSoForSome_2 Q x1 h x3) : W p l e rmX1_isSoForSome s m args below meth c H locs 0 0 (MQ below (va_Qi (fun r9 h9 => h9 = h ∧ Q r9) (kB SC G) (aS SC G)) args s 0 0 (aS SC G)) (F0 m 2 ls []) := by
  have key := hq (fun (q : Int32) => ∀ (H : Heap) (locs : List Loc) (ls : Array Slot), kW SC G h (aS SC G) s H locs → lv_has ls 4 [(0, .ref (G.2.2 71)), (1, .long x1), (3, .int q)] → W p l e rmX1_isSoForSome s m args below meth c H locs 0 0 (MQ below (va_Qi (fun r9 h9 => h9 = h ∧ Q r9) (kB SC G) (aS SC G)) args s 0 0 (aS SC G)) (F0 m 2 ls []))
    (fun q hq H locs ls hW hl => k_X1_isSoForSome_b2 C hK (fun x3 H locs ls hW hl hI => hI H locs ls hW hl) hW hl hq)
  exact key _ _ _ hW hl
theorem k_X1_isSoForSome_0 {Q : Int32 → Prop} {x1 : Int64} {h : hp} (C : kC p s m args meth c cX1_isSoForSome 4 (some .boolean) RX1 wUX1_isSoForSome) (hK : kK G s) {H : Heap} {locs : List Loc} {ls : Array Slot} (hW : kW SC G h (aS SC G) s H locs) (hl : lv_has ls 4 [(0, .ref (G.2.2 71)), (1, .long x1)]) (hq : w_X1_isSoForSome_0 Q x1 h) : W p l e rmX1_isSoForSome s m args below meth c H locs 0 0 (MQ below (va_Qi (fun r9 h9 => h9 = h ∧ Q r9) (kB SC G) (aS SC G)) args s 0 0 (aS SC G)) (F0 m 0 ls []) := by
  have hx := C.1
  have hb := C.2.1
  unfold w_X1_isSoForSome_0 at hq
  refine lv_iconst (v := 0) hx hb dX1_isSoForSome_0 (by decide) ?_
  refine lv_istore_n (lv' := [(3, .int 0), (0, .ref (G.2.2 71)), (1, .long x1)]) hx hb dX1_isSoForSome_1 rfl hl (by decide) rfl (fun ls hl => ?_)
  exact k_X1_isSoForSome_2 C hK hW (lv_sub hl [1, 2, 0] rfl) hq
theorem c_X1_isSoForSome (l : Launch) (G : wG) (h : hp) (x1 : Int64) (Q : Int32 → Prop) (hq : w_X1_isSoForSome h x1 Q) : ctI l SC G yX1_isSoForSome wUX1_isSoForSome rmX1_isSoForSome h [.ref (G.2.2 71), .long x1] (fun r9 h9 => h9 = h ∧ Q r9) := by
  refine k_start (cc := cX1_isSoForSome) (maxL := 4) (rt := (some .boolean)) (own := RX1) (by decide +kernel) rfl rfl (Nat.le_of_ble_eq_true rfl) ?_
  intro p e s m below meth c ls C hK hW hl
  exact k_X1_isSoForSome_0 C hK hW hl hq
theorem k_X1_sureLiars_b5 {o1 : Nat} (ho1 : shC o1 = 9) {Q : Int32 → hp → Prop} {X5 : Int32 × Int32 × hp → Prop} {x2 : Int32} (C : kC p s m args meth c cX1_sureLiars 5 (some .int) RX1 wUX1_sureLiars) (hK : kK G s) (hX5 : ∀ (x3 : Int32) (x4 : Int32) (h : hp) (H : Heap) (locs : List Loc) (ls : Array Slot), kW SC G h (aS SC G) s H locs → lv_has ls 5 [(0, .ref (G.2.2 71)), (1, .ref (G.2.2 o1)), (2, .int x2), (3, .int x3), (4, .int x4)] → X5 (x3, x4, h) → W p l e rmX1_sureLiars s m args below meth c H locs 0 0 (MQ below (va_Qi Q (kB SC G) (aS SC G)) args s 0 0 (aS SC G)) (F0 m 5 ls [])) {x3 : Int32} {x4 : Int32} {h : hp} {H : Heap} {locs : List Loc} {ls : Array Slot} (hW : kW SC G h (aS SC G) s H locs) (hl : lv_has ls 5 [(0, .ref (G.2.2 71)), (1, .ref (G.2.2 o1)), (2, .int x2), (3, .int x3), (4, .int x4)]) (hq : w_X1_sureLiars_b5 o1 Q x2 X5 x3 x4 h) : W p l e rmX1_sureLiars s m args below meth c H locs 0 0 (MQ below (va_Qi Q (kB SC G) (aS SC G)) args s 0 0 (aS SC G)) (F0 m 5 ls []) := by
  have hx := C.1
  have hb := C.2.1
  unfold w_X1_sureLiars_b5 at hq
  refine lv_iload hx hb dX1_sureLiars_5 (lv_at hl 4 rfl) ?_
  refine lv_iload_n hx hb dX1_sureLiars_7 rfl (lv_at hl 2 rfl) ?_
  refine lv_icmp_ge (tgt := 60) hx hb dX1_sureLiars_8 (by decide) (fun c1 => ?_) (fun c1 => ?_)
  · have hq := hq.1 c1
    refine lv_iload_n hx hb dX1_sureLiars_60 rfl (lv_at hl 3 rfl) ?_
    exact k_iret rfl C hW dX1_sureLiars_61 hq
  · have hq := hq.2 c1
    refine lv_aload_n hx hb dX1_sureLiars_11 rfl (lv_at hl 0 rfl) ?_
    refine gt1_1 C hK hW (rfl : shC 71 = 1) (List.mem_cons_of_mem _ mw237) (fun _ h9 => List.mem_cons_of_mem _ (inU_wsX10 _ h9)) dX1_sureLiars_12 ?_
    refine lv_if_le (tgt := 60) hx hb dX1_sureLiars_15 (by decide) (fun c2 => ?_) (fun c2 => ?_)
    · have hq := hq.1 c2
      refine lv_iload_n hx hb dX1_sureLiars_60 rfl (lv_at hl 3 rfl) ?_
      exact k_iret rfl C hW dX1_sureLiars_61 hq
    · have hq := hq.2 c2
      refine lv_aload_n hx hb dX1_sureLiars_18 rfl (lv_at hl 0 rfl) ?_
      refine gt1_4 C hK hW (rfl : shC 71 = 1) (List.mem_cons_of_mem _ mw243) (fun _ h9 => List.mem_cons_of_mem _ (inU_wsX10 _ h9)) dX1_sureLiars_19 ?_
      refine lv_aload_n hx hb dX1_sureLiars_22 rfl (lv_at hl 1 rfl) ?_
      refine gt9_1 C hK hW ho1 (List.mem_cons_of_mem _ mw976) (fun _ h9 => List.mem_cons_of_mem _ (inU_wsX90 _ h9)) dX1_sureLiars_23 ?_
      refine lv_iload hx hb dX1_sureLiars_26 (lv_at hl 4 rfl) ?_
      refine k_iald C hK hW (shC_lt (sl9_1 ho1).1 (by decide)) (ceC_14 (sl9_1 ho1).1 (sl9_1 ho1).2) hq.1 dX1_sureLiars_28 ?_
      have hq := hq.2
      refine lv_i2l (v := (gI h (o1 + 1) (ix x4)).toInt64) hx hb dX1_sureLiars_29 rfl ?_
      refine k_cv hW (va_runV (As := [.long ((gI h (o1 + 1) (ix x4)).toInt64)]) (rest := []) (k_fix C) (c_X10_comeBy l G h ((gI h (o1 + 1) (ix x4)).toInt64) _ hq) (cwV 1 C.2.2.2.2.2.1 (gU_V mw978 mw855 mw856 mw34 mw857) rfl rfl rfl (by decide +kernel) ⟨Nat.le_of_ble_eq_true rfl, Nat.le_of_ble_eq_true rfl⟩) (k_preV hK hW (shC_lt (rfl : shC 64 = 10) (by decide)) (ceC_10 (rfl : shC 64 = 10)) (q := (RX10, TX10, 7)) rfl) rfl rfl hl.1 rfl (lv_room (Nat.le_of_ble_eq_true rfl)) dX1_sureLiars_30 ⟨Nat.le_refl 0, Nat.le_refl 0⟩) (fun h3 H locs hq hW => ?_)
      refine lv_aload_n hx hb dX1_sureLiars_33 rfl (lv_at hl 0 rfl) ?_
      refine lv_aload_n hx hb dX1_sureLiars_34 rfl (lv_at hl 1 rfl) ?_
      refine gt9_2 C hK hW ho1 (List.mem_cons_of_mem _ mw977) (fun _ h9 => List.mem_cons_of_mem _ (inU_wsX90 _ h9)) dX1_sureLiars_35 ?_
      refine lv_iload hx hb dX1_sureLiars_38 (lv_at hl 4 rfl) ?_
      refine k_lald C hK hW (shC_lt (sl9_2 ho1).1 (by decide)) (ceC_15 (sl9_2 ho1).1 (sl9_2 ho1).2) hq.1 dX1_sureLiars_40 ?_
      have hq := hq.2
      refine k_ci hW (va_runV (As := [.long (gL h3 (o1 + 2) (ix x4))]) (rest := []) (k_fix C) (c_X1_isSoForSome l G h3 (gL h3 (o1 + 2) (ix x4)) _ hq) (cwV 1 C.2.2.2.2.2.1 (gU_V mw1056 mw1057 mw1058 mw38 mw1059) rfl rfl rfl (by decide +kernel) ⟨Nat.le_of_ble_eq_true rfl, Nat.le_of_ble_eq_true rfl⟩) (k_preV hK hW (shC_lt (rfl : shC 71 = 1) (by decide)) (ceC_1 (rfl : shC 71 = 1)) (q := (RX1, TX1, 7)) rfl) rfl rfl hl.1 rfl (lv_room (Nat.le_of_ble_eq_true rfl)) dX1_sureLiars_41 ⟨Nat.le_refl 0, Nat.le_refl 0⟩) (fun r4 h5 H locs hq hW => ?_)
      rw [hq.1] at hW
      have hq := hq.2
      refine lv_if_ne (tgt := 54) hx hb dX1_sureLiars_44 (by decide) (fun c6 => ?_) (fun c6 => ?_)
      · have hq := hq.1 c6
        obtain ⟨x4_7, ex4_7⟩ : ∃ y : Int32, y = x4 + 1 := ⟨_, rfl⟩
        have hq := hq x4_7 ex4_7
        refine lv_iinc (v := x4_7) (lv' := [(4, .int x4_7), (0, .ref (G.2.2 71)), (1, .ref (G.2.2 o1)), (2, .int x2), (3, .int x3)]) hx hb dX1_sureLiars_54 hl (k := 4) rfl (by rw [ex4_7]; rfl) (by decide) rfl (fun ls hl => ?_)
        refine lv_goto (tgt := 5) hx hb dX1_sureLiars_57 (by decide) ?_
        exact hX5 _ _ _ _ _ _ hW (lv_sub hl [1, 2, 3, 4, 0] rfl) hq
      · have hq := hq.2 c6
        refine lv_iload_n hx hb dX1_sureLiars_47 rfl (lv_at hl 3 rfl) ?_
        refine lv_iconst (v := 1) hx hb dX1_sureLiars_48 (by decide) ?_
        refine lv_iload hx hb dX1_sureLiars_49 (lv_at hl 4 rfl) ?_
        refine k_ishl hx hb dX1_sureLiars_51 ?_
        refine lv_ior hx hb dX1_sureLiars_52 ?_
        refine lv_topi (fun x3_8 ex3_8 => ?_)
        have hq := hq x3_8 ex3_8
        refine lv_istore_n (lv' := [(3, .int x3_8), (0, .ref (G.2.2 71)), (1, .ref (G.2.2 o1)), (2, .int x2), (4, .int x4)]) hx hb dX1_sureLiars_53 rfl hl (by decide) rfl (fun ls hl => ?_)
        obtain ⟨x4_9, ex4_9⟩ : ∃ y : Int32, y = x4 + 1 := ⟨_, rfl⟩
        have hq := hq x4_9 ex4_9
        refine lv_iinc (v := x4_9) (lv' := [(4, .int x4_9), (3, .int x3_8), (0, .ref (G.2.2 71)), (1, .ref (G.2.2 o1)), (2, .int x2)]) hx hb dX1_sureLiars_54 hl (k := 4) rfl (by rw [ex4_9]; rfl) (by decide) rfl (fun ls hl => ?_)
        refine lv_goto (tgt := 5) hx hb dX1_sureLiars_57 (by decide) ?_
        exact hX5 _ _ _ _ _ _ hW (lv_sub hl [2, 3, 4, 1, 0] rfl) hq
theorem k_X1_sureLiars_5 {o1 : Nat} (ho1 : shC o1 = 9) {Q : Int32 → hp → Prop} {x2 : Int32} (C : kC p s m args meth c cX1_sureLiars 5 (some .int) RX1 wUX1_sureLiars) (hK : kK G s) {x3 : Int32} {x4 : Int32} {h : hp} {H : Heap} {locs : List Loc} {ls : Array Slot} (hW : kW SC G h (aS SC G) s H locs) (hl : lv_has ls 5 [(0, .ref (G.2.2 71)), (1, .ref (G.2.2 o1)), (2, .int x2), (3, .int x3), (4, .int x4)]) (hq : w_X1_sureLiars_5 o1 Q x2 x3 x4 h) : W p l e rmX1_sureLiars s m args below meth c H locs 0 0 (MQ below (va_Qi Q (kB SC G) (aS SC G)) args s 0 0 (aS SC G)) (F0 m 5 ls []) := by
  have key := hq (fun (q : Int32 × Int32 × hp) => ∀ (H : Heap) (locs : List Loc) (ls : Array Slot), kW SC G q.2.2 (aS SC G) s H locs → lv_has ls 5 [(0, .ref (G.2.2 71)), (1, .ref (G.2.2 o1)), (2, .int x2), (3, .int q.1), (4, .int q.2.1)] → W p l e rmX1_sureLiars s m args below meth c H locs 0 0 (MQ below (va_Qi Q (kB SC G) (aS SC G)) args s 0 0 (aS SC G)) (F0 m 5 ls []))
    (fun q hq H locs ls hW hl => k_X1_sureLiars_b5 ho1 C hK (fun x3 x4 h H locs ls hW hl hI => hI H locs ls hW hl) hW hl hq)
  exact key _ _ _ hW hl
theorem k_X1_sureLiars_0 {o1 : Nat} (ho1 : shC o1 = 9) {Q : Int32 → hp → Prop} {x2 : Int32} {h : hp} (C : kC p s m args meth c cX1_sureLiars 5 (some .int) RX1 wUX1_sureLiars) (hK : kK G s) {H : Heap} {locs : List Loc} {ls : Array Slot} (hW : kW SC G h (aS SC G) s H locs) (hl : lv_has ls 5 [(0, .ref (G.2.2 71)), (1, .ref (G.2.2 o1)), (2, .int x2)]) (hq : w_X1_sureLiars_0 o1 Q x2 h) : W p l e rmX1_sureLiars s m args below meth c H locs 0 0 (MQ below (va_Qi Q (kB SC G) (aS SC G)) args s 0 0 (aS SC G)) (F0 m 0 ls []) := by
  have hx := C.1
  have hb := C.2.1
  unfold w_X1_sureLiars_0 at hq
  refine lv_iconst (v := 0) hx hb dX1_sureLiars_0 (by decide) ?_
  refine lv_istore_n (lv' := [(3, .int 0), (0, .ref (G.2.2 71)), (1, .ref (G.2.2 o1)), (2, .int x2)]) hx hb dX1_sureLiars_1 rfl hl (by decide) rfl (fun ls hl => ?_)
  refine lv_iconst (v := 0) hx hb dX1_sureLiars_2 (by decide) ?_
  refine lv_istore (lv' := [(4, .int 0), (3, .int 0), (0, .ref (G.2.2 71)), (1, .ref (G.2.2 o1)), (2, .int x2)]) hx hb dX1_sureLiars_3 hl (by decide) rfl (fun ls hl => ?_)
  exact k_X1_sureLiars_5 ho1 C hK hW (lv_sub hl [2, 3, 4, 1, 0] rfl) hq
theorem c_X1_sureLiars (l : Launch) (G : wG) {o1 : Nat} (ho1 : shC o1 = 9) (h : hp) (x2 : Int32) (Q : Int32 → hp → Prop) (hq : w_X1_sureLiars o1 h x2 Q) : ctI l SC G yX1_sureLiars wUX1_sureLiars rmX1_sureLiars h [.ref (G.2.2 71), .ref (G.2.2 o1), .int x2] Q := by
  refine k_start (cc := cX1_sureLiars) (maxL := 5) (rt := (some .int)) (own := RX1) (by decide +kernel) rfl rfl (Nat.le_of_ble_eq_true rfl) ?_
  intro p e s m below meth c ls C hK hW hl
  exact k_X1_sureLiars_0 ho1 C hK hW hl hq
theorem k_X4_clear_41 {Q : hp → Prop} {h : hp} (C : kC p s m args meth c cX4_clear 2 none RX4 wUX4_clear) (hK : kK G s) {H : Heap} {locs : List Loc} {ls : Array Slot} (hW : kW SC G h (aS SC G) s H locs) (hl : lv_has ls 2 [(0, .ref (G.2.2 68))]) (hq : w_X4_clear_41 Q h) : W p l e rmX4_clear s m args below meth c H locs 0 0 (MQ below (va_Qv Q (kB SC G) (aS SC G)) args s 0 0 (aS SC G)) (F0 m 41 ls []) := by
  have hx := C.1
  have hb := C.2.1
  unfold w_X4_clear_41 at hq
  refine lv_aload_n hx hb dX4_clear_41 rfl (lv_at hl 0 rfl) ?_
  refine gt4_1 C hK hW (rfl : shC 68 = 4) (List.mem_cons_of_mem _ mw230) (fun _ h9 => List.mem_cons_of_mem _ (inU_wsX40 _ h9)) dX4_clear_42 ?_
  refine lv_iconst (v := 0) hx hb dX4_clear_45 (by decide) ?_
  refine lv_aload_n hx hb dX4_clear_46 rfl (lv_at hl 0 rfl) ?_
  refine gt4_2 C hK hW (rfl : shC 68 = 4) (List.mem_cons_of_mem _ mw231) (fun _ h9 => List.mem_cons_of_mem _ (inU_wsX40 _ h9)) dX4_clear_47 ?_
  refine lv_iconst (v := 0) hx hb dX4_clear_50 (by decide) ?_
  refine k_cv hW (va_runS (As := [.ref (G.2.2 70), .int 0, .int (gI h 68 2), .int 0]) (rest := []) (k_fix C) (c_J7_fill_fda19 l G (rfl : shC 70 = 14) (rfl : lnC 70 = 16384) h 0 (gI h 68 2) 0 _ hq) (va_cwS 4 C.2.2.2.2.2.1 (gU_S mw862 mw863 mw864 mw865) rfl rfl rfl (by decide +kernel) ⟨Nat.le_of_ble_eq_true rfl, Nat.le_of_ble_eq_true rfl⟩) (k_preS hK hW) rfl rfl hl.1 rfl (lv_room (Nat.le_of_ble_eq_true rfl)) dX4_clear_51 ⟨Nat.le_refl 0, Nat.le_refl 0⟩) (fun h5 H locs hq hW => ?_)
  exact k_vret rfl C hW dX4_clear_54 hq
theorem k_X4_clear_b6 {Q : hp → Prop} {X6 : hp → Prop} {x1 : Int32} (C : kC p s m args meth c cX4_clear 2 none RX4 wUX4_clear) (hK : kK G s) (hX6 : ∀ (h : hp) (H : Heap) (locs : List Loc) (ls : Array Slot), kW SC G h (aS SC G) s H locs → lv_has ls 2 [(0, .ref (G.2.2 68)), (1, .int x1)] → X6 h → W p l e rmX4_clear s m args below meth c H locs 0 0 (MQ below (va_Qv Q (kB SC G) (aS SC G)) args s 0 0 (aS SC G)) (F0 m 6 ls [])) {h : hp} {H : Heap} {locs : List Loc} {ls : Array Slot} (hW : kW SC G h (aS SC G) s H locs) (hl : lv_has ls 2 [(0, .ref (G.2.2 68)), (1, .int x1)]) (hq : w_X4_clear_b6 Q x1 X6 h) : W p l e rmX4_clear s m args below meth c H locs 0 0 (MQ below (va_Qv Q (kB SC G) (aS SC G)) args s 0 0 (aS SC G)) (F0 m 6 ls []) := by
  have hx := C.1
  have hb := C.2.1
  unfold w_X4_clear_b6 at hq
  refine lv_aload_n hx hb dX4_clear_6 rfl (lv_at hl 0 rfl) ?_
  refine gt4_2 C hK hW (rfl : shC 68 = 4) (List.mem_cons_of_mem _ mw231) (fun _ h9 => List.mem_cons_of_mem _ (inU_wsX40 _ h9)) dX4_clear_7 ?_
  refine lv_sipush (v := 16384) hx hb dX4_clear_10 (by decide) ?_
  refine lv_icmp_ge (tgt := 41) hx hb dX4_clear_13 (by decide) (fun c2 => ?_) (fun c2 => ?_)
  · have hq := hq.1 c2
    exact k_X4_clear_41 C hK hW (lv_sub hl [0] rfl) hq
  · have hq := hq.2 c2
    refine lv_aload_n hx hb dX4_clear_16 rfl (lv_at hl 0 rfl) ?_
    refine gt4_2 C hK hW (rfl : shC 68 = 4) (List.mem_cons_of_mem _ mw231) (fun _ h9 => List.mem_cons_of_mem _ (inU_wsX40 _ h9)) dX4_clear_17 ?_
    refine lv_iload_n hx hb dX4_clear_20 rfl (lv_at hl 1 rfl) ?_
    refine lv_iload_n hx hb dX4_clear_21 rfl (lv_at hl 1 rfl) ?_
    refine lv_iconst (v := 2) hx hb dX4_clear_22 (by decide) ?_
    refine lv_idiv hx hb dX4_clear_23 (by decide) ?_
    refine lv_iadd hx hb dX4_clear_24 ?_
    refine lv_icmp_ge (tgt := 41) hx hb dX4_clear_25 (by decide) (fun c3 => ?_) (fun c3 => ?_)
    · have hq := hq.1 c3
      exact k_X4_clear_41 C hK hW (lv_sub hl [0] rfl) hq
    · have hq := hq.2 c3
      refine lv_aload_n hx hb dX4_clear_28 rfl (lv_at hl 0 rfl) ?_
      refine lv_dup hx hb dX4_clear_29 rfl ?_
      refine gt4_2 C hK hW (rfl : shC 68 = 4) (List.mem_cons_of_mem _ mw231) (fun _ h9 => List.mem_cons_of_mem _ (inU_wsX40 _ h9)) dX4_clear_30 ?_
      refine lv_iconst (v := 2) hx hb dX4_clear_33 (by decide) ?_
      refine lv_imul hx hb dX4_clear_34 ?_
      refine pt4_2 C hK hW (rfl : shC 68 = 4) (List.mem_cons_of_mem _ mw231) (fun _ h9 => List.mem_cons_of_mem _ (inU_wsX40 _ h9)) dX4_clear_35 (fun h4 H locs eh4 hW => ?_)
      have hq := hq h4 eh4
      refine lv_goto (tgt := 6) hx hb dX4_clear_38 (by decide) ?_
      exact hX6 _ _ _ _ hW (lv_sub hl [0, 1] rfl) hq
theorem k_X4_clear_6 {Q : hp → Prop} {x1 : Int32} (C : kC p s m args meth c cX4_clear 2 none RX4 wUX4_clear) (hK : kK G s) {h : hp} {H : Heap} {locs : List Loc} {ls : Array Slot} (hW : kW SC G h (aS SC G) s H locs) (hl : lv_has ls 2 [(0, .ref (G.2.2 68)), (1, .int x1)]) (hq : w_X4_clear_6 Q x1 h) : W p l e rmX4_clear s m args below meth c H locs 0 0 (MQ below (va_Qv Q (kB SC G) (aS SC G)) args s 0 0 (aS SC G)) (F0 m 6 ls []) := by
  have key := hq (fun (q : hp) => ∀ (H : Heap) (locs : List Loc) (ls : Array Slot), kW SC G q (aS SC G) s H locs → lv_has ls 2 [(0, .ref (G.2.2 68)), (1, .int x1)] → W p l e rmX4_clear s m args below meth c H locs 0 0 (MQ below (va_Qv Q (kB SC G) (aS SC G)) args s 0 0 (aS SC G)) (F0 m 6 ls []))
    (fun q hq H locs ls hW hl => k_X4_clear_b6 C hK (fun h H locs ls hW hl hI => hI H locs ls hW hl) hW hl hq)
  exact key _ _ _ hW hl
theorem k_X4_clear_0 {Q : hp → Prop} {x1 : Int32} {h : hp} (C : kC p s m args meth c cX4_clear 2 none RX4 wUX4_clear) (hK : kK G s) {H : Heap} {locs : List Loc} {ls : Array Slot} (hW : kW SC G h (aS SC G) s H locs) (hl : lv_has ls 2 [(0, .ref (G.2.2 68)), (1, .int x1)]) (hq : w_X4_clear_0 Q x1 h) : W p l e rmX4_clear s m args below meth c H locs 0 0 (MQ below (va_Qv Q (kB SC G) (aS SC G)) args s 0 0 (aS SC G)) (F0 m 0 ls []) := by
  have hx := C.1
  have hb := C.2.1
  unfold w_X4_clear_0 at hq
  refine lv_aload_n hx hb dX4_clear_0 rfl (lv_at hl 0 rfl) ?_
  refine lv_bipush (v := 16) hx hb dX4_clear_1 (by decide) ?_
  refine pt4_2 C hK hW (rfl : shC 68 = 4) (List.mem_cons_of_mem _ mw231) (fun _ h9 => List.mem_cons_of_mem _ (inU_wsX40 _ h9)) dX4_clear_3 (fun h1 H locs eh1 hW => ?_)
  have hq := hq h1 eh1
  exact k_X4_clear_6 C hK hW (lv_sub hl [0, 1] rfl) hq
theorem c_X4_clear (l : Launch) (G : wG) (h : hp) (x1 : Int32) (Q : hp → Prop) (hq : w_X4_clear h x1 Q) : ctV l SC G yX4_clear wUX4_clear rmX4_clear h [.ref (G.2.2 68), .int x1] Q := by
  refine k_start (cc := cX4_clear) (maxL := 2) (rt := none) (own := RX4) (by decide +kernel) rfl rfl (Nat.le_of_ble_eq_true rfl) ?_
  intro p e s m below meth c ls C hK hW hl
  exact k_X4_clear_0 C hK hW hl hq
end LINKS
