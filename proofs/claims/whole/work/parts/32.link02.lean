section LINKS
variable {p : Program} {l : Launch} {e : Env} {s : State} {m : MethodId} {args : Array Value} {below : List Frame} {meth : Method} {c : Code} {G : wG}
theorem k_X4_leaderOf_b21 {Q : Int32 → hp → Prop} {X21 : Int32 × Int32 → Prop} {x1 : Int64} {x3 : Int32} {h : hp} (C : kC p s m args meth c cX4_leaderOf 6 (some .int) RX4 wUX4_leaderOf) (hK : kK G s) (hX21 : ∀ (x4 : Int32) (x5 : Int32) (H : Heap) (locs : List Loc) (ls : Array Slot), kW SC G h (aS SC G) s H locs → lv_has ls 6 [(0, .ref (G.2.2 68)), (1, .long x1), (3, .int x3), (4, .int x4), (5, .int x5)] → X21 (x4, x5) → W p l e rmX4_leaderOf s m args below meth c H locs 0 0 (MQ below (va_Qi Q (kB SC G) (aS SC G)) args s 0 0 (aS SC G)) (F0 m 21 ls [])) {x4 : Int32} {x5 : Int32} {H : Heap} {locs : List Loc} {ls : Array Slot} (hW : kW SC G h (aS SC G) s H locs) (hl : lv_has ls 6 [(0, .ref (G.2.2 68)), (1, .long x1), (3, .int x3), (4, .int x4), (5, .int x5)]) (hq : w_X4_leaderOf_b21 Q x1 x3 h X21 x4 x5) : W p l e rmX4_leaderOf s m args below meth c H locs 0 0 (MQ below (va_Qi Q (kB SC G) (aS SC G)) args s 0 0 (aS SC G)) (F0 m 21 ls []) := by
  have hx := C.1
  have hb := C.2.1
  unfold w_X4_leaderOf_b21 at hq
  refine lv_iload hx hb dX4_leaderOf_21 (lv_at hl 4 rfl) ?_
  refine lv_aload_n hx hb dX4_leaderOf_23 rfl (lv_at hl 0 rfl) ?_
  refine gt4_2 C hK hW (rfl : shC 68 = 4) (List.mem_cons_of_mem _ mw231) (fun _ h9 => List.mem_cons_of_mem _ (inU_wsX40 _ h9)) dX4_leaderOf_24 ?_
  refine lv_icmp_ge (tgt := 101) hx hb dX4_leaderOf_27 (by decide) (fun c2 => ?_) (fun c2 => ?_)
  · have hq := hq.1 c2
    refine lv_iload_n hx hb dX4_leaderOf_101 rfl (lv_at hl 2 rfl) ?_
    exact k_iret rfl C hW dX4_leaderOf_102 hq
  · have hq := hq.2 c2
    refine lv_aload_n hx hb dX4_leaderOf_30 rfl (lv_at hl 0 rfl) ?_
    refine gt4_1 C hK hW (rfl : shC 68 = 4) (List.mem_cons_of_mem _ mw230) (fun _ h9 => List.mem_cons_of_mem _ (inU_wsX40 _ h9)) dX4_leaderOf_31 ?_
    refine lv_iload hx hb dX4_leaderOf_34 (lv_at hl 3 rfl) ?_
    refine k_iald C hK hW (shC_lt (rfl : shC 70 = 14) (by decide)) (ceC_14 (rfl : shC 70 = 14) (rfl : lnC 70 = 16384)) hq.1 dX4_leaderOf_36 ?_
    have hq := hq.2
    refine lv_if_ne (tgt := 60) hx hb dX4_leaderOf_37 (by decide) (fun c3 => ?_) (fun c3 => ?_)
    · have hq := hq.1 c3
      refine lv_aload_n hx hb dX4_leaderOf_60 rfl (lv_at hl 0 rfl) ?_
      refine gt4_0 C hK hW (rfl : shC 68 = 4) (List.mem_cons_of_mem _ mw229) (fun _ h9 => List.mem_cons_of_mem _ (inU_wsX40 _ h9)) dX4_leaderOf_61 ?_
      refine lv_iload hx hb dX4_leaderOf_64 (lv_at hl 3 rfl) ?_
      refine k_lald C hK hW (shC_lt (rfl : shC 69 = 15) (by decide)) (ceC_15 (rfl : shC 69 = 15) (rfl : lnC 69 = 16384)) hq.1 dX4_leaderOf_66 ?_
      have hq := hq.2
      refine lv_lload_n hx hb dX4_leaderOf_67 rfl (lv_at hl 1 rfl) ?_
      refine W.lcmp hx hb dX4_leaderOf_68 ?_
      refine lv_if_ne (tgt := 82) hx hb dX4_leaderOf_69 (by decide) (fun c4 => ?_) (fun c4 => ?_)
      · have hq := hq.1 (fun z => c4 ((lg_cmp_eq _ _).mpr z))
        refine lv_iload hx hb dX4_leaderOf_82 (lv_at hl 3 rfl) ?_
        refine lv_iconst (v := 1) hx hb dX4_leaderOf_84 (by decide) ?_
        refine lv_iadd hx hb dX4_leaderOf_85 ?_
        refine lv_aload_n hx hb dX4_leaderOf_86 rfl (lv_at hl 0 rfl) ?_
        refine gt4_2 C hK hW (rfl : shC 68 = 4) (List.mem_cons_of_mem _ mw231) (fun _ h9 => List.mem_cons_of_mem _ (inU_wsX40 _ h9)) dX4_leaderOf_87 ?_
        refine lv_iconst (v := 1) hx hb dX4_leaderOf_90 (by decide) ?_
        refine lv_isub hx hb dX4_leaderOf_91 ?_
        refine lv_iand hx hb dX4_leaderOf_92 ?_
        refine lv_topi (fun x4_5 ex4_5 => ?_)
        have hq := hq x4_5 ex4_5
        refine lv_istore (lv' := [(4, .int x4_5), (0, .ref (G.2.2 68)), (1, .long x1), (3, .int x3), (5, .int x5)]) hx hb dX4_leaderOf_93 hl (by decide) rfl (fun ls hl => ?_)
        obtain ⟨x5_6, ex5_6⟩ : ∃ y : Int32, y = x5 + 1 := ⟨_, rfl⟩
        have hq := hq x5_6 ex5_6
        refine lv_iinc (v := x5_6) (lv' := [(5, .int x5_6), (4, .int x4_5), (0, .ref (G.2.2 68)), (1, .long x1), (3, .int x3)]) hx hb dX4_leaderOf_95 hl (k := 4) rfl (by rw [ex5_6]; rfl) (by decide) rfl (fun ls hl => ?_)
        refine lv_goto (tgt := 21) hx hb dX4_leaderOf_98 (by decide) ?_
        exact hX21 _ _ _ _ _ hW (lv_sub hl [2, 3, 4, 1, 0] rfl) hq
      · have hq := hq.2 ((lg_cmp_eq _ _).mp c4)
        refine lv_aload_n hx hb dX4_leaderOf_72 rfl (lv_at hl 0 rfl) ?_
        refine gt4_1 C hK hW (rfl : shC 68 = 4) (List.mem_cons_of_mem _ mw230) (fun _ h9 => List.mem_cons_of_mem _ (inU_wsX40 _ h9)) dX4_leaderOf_73 ?_
        refine lv_iload hx hb dX4_leaderOf_76 (lv_at hl 3 rfl) ?_
        refine k_iald C hK hW (shC_lt (rfl : shC 70 = 14) (by decide)) (ceC_14 (rfl : shC 70 = 14) (rfl : lnC 70 = 16384)) hq.1 dX4_leaderOf_78 ?_
        have hq := hq.2
        refine lv_iconst (v := 1) hx hb dX4_leaderOf_79 (by decide) ?_
        refine lv_isub hx hb dX4_leaderOf_80 ?_
        exact k_iret rfl C hW dX4_leaderOf_81 hq
    · have hq := hq.2 c3
      refine lv_aload_n hx hb dX4_leaderOf_40 rfl (lv_at hl 0 rfl) ?_
      refine gt4_1 C hK hW (rfl : shC 68 = 4) (List.mem_cons_of_mem _ mw230) (fun _ h9 => List.mem_cons_of_mem _ (inU_wsX40 _ h9)) dX4_leaderOf_41 ?_
      refine lv_iload hx hb dX4_leaderOf_44 (lv_at hl 3 rfl) ?_
      refine lv_iload_n hx hb dX4_leaderOf_46 rfl (lv_at hl 2 rfl) ?_
      refine lv_iconst (v := 1) hx hb dX4_leaderOf_47 (by decide) ?_
      refine lv_iadd hx hb dX4_leaderOf_48 ?_
      refine k_iast okC C hK hW (shC_lt (rfl : shC 70 = 14) (by decide)) (fun g9 => ceC_14 (rfl : shC 70 = 14) (rfl : lnC 70 = 16384)) hq.1 dX4_leaderOf_49 (fun H locs hW => ?_)
      have hq := hq.2
      obtain ⟨h7, eh7⟩ : ∃ z : hp, z = sI h 70 (ix x4) (x3 + 1) := ⟨_, rfl⟩
      rw [← eh7] at hW
      have hq := hq h7 eh7
      refine lv_aload_n hx hb dX4_leaderOf_50 rfl (lv_at hl 0 rfl) ?_
      refine gt4_0 C hK hW (rfl : shC 68 = 4) (List.mem_cons_of_mem _ mw229) (fun _ h9 => List.mem_cons_of_mem _ (inU_wsX40 _ h9)) dX4_leaderOf_51 ?_
      refine lv_iload hx hb dX4_leaderOf_54 (lv_at hl 3 rfl) ?_
      refine lv_lload_n hx hb dX4_leaderOf_56 rfl (lv_at hl 1 rfl) ?_
      refine k_last okC C hK hW (shC_lt (rfl : shC 69 = 15) (by decide)) (fun g9 => ceC_15 (rfl : shC 69 = 15) (rfl : lnC 69 = 16384)) hq.1 dX4_leaderOf_57 (fun H locs hW => ?_)
      have hq := hq.2
      obtain ⟨h8, eh8⟩ : ∃ z : hp, z = sL h7 69 (ix x4) x1 := ⟨_, rfl⟩
      rw [← eh8] at hW
      have hq := hq h8 eh8
      refine lv_iload_n hx hb dX4_leaderOf_58 rfl (lv_at hl 2 rfl) ?_
      exact k_iret rfl C hW dX4_leaderOf_59 hq
theorem k_X4_leaderOf_21 {Q : Int32 → hp → Prop} {x1 : Int64} {x3 : Int32} {h : hp} (C : kC p s m args meth c cX4_leaderOf 6 (some .int) RX4 wUX4_leaderOf) (hK : kK G s) {x4 : Int32} {x5 : Int32} {H : Heap} {locs : List Loc} {ls : Array Slot} (hW : kW SC G h (aS SC G) s H locs) (hl : lv_has ls 6 [(0, .ref (G.2.2 68)), (1, .long x1), (3, .int x3), (4, .int x4), (5, .int x5)]) (hq : w_X4_leaderOf_21 Q x1 x3 h x4 x5) : W p l e rmX4_leaderOf s m args below meth c H locs 0 0 (MQ below (va_Qi Q (kB SC G) (aS SC G)) args s 0 0 (aS SC G)) (F0 m 21 ls []) := by
  have key := hq (fun (q : Int32 × Int32) => ∀ (H : Heap) (locs : List Loc) (ls : Array Slot), kW SC G h (aS SC G) s H locs → lv_has ls 6 [(0, .ref (G.2.2 68)), (1, .long x1), (3, .int x3), (4, .int q.1), (5, .int q.2)] → W p l e rmX4_leaderOf s m args below meth c H locs 0 0 (MQ below (va_Qi Q (kB SC G) (aS SC G)) args s 0 0 (aS SC G)) (F0 m 21 ls []))
    (fun q hq H locs ls hW hl => k_X4_leaderOf_b21 C hK (fun x4 x5 H locs ls hW hl hI => hI H locs ls hW hl) hW hl hq)
  exact key _ _ _ hW hl
theorem k_X4_leaderOf_0 {Q : Int32 → hp → Prop} {x1 : Int64} {x3 : Int32} {h : hp} (C : kC p s m args meth c cX4_leaderOf 6 (some .int) RX4 wUX4_leaderOf) (hK : kK G s) {H : Heap} {locs : List Loc} {ls : Array Slot} (hW : kW SC G h (aS SC G) s H locs) (hl : lv_has ls 6 [(0, .ref (G.2.2 68)), (1, .long x1), (3, .int x3)]) (hq : w_X4_leaderOf_0 Q x1 x3 h) : W p l e rmX4_leaderOf s m args below meth c H locs 0 0 (MQ below (va_Qi Q (kB SC G) (aS SC G)) args s 0 0 (aS SC G)) (F0 m 0 ls []) := by
  have hx := C.1
  have hb := C.2.1
  unfold w_X4_leaderOf_0 at hq
  refine lv_lload_n hx hb dX4_leaderOf_0 rfl (lv_at hl 1 rfl) ?_
  refine lv_ldc2 (v := (-7046029254386353131)) hx hb C.2.2.2.2.1 (C.2.2.2.2.2.1 _ (List.mem_cons_of_mem _ mw873)) dX4_leaderOf_1 ?_
  refine lv_lmul hx hb dX4_leaderOf_4 ?_
  refine lv_bipush (v := 48) hx hb dX4_leaderOf_5 (by decide) ?_
  refine lv_lushr (v := lushr (x1 * (-7046029254386353131)) 48) hx hb dX4_leaderOf_7 rfl ?_
  refine lv_l2i (v := (lushr (x1 * (-7046029254386353131)) 48).toInt32) hx hb dX4_leaderOf_8 rfl ?_
  refine lv_aload_n hx hb dX4_leaderOf_9 rfl (lv_at hl 0 rfl) ?_
  refine gt4_2 C hK hW (rfl : shC 68 = 4) (List.mem_cons_of_mem _ mw231) (fun _ h9 => List.mem_cons_of_mem _ (inU_wsX40 _ h9)) dX4_leaderOf_10 ?_
  refine lv_iconst (v := 1) hx hb dX4_leaderOf_13 (by decide) ?_
  refine lv_isub hx hb dX4_leaderOf_14 ?_
  refine lv_iand hx hb dX4_leaderOf_15 ?_
  refine lv_topi (fun x4_1 ex4_1 => ?_)
  have hq := hq x4_1 ex4_1
  refine lv_istore (lv' := [(4, .int x4_1), (0, .ref (G.2.2 68)), (1, .long x1), (3, .int x3)]) hx hb dX4_leaderOf_16 hl (by decide) rfl (fun ls hl => ?_)
  refine lv_iconst (v := 0) hx hb dX4_leaderOf_18 (by decide) ?_
  refine lv_istore (lv' := [(5, .int 0), (4, .int x4_1), (0, .ref (G.2.2 68)), (1, .long x1), (3, .int x3)]) hx hb dX4_leaderOf_19 hl (by decide) rfl (fun ls hl => ?_)
  exact k_X4_leaderOf_21 C hK hW (lv_sub hl [2, 3, 4, 1, 0] rfl) hq
theorem c_X4_leaderOf (l : Launch) (G : wG) (h : hp) (x1 : Int64) (x3 : Int32) (Q : Int32 → hp → Prop) (hq : w_X4_leaderOf h x1 x3 Q) : ctI l SC G yX4_leaderOf wUX4_leaderOf rmX4_leaderOf h [.ref (G.2.2 68), .long x1, .int x3] Q := by
  refine k_start (cc := cX4_leaderOf) (maxL := 6) (rt := (some .int)) (own := RX4) (by decide +kernel) rfl rfl (Nat.le_of_ble_eq_true rfl) ?_
  intro p e s m below meth c ls C hK hW hl
  exact k_X4_leaderOf_0 C hK hW hl hq
theorem k_X1_mostAlike_b41 {Q : Int32 → hp → Prop} {X41 : Int32 × Int32 × hp → Prop} {x2 : Int32} (C : kC p s m args meth c cX1_mostAlike 6 (some .int) RX1 wUX1_mostAlike) (hK : kK G s) (hX41 : ∀ (x3 : Int32) (x4 : Int32) (h : hp) (H : Heap) (locs : List Loc) (ls : Array Slot), kW SC G h (aS SC G) s H locs → lv_has ls 6 [(0, .ref (G.2.2 71)), (2, .int x2), (3, .int x3), (4, .int x4)] → X41 (x3, x4, h) → W p l e rmX1_mostAlike s m args below meth c H locs 0 0 (MQ below (va_Qi Q (kB SC G) (aS SC G)) args s 0 0 (aS SC G)) (F0 m 41 ls [])) {x3 : Int32} {x4 : Int32} {h : hp} {H : Heap} {locs : List Loc} {ls : Array Slot} (hW : kW SC G h (aS SC G) s H locs) (hl : lv_has ls 6 [(0, .ref (G.2.2 71)), (2, .int x2), (3, .int x3), (4, .int x4)]) (hq : w_X1_mostAlike_b41 Q x2 X41 x3 x4 h) : W p l e rmX1_mostAlike s m args below meth c H locs 0 0 (MQ below (va_Qi Q (kB SC G) (aS SC G)) args s 0 0 (aS SC G)) (F0 m 41 ls []) := by
  have hx := C.1
  have hb := C.2.1
  unfold w_X1_mostAlike_b41 at hq
  refine lv_iload hx hb dX1_mostAlike_41 (lv_at hl 3 rfl) ?_
  refine lv_aload_n hx hb dX1_mostAlike_43 rfl (lv_at hl 0 rfl) ?_
  refine gt1_1 C hK hW (rfl : shC 71 = 1) (List.mem_cons_of_mem _ mw237) (fun _ h9 => List.mem_cons_of_mem _ (inU_wsX10 _ h9)) dX1_mostAlike_44 ?_
  refine lv_icmp_ge (tgt := 113) hx hb dX1_mostAlike_47 (by decide) (fun c4 => ?_) (fun c4 => ?_)
  · have hq := hq.1 c4
    refine lv_iload_n hx hb dX1_mostAlike_113 rfl (lv_at hl 2 rfl) ?_
    exact k_iret rfl C hW dX1_mostAlike_114 hq
  · have hq := hq.2 c4
    refine lv_iload_n hx hb dX1_mostAlike_50 rfl (lv_at hl 2 rfl) ?_
    refine lv_iload_n hx hb dX1_mostAlike_51 rfl (lv_at hl 1 rfl) ?_
    refine lv_icmp_ge (tgt := 113) hx hb dX1_mostAlike_52 (by decide) (fun c5 => ?_) (fun c5 => ?_)
    · have hq := hq.1 c5
      refine lv_iload_n hx hb dX1_mostAlike_113 rfl (lv_at hl 2 rfl) ?_
      exact k_iret rfl C hW dX1_mostAlike_114 hq
    · have hq := hq.2 c5
      refine lv_aload_n hx hb dX1_mostAlike_55 rfl (lv_at hl 0 rfl) ?_
      refine gt1_4 C hK hW (rfl : shC 71 = 1) (List.mem_cons_of_mem _ mw243) (fun _ h9 => List.mem_cons_of_mem _ (inU_wsX10 _ h9)) dX1_mostAlike_56 ?_
      refine gt10_6 C hK hW (rfl : shC 64 = 10) (List.mem_cons_of_mem _ mw1078) (fun _ h9 => List.mem_cons_of_mem _ (inU_wsX100 _ h9)) dX1_mostAlike_59 ?_
      refine lv_aload_n hx hb dX1_mostAlike_62 rfl (lv_at hl 0 rfl) ?_
      refine gt1_4 C hK hW (rfl : shC 71 = 1) (List.mem_cons_of_mem _ mw243) (fun _ h9 => List.mem_cons_of_mem _ (inU_wsX10 _ h9)) dX1_mostAlike_63 ?_
      refine gt10_3 C hK hW (rfl : shC 64 = 10) (List.mem_cons_of_mem _ mw983) (fun _ h9 => List.mem_cons_of_mem _ (inU_wsX100 _ h9)) dX1_mostAlike_66 ?_
      refine lv_aload_n hx hb dX1_mostAlike_69 rfl (lv_at hl 0 rfl) ?_
      refine gt1_0 C hK hW (rfl : shC 71 = 1) (List.mem_cons_of_mem _ mw236) (fun _ h9 => List.mem_cons_of_mem _ (inU_wsX10 _ h9)) dX1_mostAlike_70 ?_
      refine lv_iload hx hb dX1_mostAlike_73 (lv_at hl 3 rfl) ?_
      refine k_iald C hK hW (shC_lt (rfl : shC 72 = 14) (by decide)) (ceC_14 (rfl : shC 72 = 14) (rfl : lnC 72 = 10000)) hq.1 dX1_mostAlike_75 ?_
      have hq := hq.2
      refine k_lald C hK hW (shC_lt (rfl : shC 65 = 15) (by decide)) (ceC_15 (rfl : shC 65 = 15) (rfl : lnC 65 = 10000)) hq.1 dX1_mostAlike_76 ?_
      have hq := hq.2
      refine lv_iload hx hb dX1_mostAlike_77 (lv_at hl 3 rfl) ?_
      refine k_ci hW (va_runV (As := [.long (gL h 65 (ix (gI h 72 (ix x4)))), .int x4]) (rest := []) (k_fix C) (c_X4_leaderOf l G h (gL h 65 (ix (gI h 72 (ix x4)))) x4 _ hq) (cwV 2 C.2.2.2.2.2.1 (gU_V mw1081 mw870 mw871 mw224 mw872) rfl rfl rfl (by decide +kernel) ⟨Nat.le_of_ble_eq_true rfl, Nat.le_of_ble_eq_true rfl⟩) (k_preV hK hW (shC_lt (rfl : shC 68 = 4) (by decide)) (ceC_4 (rfl : shC 68 = 4)) (q := (RX4, TX4, 3)) rfl) rfl rfl hl.1 rfl (lv_room (Nat.le_of_ble_eq_true rfl)) dX1_mostAlike_79 ⟨Nat.le_refl 0, Nat.le_refl 0⟩) (fun r7 h6 H locs hq hW => ?_)
      refine lv_istore (lv' := [(5, .int r7), (0, .ref (G.2.2 71)), (2, .int x2), (3, .int x3), (4, .int x4)]) hx hb dX1_mostAlike_82 hl (by decide) rfl (fun ls hl => ?_)
      refine lv_aload_n hx hb dX1_mostAlike_84 rfl (lv_at hl 1 rfl) ?_
      refine gt1_5 C hK hW (rfl : shC 71 = 1) (List.mem_cons_of_mem _ mw240) (fun _ h9 => List.mem_cons_of_mem _ (inU_wsX10 _ h9)) dX1_mostAlike_85 ?_
      refine lv_iload hx hb dX1_mostAlike_88 (lv_at hl 0 rfl) ?_
      refine lv_dup2_11 hx hb dX1_mostAlike_90 rfl rfl ?_
      refine k_iald C hK hW (shC_lt (rfl : shC 73 = 14) (by decide)) (ceC_14 (rfl : shC 73 = 14) (rfl : lnC 73 = 10000)) hq.1 dX1_mostAlike_91 ?_
      have hq := hq.2
      refine lv_iconst (v := 1) hx hb dX1_mostAlike_92 (by decide) ?_
      refine lv_iadd hx hb dX1_mostAlike_93 ?_
      refine k_iast okC C hK hW (shC_lt (rfl : shC 73 = 14) (by decide)) (fun g9 => ceC_14 (rfl : shC 73 = 14) (rfl : lnC 73 = 10000)) hq.1 dX1_mostAlike_94 (fun H locs hW => ?_)
      have hq := hq.2
      obtain ⟨h8, eh8⟩ : ∃ z : hp, z = sI h6 73 (ix r7) ((gI h6 73 (ix r7)) + 1) := ⟨_, rfl⟩
      rw [← eh8] at hW
      have hq := hq h8 eh8
      refine lv_iload_n hx hb dX1_mostAlike_95 rfl (lv_at hl 3 rfl) ?_
      refine lv_aload_n hx hb dX1_mostAlike_96 rfl (lv_at hl 1 rfl) ?_
      refine gt1_5 C hK hW (rfl : shC 71 = 1) (List.mem_cons_of_mem _ mw240) (fun _ h9 => List.mem_cons_of_mem _ (inU_wsX10 _ h9)) dX1_mostAlike_97 ?_
      refine lv_iload hx hb dX1_mostAlike_100 (lv_at hl 0 rfl) ?_
      refine k_iald C hK hW (shC_lt (rfl : shC 73 = 14) (by decide)) (ceC_14 (rfl : shC 73 = 14) (rfl : lnC 73 = 10000)) hq.1 dX1_mostAlike_102 ?_
      have hq := hq.2
      refine va_mmax hx hb (C.2.2.2.1.trans hl.1.symm) C.2.2.2.2.1 (C.2.2.2.2.2.1 _ (List.mem_cons_of_mem _ mw1029)) (C.2.2.2.2.2.1 _ (List.mem_cons_of_mem _ mw513)) (C.2.2.2.2.2.1 _ (List.mem_cons_of_mem _ mw510)) (C.2.2.2.2.2.1 _ (List.mem_cons_of_mem _ mw514)) (Nat.le_of_ble_eq_true rfl) (Nat.le_of_ble_eq_true rfl) (Nat.le_refl 0) (Nat.le_refl 0) dX1_mostAlike_103 ?_
      refine lv_topi (fun x3_9 ex3_9 => ?_)
      have hq := hq x3_9 ex3_9
      refine lv_istore_n (lv' := [(3, .int x3_9), (5, .int r7), (0, .ref (G.2.2 71)), (2, .int x2), (4, .int x4)]) hx hb dX1_mostAlike_106 rfl hl (by decide) rfl (fun ls hl => ?_)
      obtain ⟨x4_10, ex4_10⟩ : ∃ y : Int32, y = x4 + 1 := ⟨_, rfl⟩
      have hq := hq x4_10 ex4_10
      refine lv_iinc (v := x4_10) (lv' := [(4, .int x4_10), (3, .int x3_9), (5, .int r7), (0, .ref (G.2.2 71)), (2, .int x2)]) hx hb dX1_mostAlike_107 hl (k := 4) rfl (by rw [ex4_10]; rfl) (by decide) rfl (fun ls hl => ?_)
      refine lv_goto (tgt := 41) hx hb dX1_mostAlike_110 (by decide) ?_
      exact hX41 _ _ _ _ _ _ hW (lv_sub hl [3, 4, 1, 0] rfl) hq
theorem k_X1_mostAlike_41 {Q : Int32 → hp → Prop} {x2 : Int32} (C : kC p s m args meth c cX1_mostAlike 6 (some .int) RX1 wUX1_mostAlike) (hK : kK G s) {x3 : Int32} {x4 : Int32} {h : hp} {H : Heap} {locs : List Loc} {ls : Array Slot} (hW : kW SC G h (aS SC G) s H locs) (hl : lv_has ls 6 [(0, .ref (G.2.2 71)), (2, .int x2), (3, .int x3), (4, .int x4)]) (hq : w_X1_mostAlike_41 Q x2 x3 x4 h) : W p l e rmX1_mostAlike s m args below meth c H locs 0 0 (MQ below (va_Qi Q (kB SC G) (aS SC G)) args s 0 0 (aS SC G)) (F0 m 41 ls []) := by
  have key := hq (fun (q : Int32 × Int32 × hp) => ∀ (H : Heap) (locs : List Loc) (ls : Array Slot), kW SC G q.2.2 (aS SC G) s H locs → lv_has ls 6 [(0, .ref (G.2.2 71)), (2, .int x2), (3, .int q.1), (4, .int q.2.1)] → W p l e rmX1_mostAlike s m args below meth c H locs 0 0 (MQ below (va_Qi Q (kB SC G) (aS SC G)) args s 0 0 (aS SC G)) (F0 m 41 ls []))
    (fun q hq H locs ls hW hl => k_X1_mostAlike_b41 C hK (fun x3 x4 h H locs ls hW hl hI => hI H locs ls hW hl) hW hl hq)
  exact key _ _ _ hW hl
theorem k_X1_mostAlike_0 {Q : Int32 → hp → Prop} {x1 : Int32} {x2 : Int32} {h : hp} (C : kC p s m args meth c cX1_mostAlike 6 (some .int) RX1 wUX1_mostAlike) (hK : kK G s) {H : Heap} {locs : List Loc} {ls : Array Slot} (hW : kW SC G h (aS SC G) s H locs) (hl : lv_has ls 6 [(0, .ref (G.2.2 71)), (1, .int x1), (2, .int x2)]) (hq : w_X1_mostAlike_0 Q x1 x2 h) : W p l e rmX1_mostAlike s m args below meth c H locs 0 0 (MQ below (va_Qi Q (kB SC G) (aS SC G)) args s 0 0 (aS SC G)) (F0 m 0 ls []) := by
  have hx := C.1
  have hb := C.2.1
  unfold w_X1_mostAlike_0 at hq
  refine lv_aload_n hx hb dX1_mostAlike_0 rfl (lv_at hl 0 rfl) ?_
  refine gt1_4 C hK hW (rfl : shC 71 = 1) (List.mem_cons_of_mem _ mw243) (fun _ h9 => List.mem_cons_of_mem _ (inU_wsX10 _ h9)) dX1_mostAlike_1 ?_
  refine lv_iload_n hx hb dX1_mostAlike_4 rfl (lv_at hl 1 rfl) ?_
  refine lv_i2l (v := x1.toInt64) hx hb dX1_mostAlike_5 rfl ?_
  refine k_cv hW (va_runV (As := [.long (x1.toInt64)]) (rest := []) (k_fix C) (c_X10_comeBy l G h (x1.toInt64) _ hq) (cwV 1 C.2.2.2.2.2.1 (gU_V mw978 mw855 mw856 mw34 mw857) rfl rfl rfl (by decide +kernel) ⟨Nat.le_of_ble_eq_true rfl, Nat.le_of_ble_eq_true rfl⟩) (k_preV hK hW (shC_lt (rfl : shC 64 = 10) (by decide)) (ceC_10 (rfl : shC 64 = 10)) (q := (RX10, TX10, 7)) rfl) rfl rfl hl.1 rfl (lv_room (Nat.le_of_ble_eq_true rfl)) dX1_mostAlike_6 ⟨Nat.le_refl 0, Nat.le_refl 0⟩) (fun h1 H locs hq hW => ?_)
  refine lv_aload_n hx hb dX1_mostAlike_9 rfl (lv_at hl 0 rfl) ?_
  refine gt1_4 C hK hW (rfl : shC 71 = 1) (List.mem_cons_of_mem _ mw243) (fun _ h9 => List.mem_cons_of_mem _ (inU_wsX10 _ h9)) dX1_mostAlike_10 ?_
  refine gt10_6 C hK hW (rfl : shC 64 = 10) (List.mem_cons_of_mem _ mw1078) (fun _ h9 => List.mem_cons_of_mem _ (inU_wsX100 _ h9)) dX1_mostAlike_13 ?_
  refine lv_aload_n hx hb dX1_mostAlike_16 rfl (lv_at hl 0 rfl) ?_
  refine gt1_1 C hK hW (rfl : shC 71 = 1) (List.mem_cons_of_mem _ mw237) (fun _ h9 => List.mem_cons_of_mem _ (inU_wsX10 _ h9)) dX1_mostAlike_17 ?_
  refine k_cv hW (va_runV (As := [.int (gI h1 71 1)]) (rest := []) (k_fix C) (c_X4_clear l G h1 (gI h1 71 1) _ hq) (cwV 1 C.2.2.2.2.2.1 (gU_V mw1079 mw859 mw860 mw224 mw861) rfl rfl rfl (by decide +kernel) ⟨Nat.le_of_ble_eq_true rfl, Nat.le_of_ble_eq_true rfl⟩) (k_preV hK hW (shC_lt (rfl : shC 68 = 4) (by decide)) (ceC_4 (rfl : shC 68 = 4)) (q := (RX4, TX4, 3)) rfl) rfl rfl hl.1 rfl (lv_room (Nat.le_of_ble_eq_true rfl)) dX1_mostAlike_20 ⟨Nat.le_refl 0, Nat.le_refl 0⟩) (fun h2 H locs hq hW => ?_)
  refine lv_aload_n hx hb dX1_mostAlike_23 rfl (lv_at hl 0 rfl) ?_
  refine gt1_5 C hK hW (rfl : shC 71 = 1) (List.mem_cons_of_mem _ mw240) (fun _ h9 => List.mem_cons_of_mem _ (inU_wsX10 _ h9)) dX1_mostAlike_24 ?_
  refine lv_iconst (v := 0) hx hb dX1_mostAlike_27 (by decide) ?_
  refine lv_aload_n hx hb dX1_mostAlike_28 rfl (lv_at hl 0 rfl) ?_
  refine gt1_1 C hK hW (rfl : shC 71 = 1) (List.mem_cons_of_mem _ mw237) (fun _ h9 => List.mem_cons_of_mem _ (inU_wsX10 _ h9)) dX1_mostAlike_29 ?_
  refine lv_iconst (v := 0) hx hb dX1_mostAlike_32 (by decide) ?_
  refine k_cv hW (va_runS (As := [.ref (G.2.2 73), .int 0, .int (gI h2 71 1), .int 0]) (rest := []) (k_fix C) (c_J7_fill_fda19 l G (rfl : shC 73 = 14) (rfl : lnC 73 = 10000) h2 0 (gI h2 71 1) 0 _ hq) (va_cwS 4 C.2.2.2.2.2.1 (gU_S mw1080 mw863 mw864 mw865) rfl rfl rfl (by decide +kernel) ⟨Nat.le_of_ble_eq_true rfl, Nat.le_of_ble_eq_true rfl⟩) (k_preS hK hW) rfl rfl hl.1 rfl (lv_room (Nat.le_of_ble_eq_true rfl)) dX1_mostAlike_33 ⟨Nat.le_refl 0, Nat.le_refl 0⟩) (fun h3 H locs hq hW => ?_)
  refine lv_iconst (v := 0) hx hb dX1_mostAlike_36 (by decide) ?_
  refine lv_istore_n (lv' := [(3, .int 0), (0, .ref (G.2.2 71)), (1, .int x1), (2, .int x2)]) hx hb dX1_mostAlike_37 rfl hl (by decide) rfl (fun ls hl => ?_)
  refine lv_iconst (v := 0) hx hb dX1_mostAlike_38 (by decide) ?_
  refine lv_istore (lv' := [(4, .int 0), (3, .int 0), (0, .ref (G.2.2 71)), (1, .int x1), (2, .int x2)]) hx hb dX1_mostAlike_39 hl (by decide) rfl (fun ls hl => ?_)
  exact k_X1_mostAlike_41 C hK hW (lv_sub hl [2, 4, 1, 0] rfl) hq
theorem c_X1_mostAlike (l : Launch) (G : wG) (h : hp) (x1 : Int32) (x2 : Int32) (Q : Int32 → hp → Prop) (hq : w_X1_mostAlike h x1 x2 Q) : ctI l SC G yX1_mostAlike wUX1_mostAlike rmX1_mostAlike h [.ref (G.2.2 71), .int x1, .int x2] Q := by
  refine k_start (cc := cX1_mostAlike) (maxL := 6) (rt := (some .int)) (own := RX1) (by decide +kernel) rfl rfl (Nat.le_of_ble_eq_true rfl) ?_
  intro p e s m below meth c ls C hK hW hl
  exact k_X1_mostAlike_0 C hK hW hl hq
theorem k_X1_findQuestion_b19 {Q : hp → Prop} {X19 : Int32 × hp → Prop} (C : kC p s m args meth c cX1_findQuestion 3 none RX1 wUX1_findQuestion) (hK : kK G s) (hX19 : ∀ (x1 : Int32) (h : hp) (H : Heap) (locs : List Loc) (ls : Array Slot), kW SC G h (aS SC G) s H locs → lv_has ls 3 [(0, .ref (G.2.2 71)), (1, .int x1)] → X19 (x1, h) → W p l e rmX1_findQuestion s m args below meth c H locs 0 0 (MQ below (va_Qv Q (kB SC G) (aS SC G)) args s 0 0 (aS SC G)) (F0 m 19 ls [])) {x1 : Int32} {h : hp} {H : Heap} {locs : List Loc} {ls : Array Slot} (hW : kW SC G h (aS SC G) s H locs) (hl : lv_has ls 3 [(0, .ref (G.2.2 71)), (1, .int x1)]) (hq : w_X1_findQuestion_b19 Q X19 x1 h) : W p l e rmX1_findQuestion s m args below meth c H locs 0 0 (MQ below (va_Qv Q (kB SC G) (aS SC G)) args s 0 0 (aS SC G)) (F0 m 19 ls []) := by
  have hx := C.1
  have hb := C.2.1
  unfold w_X1_findQuestion_b19 at hq
  refine lv_iload_n hx hb dX1_findQuestion_19 rfl (lv_at hl 1 rfl) ?_
  refine lv_bipush (v := 9) hx hb dX1_findQuestion_20 (by decide) ?_
  refine lv_icmp_gt (tgt := 67) hx hb dX1_findQuestion_22 (by decide) (fun c3 => ?_) (fun c3 => ?_)
  · have hq := hq.1 c3
    exact k_vret rfl C hW dX1_findQuestion_67 hq
  · have hq := hq.2 c3
    refine lv_aload_n hx hb dX1_findQuestion_25 rfl (lv_at hl 0 rfl) ?_
    refine gt1_3 C hK hW (rfl : shC 71 = 1) (List.mem_cons_of_mem _ mw239) (fun _ h9 => List.mem_cons_of_mem _ (inU_wsX10 _ h9)) dX1_findQuestion_26 ?_
    refine lv_iconst (v := 1) hx hb dX1_findQuestion_29 (by decide) ?_
    refine lv_icmp_le (tgt := 67) hx hb dX1_findQuestion_30 (by decide) (fun c4 => ?_) (fun c4 => ?_)
    · have hq := hq.1 c4
      exact k_vret rfl C hW dX1_findQuestion_67 hq
    · have hq := hq.2 c4
      refine lv_aload_n hx hb dX1_findQuestion_33 rfl (lv_at hl 0 rfl) ?_
      refine lv_iload_n hx hb dX1_findQuestion_34 rfl (lv_at hl 1 rfl) ?_
      refine lv_aload_n hx hb dX1_findQuestion_35 rfl (lv_at hl 0 rfl) ?_
      refine gt1_3 C hK hW (rfl : shC 71 = 1) (List.mem_cons_of_mem _ mw239) (fun _ h9 => List.mem_cons_of_mem _ (inU_wsX10 _ h9)) dX1_findQuestion_36 ?_
      refine k_ci hW (va_runV (As := [.int x1, .int (gI h 71 3)]) (rest := []) (k_fix C) (c_X1_mostAlike l G h x1 (gI h 71 3) _ hq) (cwV 2 C.2.2.2.2.2.1 (gU_V mw1074 mw1075 mw1076 mw38 mw1077) rfl rfl rfl (by decide +kernel) ⟨Nat.le_of_ble_eq_true rfl, Nat.le_of_ble_eq_true rfl⟩) (k_preV hK hW (shC_lt (rfl : shC 71 = 1) (by decide)) (ceC_1 (rfl : shC 71 = 1)) (q := (RX1, TX1, 7)) rfl) rfl rfl hl.1 rfl (lv_room (Nat.le_of_ble_eq_true rfl)) dX1_findQuestion_39 ⟨Nat.le_refl 0, Nat.le_refl 0⟩) (fun r6 h5 H locs hq hW => ?_)
      refine lv_istore_n (lv' := [(2, .int r6), (0, .ref (G.2.2 71)), (1, .int x1)]) hx hb dX1_findQuestion_42 rfl hl (by decide) rfl (fun ls hl => ?_)
      refine lv_iload_n hx hb dX1_findQuestion_43 rfl (lv_at hl 0 rfl) ?_
      refine lv_aload_n hx hb dX1_findQuestion_44 rfl (lv_at hl 1 rfl) ?_
      refine gt1_3 C hK hW (rfl : shC 71 = 1) (List.mem_cons_of_mem _ mw239) (fun _ h9 => List.mem_cons_of_mem _ (inU_wsX10 _ h9)) dX1_findQuestion_45 ?_
      refine lv_icmp_ge (tgt := 61) hx hb dX1_findQuestion_48 (by decide) (fun c7 => ?_) (fun c7 => ?_)
      · have hq := hq.1 c7
        obtain ⟨x1_8, ex1_8⟩ : ∃ y : Int32, y = x1 + 1 := ⟨_, rfl⟩
        have hq := hq x1_8 ex1_8
        refine lv_iinc (v := x1_8) (lv' := [(1, .int x1_8), (2, .int r6), (0, .ref (G.2.2 71))]) hx hb dX1_findQuestion_61 hl (k := 2) rfl (by rw [ex1_8]; rfl) (by decide) rfl (fun ls hl => ?_)
        refine lv_goto (tgt := 19) hx hb dX1_findQuestion_64 (by decide) ?_
        exact hX19 _ _ _ _ _ hW (lv_sub hl [2, 0] rfl) hq
      · have hq := hq.2 c7
        refine lv_aload_n hx hb dX1_findQuestion_51 rfl (lv_at hl 1 rfl) ?_
        refine lv_iload_n hx hb dX1_findQuestion_52 rfl (lv_at hl 2 rfl) ?_
        refine pt1_2 C hK hW (rfl : shC 71 = 1) (List.mem_cons_of_mem _ mw238) (fun _ h9 => List.mem_cons_of_mem _ (inU_wsX10 _ h9)) dX1_findQuestion_53 (fun h9 H locs eh9 hW => ?_)
        have hq := hq h9 eh9
        refine lv_aload_n hx hb dX1_findQuestion_56 rfl (lv_at hl 1 rfl) ?_
        refine lv_iload_n hx hb dX1_findQuestion_57 rfl (lv_at hl 0 rfl) ?_
        refine pt1_3 C hK hW (rfl : shC 71 = 1) (List.mem_cons_of_mem _ mw239) (fun _ h9 => List.mem_cons_of_mem _ (inU_wsX10 _ h9)) dX1_findQuestion_58 (fun h10 H locs eh10 hW => ?_)
        have hq := hq h10 eh10
        obtain ⟨x1_11, ex1_11⟩ : ∃ y : Int32, y = x1 + 1 := ⟨_, rfl⟩
        have hq := hq x1_11 ex1_11
        refine lv_iinc (v := x1_11) (lv' := [(1, .int x1_11), (2, .int r6), (0, .ref (G.2.2 71))]) hx hb dX1_findQuestion_61 hl (k := 2) rfl (by rw [ex1_11]; rfl) (by decide) rfl (fun ls hl => ?_)
        refine lv_goto (tgt := 19) hx hb dX1_findQuestion_64 (by decide) ?_
        exact hX19 _ _ _ _ _ hW (lv_sub hl [2, 0] rfl) hq
theorem k_X1_findQuestion_19 {Q : hp → Prop} (C : kC p s m args meth c cX1_findQuestion 3 none RX1 wUX1_findQuestion) (hK : kK G s) {x1 : Int32} {h : hp} {H : Heap} {locs : List Loc} {ls : Array Slot} (hW : kW SC G h (aS SC G) s H locs) (hl : lv_has ls 3 [(0, .ref (G.2.2 71)), (1, .int x1)]) (hq : w_X1_findQuestion_19 Q x1 h) : W p l e rmX1_findQuestion s m args below meth c H locs 0 0 (MQ below (va_Qv Q (kB SC G) (aS SC G)) args s 0 0 (aS SC G)) (F0 m 19 ls []) := by
  have key := hq (fun (q : Int32 × hp) => ∀ (H : Heap) (locs : List Loc) (ls : Array Slot), kW SC G q.2 (aS SC G) s H locs → lv_has ls 3 [(0, .ref (G.2.2 71)), (1, .int q.1)] → W p l e rmX1_findQuestion s m args below meth c H locs 0 0 (MQ below (va_Qv Q (kB SC G) (aS SC G)) args s 0 0 (aS SC G)) (F0 m 19 ls []))
    (fun q hq H locs ls hW hl => k_X1_findQuestion_b19 C hK (fun x1 h H locs ls hW hl hI => hI H locs ls hW hl) hW hl hq)
  exact key _ _ _ hW hl
theorem k_X1_findQuestion_0 {Q : hp → Prop} {h : hp} (C : kC p s m args meth c cX1_findQuestion 3 none RX1 wUX1_findQuestion) (hK : kK G s) {H : Heap} {locs : List Loc} {ls : Array Slot} (hW : kW SC G h (aS SC G) s H locs) (hl : lv_has ls 3 [(0, .ref (G.2.2 71))]) (hq : w_X1_findQuestion_0 Q h) : W p l e rmX1_findQuestion s m args below meth c H locs 0 0 (MQ below (va_Qv Q (kB SC G) (aS SC G)) args s 0 0 (aS SC G)) (F0 m 0 ls []) := by
  have hx := C.1
  have hb := C.2.1
  unfold w_X1_findQuestion_0 at hq
  refine lv_aload_n hx hb dX1_findQuestion_0 rfl (lv_at hl 0 rfl) ?_
  refine lv_bipush (v := (-9)) hx hb dX1_findQuestion_1 (by decide) ?_
  refine pt1_2 C hK hW (rfl : shC 71 = 1) (List.mem_cons_of_mem _ mw238) (fun _ h9 => List.mem_cons_of_mem _ (inU_wsX10 _ h9)) dX1_findQuestion_3 (fun h1 H locs eh1 hW => ?_)
  have hq := hq h1 eh1
  refine lv_aload_n hx hb dX1_findQuestion_6 rfl (lv_at hl 0 rfl) ?_
  refine lv_aload_n hx hb dX1_findQuestion_7 rfl (lv_at hl 0 rfl) ?_
  refine gt1_1 C hK hW (rfl : shC 71 = 1) (List.mem_cons_of_mem _ mw237) (fun _ h9 => List.mem_cons_of_mem _ (inU_wsX10 _ h9)) dX1_findQuestion_8 ?_
  refine lv_iconst (v := 1) hx hb dX1_findQuestion_11 (by decide) ?_
  refine lv_iadd hx hb dX1_findQuestion_12 ?_
  refine pt1_3 C hK hW (rfl : shC 71 = 1) (List.mem_cons_of_mem _ mw239) (fun _ h9 => List.mem_cons_of_mem _ (inU_wsX10 _ h9)) dX1_findQuestion_13 (fun h2 H locs eh2 hW => ?_)
  have hq := hq h2 eh2
  refine lv_bipush (v := (-9)) hx hb dX1_findQuestion_16 (by decide) ?_
  refine lv_istore_n (lv' := [(1, .int (-9)), (0, .ref (G.2.2 71))]) hx hb dX1_findQuestion_18 rfl hl (by decide) rfl (fun ls hl => ?_)
  exact k_X1_findQuestion_19 C hK hW (lv_sub hl [1, 0] rfl) hq
theorem c_X1_findQuestion (l : Launch) (G : wG) (h : hp) (Q : hp → Prop) (hq : w_X1_findQuestion h Q) : ctV l SC G yX1_findQuestion wUX1_findQuestion rmX1_findQuestion h [.ref (G.2.2 71)] Q := by
  refine k_start (cc := cX1_findQuestion) (maxL := 3) (rt := none) (own := RX1) (by decide +kernel) rfl rfl (Nat.le_of_ble_eq_true rfl) ?_
  intro p e s m below meth c ls C hK hW hl
  exact k_X1_findQuestion_0 C hK hW hl hq
theorem k_X1_fillAnswers_b22 {Q : hp → Prop} {X2 : Int32 × hp → Prop} {X22 : Int32 × hp → Prop} {x1 : Int32} (C : kC p s m args meth c cX1_fillAnswers 3 none RX1 wUX1_fillAnswers) (hK : kK G s) (hX2 : ∀ (x1 : Int32) (h : hp) (H : Heap) (locs : List Loc) (ls : Array Slot), kW SC G h (aS SC G) s H locs → lv_has ls 3 [(0, .ref (G.2.2 71)), (1, .int x1)] → X2 (x1, h) → W p l e rmX1_fillAnswers s m args below meth c H locs 0 0 (MQ below (va_Qv Q (kB SC G) (aS SC G)) args s 0 0 (aS SC G)) (F0 m 2 ls [])) (hX22 : ∀ (x2 : Int32) (h : hp) (H : Heap) (locs : List Loc) (ls : Array Slot), kW SC G h (aS SC G) s H locs → lv_has ls 3 [(0, .ref (G.2.2 71)), (1, .int x1), (2, .int x2)] → X22 (x2, h) → W p l e rmX1_fillAnswers s m args below meth c H locs 0 0 (MQ below (va_Qv Q (kB SC G) (aS SC G)) args s 0 0 (aS SC G)) (F0 m 22 ls [])) {x2 : Int32} {h : hp} {H : Heap} {locs : List Loc} {ls : Array Slot} (hW : kW SC G h (aS SC G) s H locs) (hl : lv_has ls 3 [(0, .ref (G.2.2 71)), (1, .int x1), (2, .int x2)]) (hq : w_X1_fillAnswers_b22 Q X2 x1 X22 x2 h) : W p l e rmX1_fillAnswers s m args below meth c H locs 0 0 (MQ below (va_Qv Q (kB SC G) (aS SC G)) args s 0 0 (aS SC G)) (F0 m 22 ls []) := by
  have hx := C.1
  have hb := C.2.1
  unfold w_X1_fillAnswers_b22 at hq
  refine lv_iload_n hx hb dX1_fillAnswers_22 rfl (lv_at hl 2 rfl) ?_
  refine lv_aload_n hx hb dX1_fillAnswers_23 rfl (lv_at hl 0 rfl) ?_
  refine gt1_1 C hK hW (rfl : shC 71 = 1) (List.mem_cons_of_mem _ mw237) (fun _ h9 => List.mem_cons_of_mem _ (inU_wsX10 _ h9)) dX1_fillAnswers_24 ?_
  refine lv_icmp_ge (tgt := 58) hx hb dX1_fillAnswers_27 (by decide) (fun c3 => ?_) (fun c3 => ?_)
  · have hq := hq.1 c3
    obtain ⟨x1_4, ex1_4⟩ : ∃ y : Int32, y = x1 + 1 := ⟨_, rfl⟩
    have hq := hq x1_4 ex1_4
    refine lv_iinc (v := x1_4) (lv' := [(1, .int x1_4), (0, .ref (G.2.2 71)), (2, .int x2)]) hx hb dX1_fillAnswers_58 hl (k := 1) rfl (by rw [ex1_4]; rfl) (by decide) rfl (fun ls hl => ?_)
    refine lv_goto (tgt := 2) hx hb dX1_fillAnswers_61 (by decide) ?_
    exact hX2 _ _ _ _ _ hW (lv_sub hl [1, 0] rfl) hq
  · have hq := hq.2 c3
    refine lv_aload_n hx hb dX1_fillAnswers_30 rfl (lv_at hl 0 rfl) ?_
    refine gt1_6 C hK hW (rfl : shC 71 = 1) (List.mem_cons_of_mem _ mw242) (fun _ h9 => List.mem_cons_of_mem _ (inU_wsX10 _ h9)) dX1_fillAnswers_31 ?_
    refine lv_iload_n hx hb dX1_fillAnswers_34 rfl (lv_at hl 1 rfl) ?_
    have hv5 := hq.1
    have hq := hq.2
    refine k_aald C hK hW (shC_lt (rfl : shC 74 = 18) (by decide)) (t0 := 5) rfl rfl (ceC_18 (rfl : shC 74 = 18)) hv5 (sl_if hv5) dX1_fillAnswers_35 ?_
    refine lv_iload_n hx hb dX1_fillAnswers_36 rfl (lv_at hl 2 rfl) ?_
    refine lv_aload_n hx hb dX1_fillAnswers_37 rfl (lv_at hl 0 rfl) ?_
    refine gt1_4 C hK hW (rfl : shC 71 = 1) (List.mem_cons_of_mem _ mw243) (fun _ h9 => List.mem_cons_of_mem _ (inU_wsX10 _ h9)) dX1_fillAnswers_38 ?_
    refine gt10_3 C hK hW (rfl : shC 64 = 10) (List.mem_cons_of_mem _ mw983) (fun _ h9 => List.mem_cons_of_mem _ (inU_wsX100 _ h9)) dX1_fillAnswers_41 ?_
    refine lv_aload_n hx hb dX1_fillAnswers_44 rfl (lv_at hl 0 rfl) ?_
    refine gt1_0 C hK hW (rfl : shC 71 = 1) (List.mem_cons_of_mem _ mw236) (fun _ h9 => List.mem_cons_of_mem _ (inU_wsX10 _ h9)) dX1_fillAnswers_45 ?_
    refine lv_iload_n hx hb dX1_fillAnswers_48 rfl (lv_at hl 2 rfl) ?_
    refine k_iald C hK hW (shC_lt (rfl : shC 72 = 14) (by decide)) (ceC_14 (rfl : shC 72 = 14) (rfl : lnC 72 = 10000)) hq.1 dX1_fillAnswers_49 ?_
    have hq := hq.2
    refine k_lald C hK hW (shC_lt (rfl : shC 65 = 15) (by decide)) (ceC_15 (rfl : shC 65 = 15) (rfl : lnC 65 = 10000)) hq.1 dX1_fillAnswers_50 ?_
    have hq := hq.2
    refine k_last okC C hK hW (shC_lt (sl_J hv5).1 (by decide)) (fun g9 => ceC_15 (sl_J hv5).1 (sl_J hv5).2) hq.1 dX1_fillAnswers_51 (fun H locs hW => ?_)
    have hq := hq.2
    obtain ⟨h6, eh6⟩ : ∃ z : hp, z = sL h (75 + ix x1) (ix x2) (gL h 65 (ix (gI h 72 (ix x2)))) := ⟨_, rfl⟩
    rw [← eh6] at hW
    have hq := hq h6 eh6
    obtain ⟨x2_7, ex2_7⟩ : ∃ y : Int32, y = x2 + 1 := ⟨_, rfl⟩
    have hq := hq x2_7 ex2_7
    refine lv_iinc (v := x2_7) (lv' := [(2, .int x2_7), (0, .ref (G.2.2 71)), (1, .int x1)]) hx hb dX1_fillAnswers_52 hl (k := 2) rfl (by rw [ex2_7]; rfl) (by decide) rfl (fun ls hl => ?_)
    refine lv_goto (tgt := 22) hx hb dX1_fillAnswers_55 (by decide) ?_
    exact hX22 _ _ _ _ _ hW (lv_sub hl [1, 2, 0] rfl) hq
theorem k_X1_fillAnswers_22 {Q : hp → Prop} {X2 : Int32 × hp → Prop} {x1 : Int32} (C : kC p s m args meth c cX1_fillAnswers 3 none RX1 wUX1_fillAnswers) (hK : kK G s) (hX2 : ∀ (x1 : Int32) (h : hp) (H : Heap) (locs : List Loc) (ls : Array Slot), kW SC G h (aS SC G) s H locs → lv_has ls 3 [(0, .ref (G.2.2 71)), (1, .int x1)] → X2 (x1, h) → W p l e rmX1_fillAnswers s m args below meth c H locs 0 0 (MQ below (va_Qv Q (kB SC G) (aS SC G)) args s 0 0 (aS SC G)) (F0 m 2 ls [])) {x2 : Int32} {h : hp} {H : Heap} {locs : List Loc} {ls : Array Slot} (hW : kW SC G h (aS SC G) s H locs) (hl : lv_has ls 3 [(0, .ref (G.2.2 71)), (1, .int x1), (2, .int x2)]) (hq : w_X1_fillAnswers_22 Q X2 x1 x2 h) : W p l e rmX1_fillAnswers s m args below meth c H locs 0 0 (MQ below (va_Qv Q (kB SC G) (aS SC G)) args s 0 0 (aS SC G)) (F0 m 22 ls []) := by
  have key := hq (fun (q : Int32 × hp) => ∀ (H : Heap) (locs : List Loc) (ls : Array Slot), kW SC G q.2 (aS SC G) s H locs → lv_has ls 3 [(0, .ref (G.2.2 71)), (1, .int x1), (2, .int q.1)] → W p l e rmX1_fillAnswers s m args below meth c H locs 0 0 (MQ below (va_Qv Q (kB SC G) (aS SC G)) args s 0 0 (aS SC G)) (F0 m 22 ls []))
    (fun q hq H locs ls hW hl => k_X1_fillAnswers_b22 C hK hX2 (fun x2 h H locs ls hW hl hI => hI H locs ls hW hl) hW hl hq)
  exact key _ _ _ hW hl
theorem k_X1_fillAnswers_b2 {Q : hp → Prop} {X2 : Int32 × hp → Prop} (C : kC p s m args meth c cX1_fillAnswers 3 none RX1 wUX1_fillAnswers) (hK : kK G s) (hX2 : ∀ (x1 : Int32) (h : hp) (H : Heap) (locs : List Loc) (ls : Array Slot), kW SC G h (aS SC G) s H locs → lv_has ls 3 [(0, .ref (G.2.2 71)), (1, .int x1)] → X2 (x1, h) → W p l e rmX1_fillAnswers s m args below meth c H locs 0 0 (MQ below (va_Qv Q (kB SC G) (aS SC G)) args s 0 0 (aS SC G)) (F0 m 2 ls [])) {x1 : Int32} {h : hp} {H : Heap} {locs : List Loc} {ls : Array Slot} (hW : kW SC G h (aS SC G) s H locs) (hl : lv_has ls 3 [(0, .ref (G.2.2 71)), (1, .int x1)]) (hq : w_X1_fillAnswers_b2 Q X2 x1 h) : W p l e rmX1_fillAnswers s m args below meth c H locs 0 0 (MQ below (va_Qv Q (kB SC G) (aS SC G)) args s 0 0 (aS SC G)) (F0 m 2 ls []) := by
  have hx := C.1
  have hb := C.2.1
  unfold w_X1_fillAnswers_b2 at hq
  refine lv_iload_n hx hb dX1_fillAnswers_2 rfl (lv_at hl 1 rfl) ?_
  refine lv_bipush (v := 19) hx hb dX1_fillAnswers_3 (by decide) ?_
  refine lv_icmp_ge (tgt := 64) hx hb dX1_fillAnswers_5 (by decide) (fun c1 => ?_) (fun c1 => ?_)
  · have hq := hq.1 c1
    exact k_vret rfl C hW dX1_fillAnswers_64 hq
  · have hq := hq.2 c1
    refine lv_aload_n hx hb dX1_fillAnswers_8 rfl (lv_at hl 0 rfl) ?_
    refine gt1_4 C hK hW (rfl : shC 71 = 1) (List.mem_cons_of_mem _ mw243) (fun _ h9 => List.mem_cons_of_mem _ (inU_wsX10 _ h9)) dX1_fillAnswers_9 ?_
    refine lv_iload_n hx hb dX1_fillAnswers_12 rfl (lv_at hl 1 rfl) ?_
    refine lv_bipush (v := 9) hx hb dX1_fillAnswers_13 (by decide) ?_
    refine lv_isub hx hb dX1_fillAnswers_15 ?_
    refine lv_i2l (v := (x1 - 9).toInt64) hx hb dX1_fillAnswers_16 rfl ?_
    refine k_cv hW (va_runV (As := [.long ((x1 - 9).toInt64)]) (rest := []) (k_fix C) (c_X10_comeBy l G h ((x1 - 9).toInt64) _ hq) (cwV 1 C.2.2.2.2.2.1 (gU_V mw978 mw855 mw856 mw34 mw857) rfl rfl rfl (by decide +kernel) ⟨Nat.le_of_ble_eq_true rfl, Nat.le_of_ble_eq_true rfl⟩) (k_preV hK hW (shC_lt (rfl : shC 64 = 10) (by decide)) (ceC_10 (rfl : shC 64 = 10)) (q := (RX10, TX10, 7)) rfl) rfl rfl hl.1 rfl (lv_room (Nat.le_of_ble_eq_true rfl)) dX1_fillAnswers_17 ⟨Nat.le_refl 0, Nat.le_refl 0⟩) (fun h2 H locs hq hW => ?_)
    refine lv_iconst (v := 0) hx hb dX1_fillAnswers_20 (by decide) ?_
    refine lv_istore_n (lv' := [(2, .int 0), (0, .ref (G.2.2 71)), (1, .int x1)]) hx hb dX1_fillAnswers_21 rfl hl (by decide) rfl (fun ls hl => ?_)
    exact k_X1_fillAnswers_22 C hK hX2 hW (lv_sub hl [1, 2, 0] rfl) hq
theorem k_X1_fillAnswers_2 {Q : hp → Prop} (C : kC p s m args meth c cX1_fillAnswers 3 none RX1 wUX1_fillAnswers) (hK : kK G s) {x1 : Int32} {h : hp} {H : Heap} {locs : List Loc} {ls : Array Slot} (hW : kW SC G h (aS SC G) s H locs) (hl : lv_has ls 3 [(0, .ref (G.2.2 71)), (1, .int x1)]) (hq : w_X1_fillAnswers_2 Q x1 h) : W p l e rmX1_fillAnswers s m args below meth c H locs 0 0 (MQ below (va_Qv Q (kB SC G) (aS SC G)) args s 0 0 (aS SC G)) (F0 m 2 ls []) := by
  have key := hq (fun (q : Int32 × hp) => ∀ (H : Heap) (locs : List Loc) (ls : Array Slot), kW SC G q.2 (aS SC G) s H locs → lv_has ls 3 [(0, .ref (G.2.2 71)), (1, .int q.1)] → W p l e rmX1_fillAnswers s m args below meth c H locs 0 0 (MQ below (va_Qv Q (kB SC G) (aS SC G)) args s 0 0 (aS SC G)) (F0 m 2 ls []))
    (fun q hq H locs ls hW hl => k_X1_fillAnswers_b2 C hK (fun x1 h H locs ls hW hl hI => hI H locs ls hW hl) hW hl hq)
  exact key _ _ _ hW hl
theorem k_X1_fillAnswers_0 {Q : hp → Prop} {h : hp} (C : kC p s m args meth c cX1_fillAnswers 3 none RX1 wUX1_fillAnswers) (hK : kK G s) {H : Heap} {locs : List Loc} {ls : Array Slot} (hW : kW SC G h (aS SC G) s H locs) (hl : lv_has ls 3 [(0, .ref (G.2.2 71))]) (hq : w_X1_fillAnswers_0 Q h) : W p l e rmX1_fillAnswers s m args below meth c H locs 0 0 (MQ below (va_Qv Q (kB SC G) (aS SC G)) args s 0 0 (aS SC G)) (F0 m 0 ls []) := by
  have hx := C.1
  have hb := C.2.1
  unfold w_X1_fillAnswers_0 at hq
  refine lv_iconst (v := 0) hx hb dX1_fillAnswers_0 (by decide) ?_
  refine lv_istore_n (lv' := [(1, .int 0), (0, .ref (G.2.2 71))]) hx hb dX1_fillAnswers_1 rfl hl (by decide) rfl (fun ls hl => ?_)
  exact k_X1_fillAnswers_2 C hK hW (lv_sub hl [1, 0] rfl) hq
theorem c_X1_fillAnswers (l : Launch) (G : wG) (h : hp) (Q : hp → Prop) (hq : w_X1_fillAnswers h Q) : ctV l SC G yX1_fillAnswers wUX1_fillAnswers rmX1_fillAnswers h [.ref (G.2.2 71)] Q := by
  refine k_start (cc := cX1_fillAnswers) (maxL := 3) (rt := none) (own := RX1) (by decide +kernel) rfl rfl (Nat.le_of_ble_eq_true rfl) ?_
  intro p e s m below meth c ls C hK hW hl
  exact k_X1_fillAnswers_0 C hK hW hl hq
theorem k_X1_isApartBy_b13 {Q : Int32 → Prop} {X2 : Int32 → Prop} {X13 : Int32 → Prop} {x1 : Int32} {x2 : Int32} {x3 : Int32} {h : hp} (C : kC p s m args meth c cX1_isApartBy 5 (some .boolean) RX1 wUX1_isApartBy) (hK : kK G s) (hX2 : ∀ (x3 : Int32) (H : Heap) (locs : List Loc) (ls : Array Slot), kW SC G h (aS SC G) s H locs → lv_has ls 5 [(0, .ref (G.2.2 71)), (1, .int x1), (2, .int x2), (3, .int x3)] → X2 x3 → W p l e rmX1_isApartBy s m args below meth c H locs 0 0 (MQ below (va_Qi (fun r9 h9 => h9 = h ∧ Q r9) (kB SC G) (aS SC G)) args s 0 0 (aS SC G)) (F0 m 2 ls [])) (hX13 : ∀ (x4 : Int32) (H : Heap) (locs : List Loc) (ls : Array Slot), kW SC G h (aS SC G) s H locs → lv_has ls 5 [(0, .ref (G.2.2 71)), (1, .int x1), (2, .int x2), (3, .int x3), (4, .int x4)] → X13 x4 → W p l e rmX1_isApartBy s m args below meth c H locs 0 0 (MQ below (va_Qi (fun r9 h9 => h9 = h ∧ Q r9) (kB SC G) (aS SC G)) args s 0 0 (aS SC G)) (F0 m 13 ls [])) {x4 : Int32} {H : Heap} {locs : List Loc} {ls : Array Slot} (hW : kW SC G h (aS SC G) s H locs) (hl : lv_has ls 5 [(0, .ref (G.2.2 71)), (1, .int x1), (2, .int x2), (3, .int x3), (4, .int x4)]) (hq : w_X1_isApartBy_b13 Q X2 x1 x2 x3 h X13 x4) : W p l e rmX1_isApartBy s m args below meth c H locs 0 0 (MQ below (va_Qi (fun r9 h9 => h9 = h ∧ Q r9) (kB SC G) (aS SC G)) args s 0 0 (aS SC G)) (F0 m 13 ls []) := by
  have hx := C.1
  have hb := C.2.1
  unfold w_X1_isApartBy_b13 at hq
  refine lv_iload hx hb dX1_isApartBy_13 (lv_at hl 4 rfl) ?_
  refine lv_iload_n hx hb dX1_isApartBy_15 rfl (lv_at hl 3 rfl) ?_
  refine lv_icmp_ge (tgt := 61) hx hb dX1_isApartBy_16 (by decide) (fun c2 => ?_) (fun c2 => ?_)
  · have hq := hq.1 c2
    obtain ⟨x3_3, ex3_3⟩ : ∃ y : Int32, y = x3 + 1 := ⟨_, rfl⟩
    have hq := hq x3_3 ex3_3
    refine lv_iinc (v := x3_3) (lv' := [(3, .int x3_3), (0, .ref (G.2.2 71)), (1, .int x1), (2, .int x2), (4, .int x4)]) hx hb dX1_isApartBy_61 hl (k := 3) rfl (by rw [ex3_3]; rfl) (by decide) rfl (fun ls hl => ?_)
    refine lv_goto (tgt := 2) hx hb dX1_isApartBy_64 (by decide) ?_
    exact hX2 _ _ _ _ hW (lv_sub hl [1, 2, 3, 0] rfl) hq
  · have hq := hq.2 c2
    refine lv_iload_n hx hb dX1_isApartBy_19 rfl (lv_at hl 1 rfl) ?_
    refine lv_iload_n hx hb dX1_isApartBy_20 rfl (lv_at hl 3 rfl) ?_
    refine k_ishr hx hb dX1_isApartBy_21 ?_
    refine lv_iload_n hx hb dX1_isApartBy_22 rfl (lv_at hl 1 rfl) ?_
    refine lv_iload hx hb dX1_isApartBy_23 (lv_at hl 4 rfl) ?_
    refine k_ishr hx hb dX1_isApartBy_25 ?_
    refine lv_iand hx hb dX1_isApartBy_26 ?_
    refine lv_iconst (v := 1) hx hb dX1_isApartBy_27 (by decide) ?_
    refine lv_iand hx hb dX1_isApartBy_28 ?_
    refine lv_if_eq (tgt := 55) hx hb dX1_isApartBy_29 (by decide) (fun c4 => ?_) (fun c4 => ?_)
    · have hq := hq.1 c4
      obtain ⟨x4_5, ex4_5⟩ : ∃ y : Int32, y = x4 + 1 := ⟨_, rfl⟩
      have hq := hq x4_5 ex4_5
      refine lv_iinc (v := x4_5) (lv' := [(4, .int x4_5), (0, .ref (G.2.2 71)), (1, .int x1), (2, .int x2), (3, .int x3)]) hx hb dX1_isApartBy_55 hl (k := 4) rfl (by rw [ex4_5]; rfl) (by decide) rfl (fun ls hl => ?_)
      refine lv_goto (tgt := 13) hx hb dX1_isApartBy_58 (by decide) ?_
      exact hX13 _ _ _ _ hW (lv_sub hl [1, 2, 3, 4, 0] rfl) hq
    · have hq := hq.2 c4
      refine lv_aload_n hx hb dX1_isApartBy_32 rfl (lv_at hl 0 rfl) ?_
      refine gt1_6 C hK hW (rfl : shC 71 = 1) (List.mem_cons_of_mem _ mw242) (fun _ h9 => List.mem_cons_of_mem _ (inU_wsX10 _ h9)) dX1_isApartBy_33 ?_
      refine lv_iload_n hx hb dX1_isApartBy_36 rfl (lv_at hl 2 rfl) ?_
      have hv6 := hq.1
      have hq := hq.2
      refine k_aald C hK hW (shC_lt (rfl : shC 74 = 18) (by decide)) (t0 := 5) rfl rfl (ceC_18 (rfl : shC 74 = 18)) hv6 (sl_if hv6) dX1_isApartBy_37 ?_
      refine lv_iload_n hx hb dX1_isApartBy_38 rfl (lv_at hl 3 rfl) ?_
      refine k_lald C hK hW (shC_lt (sl_J hv6).1 (by decide)) (ceC_15 (sl_J hv6).1 (sl_J hv6).2) hq.1 dX1_isApartBy_39 ?_
      have hq := hq.2
      refine lv_aload_n hx hb dX1_isApartBy_40 rfl (lv_at hl 0 rfl) ?_
      refine gt1_6 C hK hW (rfl : shC 71 = 1) (List.mem_cons_of_mem _ mw242) (fun _ h9 => List.mem_cons_of_mem _ (inU_wsX10 _ h9)) dX1_isApartBy_41 ?_
      refine lv_iload_n hx hb dX1_isApartBy_44 rfl (lv_at hl 2 rfl) ?_
      have hv7 := hq.1
      have hq := hq.2
      refine k_aald C hK hW (shC_lt (rfl : shC 74 = 18) (by decide)) (t0 := 5) rfl rfl (ceC_18 (rfl : shC 74 = 18)) hv7 (sl_if hv7) dX1_isApartBy_45 ?_
      refine lv_iload hx hb dX1_isApartBy_46 (lv_at hl 4 rfl) ?_
      refine k_lald C hK hW (shC_lt (sl_J hv7).1 (by decide)) (ceC_15 (sl_J hv7).1 (sl_J hv7).2) hq.1 dX1_isApartBy_48 ?_
      have hq := hq.2
      refine W.lcmp hx hb dX1_isApartBy_49 ?_
      refine lv_if_ne (tgt := 55) hx hb dX1_isApartBy_50 (by decide) (fun c8 => ?_) (fun c8 => ?_)
      · have hq := hq.1 (fun z => c8 ((lg_cmp_eq _ _).mpr z))
        obtain ⟨x4_9, ex4_9⟩ : ∃ y : Int32, y = x4 + 1 := ⟨_, rfl⟩
        have hq := hq x4_9 ex4_9
        refine lv_iinc (v := x4_9) (lv' := [(4, .int x4_9), (0, .ref (G.2.2 71)), (1, .int x1), (2, .int x2), (3, .int x3)]) hx hb dX1_isApartBy_55 hl (k := 4) rfl (by rw [ex4_9]; rfl) (by decide) rfl (fun ls hl => ?_)
        refine lv_goto (tgt := 13) hx hb dX1_isApartBy_58 (by decide) ?_
        exact hX13 _ _ _ _ hW (lv_sub hl [1, 2, 3, 4, 0] rfl) hq
      · have hq := hq.2 ((lg_cmp_eq _ _).mp c8)
        refine lv_iconst (v := 0) hx hb dX1_isApartBy_53 (by decide) ?_
        exact k_zret rfl isZ_0.1 C hW dX1_isApartBy_54 ⟨rfl, hq⟩
theorem k_X1_isApartBy_13 {Q : Int32 → Prop} {X2 : Int32 → Prop} {x1 : Int32} {x2 : Int32} {x3 : Int32} {h : hp} (C : kC p s m args meth c cX1_isApartBy 5 (some .boolean) RX1 wUX1_isApartBy) (hK : kK G s) (hX2 : ∀ (x3 : Int32) (H : Heap) (locs : List Loc) (ls : Array Slot), kW SC G h (aS SC G) s H locs → lv_has ls 5 [(0, .ref (G.2.2 71)), (1, .int x1), (2, .int x2), (3, .int x3)] → X2 x3 → W p l e rmX1_isApartBy s m args below meth c H locs 0 0 (MQ below (va_Qi (fun r9 h9 => h9 = h ∧ Q r9) (kB SC G) (aS SC G)) args s 0 0 (aS SC G)) (F0 m 2 ls [])) {x4 : Int32} {H : Heap} {locs : List Loc} {ls : Array Slot} (hW : kW SC G h (aS SC G) s H locs) (hl : lv_has ls 5 [(0, .ref (G.2.2 71)), (1, .int x1), (2, .int x2), (3, .int x3), (4, .int x4)]) (hq : w_X1_isApartBy_13 Q X2 x1 x2 x3 h x4) : W p l e rmX1_isApartBy s m args below meth c H locs 0 0 (MQ below (va_Qi (fun r9 h9 => h9 = h ∧ Q r9) (kB SC G) (aS SC G)) args s 0 0 (aS SC G)) (F0 m 13 ls []) := by
  have key := hq (fun (q : Int32) => ∀ (H : Heap) (locs : List Loc) (ls : Array Slot), kW SC G h (aS SC G) s H locs → lv_has ls 5 [(0, .ref (G.2.2 71)), (1, .int x1), (2, .int x2), (3, .int x3), (4, .int q)] → W p l e rmX1_isApartBy s m args below meth c H locs 0 0 (MQ below (va_Qi (fun r9 h9 => h9 = h ∧ Q r9) (kB SC G) (aS SC G)) args s 0 0 (aS SC G)) (F0 m 13 ls []))
    (fun q hq H locs ls hW hl => k_X1_isApartBy_b13 C hK hX2 (fun x4 H locs ls hW hl hI => hI H locs ls hW hl) hW hl hq)
  exact key _ _ _ hW hl
theorem k_X1_isApartBy_b2 {Q : Int32 → Prop} {X2 : Int32 → Prop} {x1 : Int32} {x2 : Int32} {h : hp} (C : kC p s m args meth c cX1_isApartBy 5 (some .boolean) RX1 wUX1_isApartBy) (hK : kK G s) (hX2 : ∀ (x3 : Int32) (H : Heap) (locs : List Loc) (ls : Array Slot), kW SC G h (aS SC G) s H locs → lv_has ls 5 [(0, .ref (G.2.2 71)), (1, .int x1), (2, .int x2), (3, .int x3)] → X2 x3 → W p l e rmX1_isApartBy s m args below meth c H locs 0 0 (MQ below (va_Qi (fun r9 h9 => h9 = h ∧ Q r9) (kB SC G) (aS SC G)) args s 0 0 (aS SC G)) (F0 m 2 ls [])) {x3 : Int32} {H : Heap} {locs : List Loc} {ls : Array Slot} (hW : kW SC G h (aS SC G) s H locs) (hl : lv_has ls 5 [(0, .ref (G.2.2 71)), (1, .int x1), (2, .int x2), (3, .int x3)]) (hq : w_X1_isApartBy_b2 Q x1 x2 h X2 x3) : W p l e rmX1_isApartBy s m args below meth c H locs 0 0 (MQ below (va_Qi (fun r9 h9 => h9 = h ∧ Q r9) (kB SC G) (aS SC G)) args s 0 0 (aS SC G)) (F0 m 2 ls []) := by
  have hx := C.1
  have hb := C.2.1
  unfold w_X1_isApartBy_b2 at hq
  refine lv_iload_n hx hb dX1_isApartBy_2 rfl (lv_at hl 3 rfl) ?_
  refine lv_aload_n hx hb dX1_isApartBy_3 rfl (lv_at hl 0 rfl) ?_
  refine gt1_1 C hK hW (rfl : shC 71 = 1) (List.mem_cons_of_mem _ mw237) (fun _ h9 => List.mem_cons_of_mem _ (inU_wsX10 _ h9)) dX1_isApartBy_4 ?_
  refine lv_icmp_ge (tgt := 67) hx hb dX1_isApartBy_7 (by decide) (fun c1 => ?_) (fun c1 => ?_)
  · have hq := hq.1 c1
    refine lv_iconst (v := 1) hx hb dX1_isApartBy_67 (by decide) ?_
    exact k_zret rfl isZ_1.1 C hW dX1_isApartBy_68 ⟨rfl, hq⟩
  · have hq := hq.2 c1
    refine lv_iconst (v := 0) hx hb dX1_isApartBy_10 (by decide) ?_
    refine lv_istore (lv' := [(4, .int 0), (0, .ref (G.2.2 71)), (1, .int x1), (2, .int x2), (3, .int x3)]) hx hb dX1_isApartBy_11 hl (by decide) rfl (fun ls hl => ?_)
    exact k_X1_isApartBy_13 C hK hX2 hW (lv_sub hl [1, 2, 3, 4, 0] rfl) hq
theorem k_X1_isApartBy_2 {Q : Int32 → Prop} {x1 : Int32} {x2 : Int32} {h : hp} (C : kC p s m args meth c cX1_isApartBy 5 (some .boolean) RX1 wUX1_isApartBy) (hK : kK G s) {x3 : Int32} {H : Heap} {locs : List Loc} {ls : Array Slot} (hW : kW SC G h (aS SC G) s H locs) (hl : lv_has ls 5 [(0, .ref (G.2.2 71)), (1, .int x1), (2, .int x2), (3, .int x3)]) (hq : w_X1_isApartBy_2 Q x1 x2 h x3) : W p l e rmX1_isApartBy s m args below meth c H locs 0 0 (MQ below (va_Qi (fun r9 h9 => h9 = h ∧ Q r9) (kB SC G) (aS SC G)) args s 0 0 (aS SC G)) (F0 m 2 ls []) := by
  have key := hq (fun (q : Int32) => ∀ (H : Heap) (locs : List Loc) (ls : Array Slot), kW SC G h (aS SC G) s H locs → lv_has ls 5 [(0, .ref (G.2.2 71)), (1, .int x1), (2, .int x2), (3, .int q)] → W p l e rmX1_isApartBy s m args below meth c H locs 0 0 (MQ below (va_Qi (fun r9 h9 => h9 = h ∧ Q r9) (kB SC G) (aS SC G)) args s 0 0 (aS SC G)) (F0 m 2 ls []))
    (fun q hq H locs ls hW hl => k_X1_isApartBy_b2 C hK (fun x3 H locs ls hW hl hI => hI H locs ls hW hl) hW hl hq)
  exact key _ _ _ hW hl
theorem k_X1_isApartBy_0 {Q : Int32 → Prop} {x1 : Int32} {x2 : Int32} {h : hp} (C : kC p s m args meth c cX1_isApartBy 5 (some .boolean) RX1 wUX1_isApartBy) (hK : kK G s) {H : Heap} {locs : List Loc} {ls : Array Slot} (hW : kW SC G h (aS SC G) s H locs) (hl : lv_has ls 5 [(0, .ref (G.2.2 71)), (1, .int x1), (2, .int x2)]) (hq : w_X1_isApartBy_0 Q x1 x2 h) : W p l e rmX1_isApartBy s m args below meth c H locs 0 0 (MQ below (va_Qi (fun r9 h9 => h9 = h ∧ Q r9) (kB SC G) (aS SC G)) args s 0 0 (aS SC G)) (F0 m 0 ls []) := by
  have hx := C.1
  have hb := C.2.1
  unfold w_X1_isApartBy_0 at hq
  refine lv_iconst (v := 0) hx hb dX1_isApartBy_0 (by decide) ?_
  refine lv_istore_n (lv' := [(3, .int 0), (0, .ref (G.2.2 71)), (1, .int x1), (2, .int x2)]) hx hb dX1_isApartBy_1 rfl hl (by decide) rfl (fun ls hl => ?_)
  exact k_X1_isApartBy_2 C hK hW (lv_sub hl [1, 2, 3, 0] rfl) hq
theorem c_X1_isApartBy (l : Launch) (G : wG) (h : hp) (x1 : Int32) (x2 : Int32) (Q : Int32 → Prop) (hq : w_X1_isApartBy h x1 x2 Q) : ctI l SC G yX1_isApartBy wUX1_isApartBy rmX1_isApartBy h [.ref (G.2.2 71), .int x1, .int x2] (fun r9 h9 => h9 = h ∧ Q r9) := by
  refine k_start (cc := cX1_isApartBy) (maxL := 5) (rt := (some .boolean)) (own := RX1) (by decide +kernel) rfl rfl (Nat.le_of_ble_eq_true rfl) ?_
  intro p e s m below meth c ls C hK hW hl
  exact k_X1_isApartBy_0 C hK hW hl hq
theorem k_X1_isToldApart_b2 {Q : Int32 → Prop} {X2 : Int32 → Prop} {x1 : Int32} {h : hp} (C : kC p s m args meth c cX1_isToldApart 3 (some .boolean) RX1 wUX1_isToldApart) (hK : kK G s) (hX2 : ∀ (x2 : Int32) (H : Heap) (locs : List Loc) (ls : Array Slot), kW SC G h (aS SC G) s H locs → lv_has ls 3 [(0, .ref (G.2.2 71)), (1, .int x1), (2, .int x2)] → X2 x2 → W p l e rmX1_isToldApart s m args below meth c H locs 0 0 (MQ below (va_Qi (fun r9 h9 => h9 = h ∧ Q r9) (kB SC G) (aS SC G)) args s 0 0 (aS SC G)) (F0 m 2 ls [])) {x2 : Int32} {H : Heap} {locs : List Loc} {ls : Array Slot} (hW : kW SC G h (aS SC G) s H locs) (hl : lv_has ls 3 [(0, .ref (G.2.2 71)), (1, .int x1), (2, .int x2)]) (hq : w_X1_isToldApart_b2 Q x1 h X2 x2) : W p l e rmX1_isToldApart s m args below meth c H locs 0 0 (MQ below (va_Qi (fun r9 h9 => h9 = h ∧ Q r9) (kB SC G) (aS SC G)) args s 0 0 (aS SC G)) (F0 m 2 ls []) := by
  have hx := C.1
  have hb := C.2.1
  unfold w_X1_isToldApart_b2 at hq
  refine lv_iload_n hx hb dX1_isToldApart_2 rfl (lv_at hl 2 rfl) ?_
  refine lv_bipush (v := 19) hx hb dX1_isToldApart_3 (by decide) ?_
  refine lv_icmp_ge (tgt := 25) hx hb dX1_isToldApart_5 (by decide) (fun c1 => ?_) (fun c1 => ?_)
  · have hq := hq.1 c1
    refine lv_iconst (v := 0) hx hb dX1_isToldApart_25 (by decide) ?_
    exact k_zret rfl isZ_0.1 C hW dX1_isToldApart_26 ⟨rfl, hq⟩
  · have hq := hq.2 c1
    refine lv_aload_n hx hb dX1_isToldApart_8 rfl (lv_at hl 0 rfl) ?_
    refine lv_iload_n hx hb dX1_isToldApart_9 rfl (lv_at hl 1 rfl) ?_
    refine lv_iload_n hx hb dX1_isToldApart_10 rfl (lv_at hl 2 rfl) ?_
    refine k_ci hW (va_runV (As := [.int x1, .int x2]) (rest := []) (k_fix C) (c_X1_isApartBy l G h x1 x2 _ hq) (cwV 2 C.2.2.2.2.2.1 (gU_V mw1362 mw1363 mw1364 mw38 mw1365) rfl rfl rfl (by decide +kernel) ⟨Nat.le_of_ble_eq_true rfl, Nat.le_of_ble_eq_true rfl⟩) (k_preV hK hW (shC_lt (rfl : shC 71 = 1) (by decide)) (ceC_1 (rfl : shC 71 = 1)) (q := (RX1, TX1, 7)) rfl) rfl rfl hl.1 rfl (lv_room (Nat.le_of_ble_eq_true rfl)) dX1_isToldApart_11 ⟨Nat.le_refl 0, Nat.le_refl 0⟩) (fun r2 h3 H locs hq hW => ?_)
    rw [hq.1] at hW
    have hq := hq.2
    refine lv_if_eq (tgt := 19) hx hb dX1_isToldApart_14 (by decide) (fun c4 => ?_) (fun c4 => ?_)
    · have hq := hq.1 c4
      obtain ⟨x2_5, ex2_5⟩ : ∃ y : Int32, y = x2 + 1 := ⟨_, rfl⟩
      have hq := hq x2_5 ex2_5
      refine lv_iinc (v := x2_5) (lv' := [(2, .int x2_5), (0, .ref (G.2.2 71)), (1, .int x1)]) hx hb dX1_isToldApart_19 hl (k := 2) rfl (by rw [ex2_5]; rfl) (by decide) rfl (fun ls hl => ?_)
      refine lv_goto (tgt := 2) hx hb dX1_isToldApart_22 (by decide) ?_
      exact hX2 _ _ _ _ hW (lv_sub hl [1, 2, 0] rfl) hq
    · have hq := hq.2 c4
      refine lv_iconst (v := 1) hx hb dX1_isToldApart_17 (by decide) ?_
      exact k_zret rfl isZ_1.1 C hW dX1_isToldApart_18 ⟨rfl, hq⟩
theorem k_X1_isToldApart_2 {Q : Int32 → Prop} {x1 : Int32} {h : hp} (C : kC p s m args meth c cX1_isToldApart 3 (some .boolean) RX1 wUX1_isToldApart) (hK : kK G s) {x2 : Int32} {H : Heap} {locs : List Loc} {ls : Array Slot} (hW : kW SC G h (aS SC G) s H locs) (hl : lv_has ls 3 [(0, .ref (G.2.2 71)), (1, .int x1), (2, .int x2)]) (hq : w_X1_isToldApart_2 Q x1 h x2) : W p l e rmX1_isToldApart s m args below meth c H locs 0 0 (MQ below (va_Qi (fun r9 h9 => h9 = h ∧ Q r9) (kB SC G) (aS SC G)) args s 0 0 (aS SC G)) (F0 m 2 ls []) := by
  have key := hq (fun (q : Int32) => ∀ (H : Heap) (locs : List Loc) (ls : Array Slot), kW SC G h (aS SC G) s H locs → lv_has ls 3 [(0, .ref (G.2.2 71)), (1, .int x1), (2, .int q)] → W p l e rmX1_isToldApart s m args below meth c H locs 0 0 (MQ below (va_Qi (fun r9 h9 => h9 = h ∧ Q r9) (kB SC G) (aS SC G)) args s 0 0 (aS SC G)) (F0 m 2 ls []))
    (fun q hq H locs ls hW hl => k_X1_isToldApart_b2 C hK (fun x2 H locs ls hW hl hI => hI H locs ls hW hl) hW hl hq)
  exact key _ _ _ hW hl
theorem k_X1_isToldApart_0 {Q : Int32 → Prop} {x1 : Int32} {h : hp} (C : kC p s m args meth c cX1_isToldApart 3 (some .boolean) RX1 wUX1_isToldApart) (hK : kK G s) {H : Heap} {locs : List Loc} {ls : Array Slot} (hW : kW SC G h (aS SC G) s H locs) (hl : lv_has ls 3 [(0, .ref (G.2.2 71)), (1, .int x1)]) (hq : w_X1_isToldApart_0 Q x1 h) : W p l e rmX1_isToldApart s m args below meth c H locs 0 0 (MQ below (va_Qi (fun r9 h9 => h9 = h ∧ Q r9) (kB SC G) (aS SC G)) args s 0 0 (aS SC G)) (F0 m 0 ls []) := by
  have hx := C.1
  have hb := C.2.1
  unfold w_X1_isToldApart_0 at hq
  refine lv_iconst (v := 0) hx hb dX1_isToldApart_0 (by decide) ?_
  refine lv_istore_n (lv' := [(2, .int 0), (0, .ref (G.2.2 71)), (1, .int x1)]) hx hb dX1_isToldApart_1 rfl hl (by decide) rfl (fun ls hl => ?_)
  exact k_X1_isToldApart_2 C hK hW (lv_sub hl [1, 2, 0] rfl) hq
theorem c_X1_isToldApart (l : Launch) (G : wG) (h : hp) (x1 : Int32) (Q : Int32 → Prop) (hq : w_X1_isToldApart h x1 Q) : ctI l SC G yX1_isToldApart wUX1_isToldApart rmX1_isToldApart h [.ref (G.2.2 71), .int x1] (fun r9 h9 => h9 = h ∧ Q r9) := by
  refine k_start (cc := cX1_isToldApart) (maxL := 3) (rt := (some .boolean)) (own := RX1) (by decide +kernel) rfl rfl (Nat.le_of_ble_eq_true rfl) ?_
  intro p e s m below meth c ls C hK hW hl
  exact k_X1_isToldApart_0 C hK hW hl hq
theorem k_X1_groupOf_b5 {Q : Int32 → Prop} {X5 : Int32 × Int32 → Prop} {x1 : Int32} {x2 : Int32} {h : hp} (C : kC p s m args meth c cX1_groupOf 5 (some .int) RX1 wUX1_groupOf) (hK : kK G s) (hX5 : ∀ (x3 : Int32) (x4 : Int32) (H : Heap) (locs : List Loc) (ls : Array Slot), kW SC G h (aS SC G) s H locs → lv_has ls 5 [(0, .ref (G.2.2 71)), (1, .int x1), (2, .int x2), (3, .int x3), (4, .int x4)] → X5 (x3, x4) → W p l e rmX1_groupOf s m args below meth c H locs 0 0 (MQ below (va_Qi (fun r9 h9 => h9 = h ∧ Q r9) (kB SC G) (aS SC G)) args s 0 0 (aS SC G)) (F0 m 5 ls [])) {x3 : Int32} {x4 : Int32} {H : Heap} {locs : List Loc} {ls : Array Slot} (hW : kW SC G h (aS SC G) s H locs) (hl : lv_has ls 5 [(0, .ref (G.2.2 71)), (1, .int x1), (2, .int x2), (3, .int x3), (4, .int x4)]) (hq : w_X1_groupOf_b5 Q x1 x2 h X5 x3 x4) : W p l e rmX1_groupOf s m args below meth c H locs 0 0 (MQ below (va_Qi (fun r9 h9 => h9 = h ∧ Q r9) (kB SC G) (aS SC G)) args s 0 0 (aS SC G)) (F0 m 5 ls []) := by
  have hx := C.1
  have hb := C.2.1
  unfold w_X1_groupOf_b5 at hq
  refine lv_iload hx hb dX1_groupOf_5 (lv_at hl 4 rfl) ?_
  refine lv_aload_n hx hb dX1_groupOf_7 rfl (lv_at hl 0 rfl) ?_
  refine gt1_1 C hK hW (rfl : shC 71 = 1) (List.mem_cons_of_mem _ mw237) (fun _ h9 => List.mem_cons_of_mem _ (inU_wsX10 _ h9)) dX1_groupOf_8 ?_
  refine lv_icmp_ge (tgt := 56) hx hb dX1_groupOf_11 (by decide) (fun c1 => ?_) (fun c1 => ?_)
  · have hq := hq.1 c1
    refine lv_iload_n hx hb dX1_groupOf_56 rfl (lv_at hl 3 rfl) ?_
    exact k_iret rfl C hW dX1_groupOf_57 ⟨rfl, hq⟩
  · have hq := hq.2 c1
    refine lv_aload_n hx hb dX1_groupOf_14 rfl (lv_at hl 0 rfl) ?_
    refine gt1_6 C hK hW (rfl : shC 71 = 1) (List.mem_cons_of_mem _ mw242) (fun _ h9 => List.mem_cons_of_mem _ (inU_wsX10 _ h9)) dX1_groupOf_15 ?_
    refine lv_iload_n hx hb dX1_groupOf_18 rfl (lv_at hl 2 rfl) ?_
    have hv2 := hq.1
    have hq := hq.2
    refine k_aald C hK hW (shC_lt (rfl : shC 74 = 18) (by decide)) (t0 := 5) rfl rfl (ceC_18 (rfl : shC 74 = 18)) hv2 (sl_if hv2) dX1_groupOf_19 ?_
    refine lv_iload hx hb dX1_groupOf_20 (lv_at hl 4 rfl) ?_
    refine k_lald C hK hW (shC_lt (sl_J hv2).1 (by decide)) (ceC_15 (sl_J hv2).1 (sl_J hv2).2) hq.1 dX1_groupOf_22 ?_
    have hq := hq.2
    refine lv_aload_n hx hb dX1_groupOf_23 rfl (lv_at hl 0 rfl) ?_
    refine gt1_6 C hK hW (rfl : shC 71 = 1) (List.mem_cons_of_mem _ mw242) (fun _ h9 => List.mem_cons_of_mem _ (inU_wsX10 _ h9)) dX1_groupOf_24 ?_
    refine lv_iload_n hx hb dX1_groupOf_27 rfl (lv_at hl 2 rfl) ?_
    have hv3 := hq.1
    have hq := hq.2
    refine k_aald C hK hW (shC_lt (rfl : shC 74 = 18) (by decide)) (t0 := 5) rfl rfl (ceC_18 (rfl : shC 74 = 18)) hv3 (sl_if hv3) dX1_groupOf_28 ?_
    refine lv_iload_n hx hb dX1_groupOf_29 rfl (lv_at hl 1 rfl) ?_
    refine k_lald C hK hW (shC_lt (sl_J hv3).1 (by decide)) (ceC_15 (sl_J hv3).1 (sl_J hv3).2) hq.1 dX1_groupOf_30 ?_
    have hq := hq.2
    refine W.lcmp hx hb dX1_groupOf_31 ?_
    refine lv_if_ne (tgt := 50) hx hb dX1_groupOf_32 (by decide) (fun c4 => ?_) (fun c4 => ?_)
    · have hq := hq.1 (fun z => c4 ((lg_cmp_eq _ _).mpr z))
      obtain ⟨x4_5, ex4_5⟩ : ∃ y : Int32, y = x4 + 1 := ⟨_, rfl⟩
      have hq := hq x4_5 ex4_5
      refine lv_iinc (v := x4_5) (lv' := [(4, .int x4_5), (0, .ref (G.2.2 71)), (1, .int x1), (2, .int x2), (3, .int x3)]) hx hb dX1_groupOf_50 hl (k := 4) rfl (by rw [ex4_5]; rfl) (by decide) rfl (fun ls hl => ?_)
      refine lv_goto (tgt := 5) hx hb dX1_groupOf_53 (by decide) ?_
      exact hX5 _ _ _ _ _ hW (lv_sub hl [1, 2, 3, 4, 0] rfl) hq
    · have hq := hq.2 ((lg_cmp_eq _ _).mp c4)
      refine lv_iload hx hb dX1_groupOf_35 (lv_at hl 4 rfl) ?_
      refine lv_iload_n hx hb dX1_groupOf_37 rfl (lv_at hl 1 rfl) ?_
      refine lv_icmp_ge (tgt := 43) hx hb dX1_groupOf_38 (by decide) (fun c6 => ?_) (fun c6 => ?_)
      · have hq := hq.1 c6
        refine lv_iload_n hx hb dX1_groupOf_43 rfl (lv_at hl 3 rfl) ?_
        refine lv_iconst (v := 1) hx hb dX1_groupOf_44 (by decide) ?_
        refine lv_iload hx hb dX1_groupOf_45 (lv_at hl 4 rfl) ?_
        refine k_ishl hx hb dX1_groupOf_47 ?_
        refine lv_ior hx hb dX1_groupOf_48 ?_
        refine lv_topi (fun x3_7 ex3_7 => ?_)
        have hq := hq x3_7 ex3_7
        refine lv_istore_n (lv' := [(3, .int x3_7), (0, .ref (G.2.2 71)), (1, .int x1), (2, .int x2), (4, .int x4)]) hx hb dX1_groupOf_49 rfl hl (by decide) rfl (fun ls hl => ?_)
        obtain ⟨x4_8, ex4_8⟩ : ∃ y : Int32, y = x4 + 1 := ⟨_, rfl⟩
        have hq := hq x4_8 ex4_8
        refine lv_iinc (v := x4_8) (lv' := [(4, .int x4_8), (3, .int x3_7), (0, .ref (G.2.2 71)), (1, .int x1), (2, .int x2)]) hx hb dX1_groupOf_50 hl (k := 4) rfl (by rw [ex4_8]; rfl) (by decide) rfl (fun ls hl => ?_)
        refine lv_goto (tgt := 5) hx hb dX1_groupOf_53 (by decide) ?_
        exact hX5 _ _ _ _ _ hW (lv_sub hl [2, 3, 4, 1, 0] rfl) hq
      · have hq := hq.2 c6
        refine lv_iconst (v := 0) hx hb dX1_groupOf_41 (by decide) ?_
        exact k_iret rfl C hW dX1_groupOf_42 ⟨rfl, hq⟩
theorem k_X1_groupOf_5 {Q : Int32 → Prop} {x1 : Int32} {x2 : Int32} {h : hp} (C : kC p s m args meth c cX1_groupOf 5 (some .int) RX1 wUX1_groupOf) (hK : kK G s) {x3 : Int32} {x4 : Int32} {H : Heap} {locs : List Loc} {ls : Array Slot} (hW : kW SC G h (aS SC G) s H locs) (hl : lv_has ls 5 [(0, .ref (G.2.2 71)), (1, .int x1), (2, .int x2), (3, .int x3), (4, .int x4)]) (hq : w_X1_groupOf_5 Q x1 x2 h x3 x4) : W p l e rmX1_groupOf s m args below meth c H locs 0 0 (MQ below (va_Qi (fun r9 h9 => h9 = h ∧ Q r9) (kB SC G) (aS SC G)) args s 0 0 (aS SC G)) (F0 m 5 ls []) := by
  have key := hq (fun (q : Int32 × Int32) => ∀ (H : Heap) (locs : List Loc) (ls : Array Slot), kW SC G h (aS SC G) s H locs → lv_has ls 5 [(0, .ref (G.2.2 71)), (1, .int x1), (2, .int x2), (3, .int q.1), (4, .int q.2)] → W p l e rmX1_groupOf s m args below meth c H locs 0 0 (MQ below (va_Qi (fun r9 h9 => h9 = h ∧ Q r9) (kB SC G) (aS SC G)) args s 0 0 (aS SC G)) (F0 m 5 ls []))
    (fun q hq H locs ls hW hl => k_X1_groupOf_b5 C hK (fun x3 x4 H locs ls hW hl hI => hI H locs ls hW hl) hW hl hq)
  exact key _ _ _ hW hl
theorem k_X1_groupOf_0 {Q : Int32 → Prop} {x1 : Int32} {x2 : Int32} {h : hp} (C : kC p s m args meth c cX1_groupOf 5 (some .int) RX1 wUX1_groupOf) (hK : kK G s) {H : Heap} {locs : List Loc} {ls : Array Slot} (hW : kW SC G h (aS SC G) s H locs) (hl : lv_has ls 5 [(0, .ref (G.2.2 71)), (1, .int x1), (2, .int x2)]) (hq : w_X1_groupOf_0 Q x1 x2 h) : W p l e rmX1_groupOf s m args below meth c H locs 0 0 (MQ below (va_Qi (fun r9 h9 => h9 = h ∧ Q r9) (kB SC G) (aS SC G)) args s 0 0 (aS SC G)) (F0 m 0 ls []) := by
  have hx := C.1
  have hb := C.2.1
  unfold w_X1_groupOf_0 at hq
  refine lv_iconst (v := 0) hx hb dX1_groupOf_0 (by decide) ?_
  refine lv_istore_n (lv' := [(3, .int 0), (0, .ref (G.2.2 71)), (1, .int x1), (2, .int x2)]) hx hb dX1_groupOf_1 rfl hl (by decide) rfl (fun ls hl => ?_)
  refine lv_iconst (v := 0) hx hb dX1_groupOf_2 (by decide) ?_
  refine lv_istore (lv' := [(4, .int 0), (3, .int 0), (0, .ref (G.2.2 71)), (1, .int x1), (2, .int x2)]) hx hb dX1_groupOf_3 hl (by decide) rfl (fun ls hl => ?_)
  exact k_X1_groupOf_5 C hK hW (lv_sub hl [2, 3, 4, 1, 0] rfl) hq
theorem c_X1_groupOf (l : Launch) (G : wG) (h : hp) (x1 : Int32) (x2 : Int32) (Q : Int32 → Prop) (hq : w_X1_groupOf h x1 x2 Q) : ctI l SC G yX1_groupOf wUX1_groupOf rmX1_groupOf h [.ref (G.2.2 71), .int x1, .int x2] (fun r9 h9 => h9 = h ∧ Q r9) := by
  refine k_start (cc := cX1_groupOf) (maxL := 5) (rt := (some .int)) (own := RX1) (by decide +kernel) rfl rfl (Nat.le_of_ble_eq_true rfl) ?_
  intro p e s m below meth c ls C hK hW hl
  exact k_X1_groupOf_0 C hK hW hl hq
theorem k_X1_areGroupsToldApart_b2 {Q : Int32 → Prop} {X2 : Int32 → Prop} {x1 : Int32} {h : hp} (C : kC p s m args meth c cX1_areGroupsToldApart 3 (some .boolean) RX1 wUX1_areGroupsToldApart) (hK : kK G s) (hX2 : ∀ (x2 : Int32) (H : Heap) (locs : List Loc) (ls : Array Slot), kW SC G h (aS SC G) s H locs → lv_has ls 3 [(0, .ref (G.2.2 71)), (1, .int x1), (2, .int x2)] → X2 x2 → W p l e rmX1_areGroupsToldApart s m args below meth c H locs 0 0 (MQ below (va_Qi (fun r9 h9 => h9 = h ∧ Q r9) (kB SC G) (aS SC G)) args s 0 0 (aS SC G)) (F0 m 2 ls [])) {x2 : Int32} {H : Heap} {locs : List Loc} {ls : Array Slot} (hW : kW SC G h (aS SC G) s H locs) (hl : lv_has ls 3 [(0, .ref (G.2.2 71)), (1, .int x1), (2, .int x2)]) (hq : w_X1_areGroupsToldApart_b2 Q x1 h X2 x2) : W p l e rmX1_areGroupsToldApart s m args below meth c H locs 0 0 (MQ below (va_Qi (fun r9 h9 => h9 = h ∧ Q r9) (kB SC G) (aS SC G)) args s 0 0 (aS SC G)) (F0 m 2 ls []) := by
  have hx := C.1
  have hb := C.2.1
  unfold w_X1_areGroupsToldApart_b2 at hq
  refine lv_iload_n hx hb dX1_areGroupsToldApart_2 rfl (lv_at hl 2 rfl) ?_
  refine lv_aload_n hx hb dX1_areGroupsToldApart_3 rfl (lv_at hl 0 rfl) ?_
  refine gt1_1 C hK hW (rfl : shC 71 = 1) (List.mem_cons_of_mem _ mw237) (fun _ h9 => List.mem_cons_of_mem _ (inU_wsX10 _ h9)) dX1_areGroupsToldApart_4 ?_
  refine lv_icmp_ge (tgt := 31) hx hb dX1_areGroupsToldApart_7 (by decide) (fun c1 => ?_) (fun c1 => ?_)
  · have hq := hq.1 c1
    refine lv_iconst (v := 1) hx hb dX1_areGroupsToldApart_31 (by decide) ?_
    exact k_zret rfl isZ_1.1 C hW dX1_areGroupsToldApart_32 ⟨rfl, hq⟩
  · have hq := hq.2 c1
    refine lv_aload_n hx hb dX1_areGroupsToldApart_10 rfl (lv_at hl 0 rfl) ?_
    refine lv_aload_n hx hb dX1_areGroupsToldApart_11 rfl (lv_at hl 0 rfl) ?_
    refine lv_iload_n hx hb dX1_areGroupsToldApart_12 rfl (lv_at hl 2 rfl) ?_
    refine lv_iload_n hx hb dX1_areGroupsToldApart_13 rfl (lv_at hl 1 rfl) ?_
    refine k_ci hW (va_runV (As := [.int x2, .int x1]) (rest := [.ref (G.2.2 71)]) (k_fix C) (c_X1_groupOf l G h x2 x1 _ hq) (cwV 2 C.2.2.2.2.2.1 (gU_V mw1370 mw1371 mw1372 mw38 mw1373) rfl rfl rfl (by decide +kernel) ⟨Nat.le_of_ble_eq_true rfl, Nat.le_of_ble_eq_true rfl⟩) (k_preV hK hW (shC_lt (rfl : shC 71 = 1) (by decide)) (ceC_1 (rfl : shC 71 = 1)) (q := (RX1, TX1, 7)) rfl) rfl rfl hl.1 rfl (lv_room (Nat.le_of_ble_eq_true rfl)) dX1_areGroupsToldApart_14 ⟨Nat.le_refl 0, Nat.le_refl 0⟩) (fun r2 h3 H locs hq hW => ?_)
    rw [hq.1] at hW
    have hq := hq.2
    refine k_ci hW (va_runV (As := [.int r2]) (rest := []) (k_fix C) (c_X1_isToldApart l G h r2 _ hq) (cwV 1 C.2.2.2.2.2.1 (gU_V mw1358 mw1359 mw1360 mw38 mw1361) rfl rfl rfl (by decide +kernel) ⟨Nat.le_of_ble_eq_true rfl, Nat.le_of_ble_eq_true rfl⟩) (k_preV hK hW (shC_lt (rfl : shC 71 = 1) (by decide)) (ceC_1 (rfl : shC 71 = 1)) (q := (RX1, TX1, 7)) rfl) rfl rfl hl.1 rfl (lv_room (Nat.le_of_ble_eq_true rfl)) dX1_areGroupsToldApart_17 ⟨Nat.le_refl 0, Nat.le_refl 0⟩) (fun r4 h5 H locs hq hW => ?_)
    rw [hq.1] at hW
    have hq := hq.2
    refine lv_if_ne (tgt := 25) hx hb dX1_areGroupsToldApart_20 (by decide) (fun c6 => ?_) (fun c6 => ?_)
    · have hq := hq.1 c6
      obtain ⟨x2_7, ex2_7⟩ : ∃ y : Int32, y = x2 + 1 := ⟨_, rfl⟩
      have hq := hq x2_7 ex2_7
      refine lv_iinc (v := x2_7) (lv' := [(2, .int x2_7), (0, .ref (G.2.2 71)), (1, .int x1)]) hx hb dX1_areGroupsToldApart_25 hl (k := 2) rfl (by rw [ex2_7]; rfl) (by decide) rfl (fun ls hl => ?_)
      refine lv_goto (tgt := 2) hx hb dX1_areGroupsToldApart_28 (by decide) ?_
      exact hX2 _ _ _ _ hW (lv_sub hl [1, 2, 0] rfl) hq
    · have hq := hq.2 c6
      refine lv_iconst (v := 0) hx hb dX1_areGroupsToldApart_23 (by decide) ?_
      exact k_zret rfl isZ_0.1 C hW dX1_areGroupsToldApart_24 ⟨rfl, hq⟩
theorem k_X1_areGroupsToldApart_2 {Q : Int32 → Prop} {x1 : Int32} {h : hp} (C : kC p s m args meth c cX1_areGroupsToldApart 3 (some .boolean) RX1 wUX1_areGroupsToldApart) (hK : kK G s) {x2 : Int32} {H : Heap} {locs : List Loc} {ls : Array Slot} (hW : kW SC G h (aS SC G) s H locs) (hl : lv_has ls 3 [(0, .ref (G.2.2 71)), (1, .int x1), (2, .int x2)]) (hq : w_X1_areGroupsToldApart_2 Q x1 h x2) : W p l e rmX1_areGroupsToldApart s m args below meth c H locs 0 0 (MQ below (va_Qi (fun r9 h9 => h9 = h ∧ Q r9) (kB SC G) (aS SC G)) args s 0 0 (aS SC G)) (F0 m 2 ls []) := by
  have key := hq (fun (q : Int32) => ∀ (H : Heap) (locs : List Loc) (ls : Array Slot), kW SC G h (aS SC G) s H locs → lv_has ls 3 [(0, .ref (G.2.2 71)), (1, .int x1), (2, .int q)] → W p l e rmX1_areGroupsToldApart s m args below meth c H locs 0 0 (MQ below (va_Qi (fun r9 h9 => h9 = h ∧ Q r9) (kB SC G) (aS SC G)) args s 0 0 (aS SC G)) (F0 m 2 ls []))
    (fun q hq H locs ls hW hl => k_X1_areGroupsToldApart_b2 C hK (fun x2 H locs ls hW hl hI => hI H locs ls hW hl) hW hl hq)
  exact key _ _ _ hW hl
theorem k_X1_areGroupsToldApart_0 {Q : Int32 → Prop} {x1 : Int32} {h : hp} (C : kC p s m args meth c cX1_areGroupsToldApart 3 (some .boolean) RX1 wUX1_areGroupsToldApart) (hK : kK G s) {H : Heap} {locs : List Loc} {ls : Array Slot} (hW : kW SC G h (aS SC G) s H locs) (hl : lv_has ls 3 [(0, .ref (G.2.2 71)), (1, .int x1)]) (hq : w_X1_areGroupsToldApart_0 Q x1 h) : W p l e rmX1_areGroupsToldApart s m args below meth c H locs 0 0 (MQ below (va_Qi (fun r9 h9 => h9 = h ∧ Q r9) (kB SC G) (aS SC G)) args s 0 0 (aS SC G)) (F0 m 0 ls []) := by
  have hx := C.1
  have hb := C.2.1
  unfold w_X1_areGroupsToldApart_0 at hq
  refine lv_iconst (v := 0) hx hb dX1_areGroupsToldApart_0 (by decide) ?_
  refine lv_istore_n (lv' := [(2, .int 0), (0, .ref (G.2.2 71)), (1, .int x1)]) hx hb dX1_areGroupsToldApart_1 rfl hl (by decide) rfl (fun ls hl => ?_)
  exact k_X1_areGroupsToldApart_2 C hK hW (lv_sub hl [1, 2, 0] rfl) hq
theorem c_X1_areGroupsToldApart (l : Launch) (G : wG) (h : hp) (x1 : Int32) (Q : Int32 → Prop) (hq : w_X1_areGroupsToldApart h x1 Q) : ctI l SC G yX1_areGroupsToldApart wUX1_areGroupsToldApart rmX1_areGroupsToldApart h [.ref (G.2.2 71), .int x1] (fun r9 h9 => h9 = h ∧ Q r9) := by
  refine k_start (cc := cX1_areGroupsToldApart) (maxL := 3) (rt := (some .boolean)) (own := RX1) (by decide +kernel) rfl rfl (Nat.le_of_ble_eq_true rfl) ?_
  intro p e s m below meth c ls C hK hW hl
  exact k_X1_areGroupsToldApart_0 C hK hW hl hq
theorem k_X1_enoughQuestions_b45 {Q : Int32 → hp → Prop} {X45 : Int32 → Prop} {h : hp} (C : kC p s m args meth c cX1_enoughQuestions 2 (some .int) RX1 wUX1_enoughQuestions) (hK : kK G s) (hX45 : ∀ (x1 : Int32) (H : Heap) (locs : List Loc) (ls : Array Slot), kW SC G h (aS SC G) s H locs → lv_has ls 2 [(0, .ref (G.2.2 71)), (1, .int x1)] → X45 x1 → W p l e rmX1_enoughQuestions s m args below meth c H locs 0 0 (MQ below (va_Qi Q (kB SC G) (aS SC G)) args s 0 0 (aS SC G)) (F0 m 45 ls [])) {x1 : Int32} {H : Heap} {locs : List Loc} {ls : Array Slot} (hW : kW SC G h (aS SC G) s H locs) (hl : lv_has ls 2 [(0, .ref (G.2.2 71)), (1, .int x1)]) (hq : w_X1_enoughQuestions_b45 Q h X45 x1) : W p l e rmX1_enoughQuestions s m args below meth c H locs 0 0 (MQ below (va_Qi Q (kB SC G) (aS SC G)) args s 0 0 (aS SC G)) (F0 m 45 ls []) := by
  have hx := C.1
  have hb := C.2.1
  unfold w_X1_enoughQuestions_b45 at hq
  refine lv_iload_n hx hb dX1_enoughQuestions_45 rfl (lv_at hl 1 rfl) ?_
  refine lv_bipush (v := 19) hx hb dX1_enoughQuestions_46 (by decide) ?_
  refine lv_icmp_ge (tgt := 67) hx hb dX1_enoughQuestions_48 (by decide) (fun c7 => ?_) (fun c7 => ?_)
  · have hq := hq.1 c7
    refine lv_iconst (v := 3) hx hb dX1_enoughQuestions_67 (by decide) ?_
    exact k_iret rfl C hW dX1_enoughQuestions_68 hq
  · have hq := hq.2 c7
    refine lv_aload_n hx hb dX1_enoughQuestions_51 rfl (lv_at hl 0 rfl) ?_
    refine lv_iload_n hx hb dX1_enoughQuestions_52 rfl (lv_at hl 1 rfl) ?_
    refine k_ci hW (va_runV (As := [.int x1]) (rest := []) (k_fix C) (c_X1_areGroupsToldApart l G h x1 _ hq) (cwV 1 C.2.2.2.2.2.1 (gU_V mw1366 mw1367 mw1368 mw38 mw1369) rfl rfl rfl (by decide +kernel) ⟨Nat.le_of_ble_eq_true rfl, Nat.le_of_ble_eq_true rfl⟩) (k_preV hK hW (shC_lt (rfl : shC 71 = 1) (by decide)) (ceC_1 (rfl : shC 71 = 1)) (q := (RX1, TX1, 7)) rfl) rfl rfl hl.1 rfl (lv_room (Nat.le_of_ble_eq_true rfl)) dX1_enoughQuestions_53 ⟨Nat.le_refl 0, Nat.le_refl 0⟩) (fun r8 h9 H locs hq hW => ?_)
    rw [hq.1] at hW
    have hq := hq.2
    refine lv_if_eq (tgt := 61) hx hb dX1_enoughQuestions_56 (by decide) (fun c10 => ?_) (fun c10 => ?_)
    · have hq := hq.1 c10
      obtain ⟨x1_11, ex1_11⟩ : ∃ y : Int32, y = x1 + 1 := ⟨_, rfl⟩
      have hq := hq x1_11 ex1_11
      refine lv_iinc (v := x1_11) (lv' := [(1, .int x1_11), (0, .ref (G.2.2 71))]) hx hb dX1_enoughQuestions_61 hl (k := 1) rfl (by rw [ex1_11]; rfl) (by decide) rfl (fun ls hl => ?_)
      refine lv_goto (tgt := 45) hx hb dX1_enoughQuestions_64 (by decide) ?_
      exact hX45 _ _ _ _ hW (lv_sub hl [1, 0] rfl) hq
    · have hq := hq.2 c10
      refine lv_iconst (v := 2) hx hb dX1_enoughQuestions_59 (by decide) ?_
      exact k_iret rfl C hW dX1_enoughQuestions_60 hq
theorem k_X1_enoughQuestions_45 {Q : Int32 → hp → Prop} {h : hp} (C : kC p s m args meth c cX1_enoughQuestions 2 (some .int) RX1 wUX1_enoughQuestions) (hK : kK G s) {x1 : Int32} {H : Heap} {locs : List Loc} {ls : Array Slot} (hW : kW SC G h (aS SC G) s H locs) (hl : lv_has ls 2 [(0, .ref (G.2.2 71)), (1, .int x1)]) (hq : w_X1_enoughQuestions_45 Q h x1) : W p l e rmX1_enoughQuestions s m args below meth c H locs 0 0 (MQ below (va_Qi Q (kB SC G) (aS SC G)) args s 0 0 (aS SC G)) (F0 m 45 ls []) := by
  have key := hq (fun (q : Int32) => ∀ (H : Heap) (locs : List Loc) (ls : Array Slot), kW SC G h (aS SC G) s H locs → lv_has ls 2 [(0, .ref (G.2.2 71)), (1, .int q)] → W p l e rmX1_enoughQuestions s m args below meth c H locs 0 0 (MQ below (va_Qi Q (kB SC G) (aS SC G)) args s 0 0 (aS SC G)) (F0 m 45 ls []))
    (fun q hq H locs ls hW hl => k_X1_enoughQuestions_b45 C hK (fun x1 H locs ls hW hl hI => hI H locs ls hW hl) hW hl hq)
  exact key _ _ _ hW hl
theorem k_X1_enoughQuestions_0 {Q : Int32 → hp → Prop} {h : hp} (C : kC p s m args meth c cX1_enoughQuestions 2 (some .int) RX1 wUX1_enoughQuestions) (hK : kK G s) {H : Heap} {locs : List Loc} {ls : Array Slot} (hW : kW SC G h (aS SC G) s H locs) (hl : lv_has ls 2 [(0, .ref (G.2.2 71))]) (hq : w_X1_enoughQuestions_0 Q h) : W p l e rmX1_enoughQuestions s m args below meth c H locs 0 0 (MQ below (va_Qi Q (kB SC G) (aS SC G)) args s 0 0 (aS SC G)) (F0 m 0 ls []) := by
  have hx := C.1
  have hb := C.2.1
  unfold w_X1_enoughQuestions_0 at hq
  refine lv_aload_n hx hb dX1_enoughQuestions_0 rfl (lv_at hl 0 rfl) ?_
  refine gt1_1 C hK hW (rfl : shC 71 = 1) (List.mem_cons_of_mem _ mw237) (fun _ h9 => List.mem_cons_of_mem _ (inU_wsX10 _ h9)) dX1_enoughQuestions_1 ?_
  refine lv_bipush (v := 24) hx hb dX1_enoughQuestions_4 (by decide) ?_
  refine lv_icmp_le (tgt := 12) hx hb dX1_enoughQuestions_6 (by decide) (fun c1 => ?_) (fun c1 => ?_)
  · have hq := hq.1 c1
    refine lv_aload_n hx hb dX1_enoughQuestions_12 rfl (lv_at hl 0 rfl) ?_
    refine gt1_1 C hK hW (rfl : shC 71 = 1) (List.mem_cons_of_mem _ mw237) (fun _ h9 => List.mem_cons_of_mem _ (inU_wsX10 _ h9)) dX1_enoughQuestions_13 ?_
    refine lv_iconst (v := 1) hx hb dX1_enoughQuestions_16 (by decide) ?_
    refine lv_icmp_gt (tgt := 22) hx hb dX1_enoughQuestions_17 (by decide) (fun c2 => ?_) (fun c2 => ?_)
    · have hq := hq.1 c2
      refine lv_aload_n hx hb dX1_enoughQuestions_22 rfl (lv_at hl 0 rfl) ?_
      refine k_cv hW (va_runV (As := []) (rest := []) (k_fix C) (c_X1_fillAnswers l G h _ hq) (cwV 0 C.2.2.2.2.2.1 (gU_V mw1354 mw1355 mw1356 mw38 mw1357) rfl rfl rfl (by decide +kernel) ⟨Nat.le_of_ble_eq_true rfl, Nat.le_of_ble_eq_true rfl⟩) (k_preV hK hW (shC_lt (rfl : shC 71 = 1) (by decide)) (ceC_1 (rfl : shC 71 = 1)) (q := (RX1, TX1, 7)) rfl) rfl rfl hl.1 rfl (lv_room (Nat.le_of_ble_eq_true rfl)) dX1_enoughQuestions_23 ⟨Nat.le_refl 0, Nat.le_refl 0⟩) (fun h3 H locs hq hW => ?_)
      refine lv_aload_n hx hb dX1_enoughQuestions_26 rfl (lv_at hl 0 rfl) ?_
      refine lv_iconst (v := 1) hx hb dX1_enoughQuestions_27 (by decide) ?_
      refine lv_aload_n hx hb dX1_enoughQuestions_28 rfl (lv_at hl 0 rfl) ?_
      refine gt1_1 C hK hW (rfl : shC 71 = 1) (List.mem_cons_of_mem _ mw237) (fun _ h9 => List.mem_cons_of_mem _ (inU_wsX10 _ h9)) dX1_enoughQuestions_29 ?_
      refine k_ishl hx hb dX1_enoughQuestions_32 ?_
      refine lv_iconst (v := 1) hx hb dX1_enoughQuestions_33 (by decide) ?_
      refine lv_isub hx hb dX1_enoughQuestions_34 ?_
      refine k_ci hW (va_runV (As := [.int ((jshl 1 (gI h3 71 1)) - 1)]) (rest := []) (k_fix C) (c_X1_isToldApart l G h3 ((jshl 1 (gI h3 71 1)) - 1) _ hq) (cwV 1 C.2.2.2.2.2.1 (gU_V mw1358 mw1359 mw1360 mw38 mw1361) rfl rfl rfl (by decide +kernel) ⟨Nat.le_of_ble_eq_true rfl, Nat.le_of_ble_eq_true rfl⟩) (k_preV hK hW (shC_lt (rfl : shC 71 = 1) (by decide)) (ceC_1 (rfl : shC 71 = 1)) (q := (RX1, TX1, 7)) rfl) rfl rfl hl.1 rfl (lv_room (Nat.le_of_ble_eq_true rfl)) dX1_enoughQuestions_35 ⟨Nat.le_refl 0, Nat.le_refl 0⟩) (fun r4 h5 H locs hq hW => ?_)
      rw [hq.1] at hW
      have hq := hq.2
      refine lv_if_eq (tgt := 43) hx hb dX1_enoughQuestions_38 (by decide) (fun c6 => ?_) (fun c6 => ?_)
      · have hq := hq.1 c6
        refine lv_iconst (v := 0) hx hb dX1_enoughQuestions_43 (by decide) ?_
        refine lv_istore_n (lv' := [(1, .int 0), (0, .ref (G.2.2 71))]) hx hb dX1_enoughQuestions_44 rfl hl (by decide) rfl (fun ls hl => ?_)
        exact k_X1_enoughQuestions_45 C hK hW (lv_sub hl [1, 0] rfl) hq
      · have hq := hq.2 c6
        refine lv_iconst (v := 1) hx hb dX1_enoughQuestions_41 (by decide) ?_
        exact k_iret rfl C hW dX1_enoughQuestions_42 hq
    · have hq := hq.2 c2
      refine lv_iconst (v := 0) hx hb dX1_enoughQuestions_20 (by decide) ?_
      exact k_iret rfl C hW dX1_enoughQuestions_21 hq
  · have hq := hq.2 c1
    refine lv_bipush (v := (-2)) hx hb dX1_enoughQuestions_9 (by decide) ?_
    exact k_iret rfl C hW dX1_enoughQuestions_11 hq
theorem c_X1_enoughQuestions (l : Launch) (G : wG) (h : hp) (Q : Int32 → hp → Prop) (hq : w_X1_enoughQuestions h Q) : ctI l SC G yX1_enoughQuestions wUX1_enoughQuestions rmX1_enoughQuestions h [.ref (G.2.2 71)] Q := by
  refine k_start (cc := cX1_enoughQuestions) (maxL := 2) (rt := (some .int)) (own := RX1) (by decide +kernel) rfl rfl (Nat.le_of_ble_eq_true rfl) ?_
  intro p e s m below meth c ls C hK hW hl
  exact k_X1_enoughQuestions_0 C hK hW hl hq
theorem k_X2_clear_0 {o : Nat} (ho : shC o = 2) {Q : hp → Prop} {h : hp} (C : kC p s m args meth c cX2_clear 1 none RX2 wUX2_clear) (hK : kK G s) {H : Heap} {locs : List Loc} {ls : Array Slot} (hW : kW SC G h (aS SC G) s H locs) (hl : lv_has ls 1 [(0, .ref (G.2.2 o))]) (hq : w_X2_clear_0 o Q h) : W p l e rmX2_clear s m args below meth c H locs 0 0 (MQ below (va_Qv Q (kB SC G) (aS SC G)) args s 0 0 (aS SC G)) (F0 m 0 ls []) := by
  have hx := C.1
  have hb := C.2.1
  unfold w_X2_clear_0 at hq
  refine lv_aload_n hx hb dX2_clear_0 rfl (lv_at hl 0 rfl) ?_
  refine lv_iconst (v := 0) hx hb dX2_clear_1 (by decide) ?_
  refine pt2_2 C hK hW ho (List.mem_cons_of_mem _ mw87) (fun _ h9 => List.mem_cons_of_mem _ (inU_wsX20 _ h9)) dX2_clear_2 (fun h1 H locs eh1 hW => ?_)
  have hq := hq h1 eh1
  exact k_vret rfl C hW dX2_clear_5 hq
theorem c_X2_clear (l : Launch) (G : wG) {o : Nat} (ho : shC o = 2) (h : hp) (Q : hp → Prop) (hq : w_X2_clear o h Q) : ctV l SC G yX2_clear wUX2_clear rmX2_clear h [.ref (G.2.2 o)] Q := by
  refine k_start (cc := cX2_clear) (maxL := 1) (rt := none) (own := RX2) (by decide +kernel) rfl rfl (Nat.le_of_ble_eq_true rfl) ?_
  intro p e s m below meth c ls C hK hW hl
  exact k_X2_clear_0 ho C hK hW hl hq
theorem k_X2_add_0 {o : Nat} (ho : shC o = 2) {Q : Int32 → hp → Prop} {x1 : Int32} {x2 : Int32} {h : hp} (C : kC p s m args meth c cX2_add 3 (some .int) RX2 wUX2_add) (hK : kK G s) {H : Heap} {locs : List Loc} {ls : Array Slot} (hW : kW SC G h (aS SC G) s H locs) (hl : lv_has ls 3 [(0, .ref (G.2.2 o)), (1, .int x1), (2, .int x2)]) (hq : w_X2_add_0 o Q x1 x2 h) : W p l e rmX2_add s m args below meth c H locs 0 0 (MQ below (va_Qi Q (kB SC G) (aS SC G)) args s 0 0 (aS SC G)) (F0 m 0 ls []) := by
  have hx := C.1
  have hb := C.2.1
  unfold w_X2_add_0 at hq
  refine lv_aload_n hx hb dX2_add_0 rfl (lv_at hl 0 rfl) ?_
  refine gt2_2 C hK hW ho (List.mem_cons_of_mem _ mw87) (fun _ h9 => List.mem_cons_of_mem _ (inU_wsX20 _ h9)) dX2_add_1 ?_
  refine lv_sipush (v := 402) hx hb dX2_add_4 (by decide) ?_
  refine lv_icmp_lt (tgt := 14) hx hb dX2_add_7 (by decide) (fun c1 => ?_) (fun c1 => ?_)
  · have hq := hq.1 c1
    refine lv_aload_n hx hb dX2_add_14 rfl (lv_at hl 0 rfl) ?_
    refine gt2_0 C hK hW ho (List.mem_cons_of_mem _ mw85) (fun _ h9 => List.mem_cons_of_mem _ (inU_wsX20 _ h9)) dX2_add_15 ?_
    refine lv_aload_n hx hb dX2_add_18 rfl (lv_at hl 0 rfl) ?_
    refine gt2_2 C hK hW ho (List.mem_cons_of_mem _ mw87) (fun _ h9 => List.mem_cons_of_mem _ (inU_wsX20 _ h9)) dX2_add_19 ?_
    refine lv_iload_n hx hb dX2_add_22 rfl (lv_at hl 1 rfl) ?_
    refine k_iast okC C hK hW (shC_lt (sl2_0 ho).1 (by decide)) (fun g9 => ceC_14 (sl2_0 ho).1 (sl2_0 ho).2) hq.1 dX2_add_23 (fun H locs hW => ?_)
    have hq := hq.2
    obtain ⟨h2, eh2⟩ : ∃ z : hp, z = sI h (o + 1) (ix (gI h o 2)) x1 := ⟨_, rfl⟩
    rw [← eh2] at hW
    have hq := hq h2 eh2
    refine lv_aload_n hx hb dX2_add_24 rfl (lv_at hl 0 rfl) ?_
    refine gt2_1 C hK hW ho (List.mem_cons_of_mem _ mw86) (fun _ h9 => List.mem_cons_of_mem _ (inU_wsX20 _ h9)) dX2_add_25 ?_
    refine lv_aload_n hx hb dX2_add_28 rfl (lv_at hl 0 rfl) ?_
    refine gt2_2 C hK hW ho (List.mem_cons_of_mem _ mw87) (fun _ h9 => List.mem_cons_of_mem _ (inU_wsX20 _ h9)) dX2_add_29 ?_
    refine lv_iload_n hx hb dX2_add_32 rfl (lv_at hl 2 rfl) ?_
    refine k_iast okC C hK hW (shC_lt (sl2_1 ho).1 (by decide)) (fun g9 => ceC_14 (sl2_1 ho).1 (sl2_1 ho).2) hq.1 dX2_add_33 (fun H locs hW => ?_)
    have hq := hq.2
    obtain ⟨h3, eh3⟩ : ∃ z : hp, z = sI h2 (o + 2) (ix (gI h2 o 2)) x2 := ⟨_, rfl⟩
    rw [← eh3] at hW
    have hq := hq h3 eh3
    refine lv_aload_n hx hb dX2_add_34 rfl (lv_at hl 0 rfl) ?_
    refine lv_dup hx hb dX2_add_35 rfl ?_
    refine gt2_2 C hK hW ho (List.mem_cons_of_mem _ mw87) (fun _ h9 => List.mem_cons_of_mem _ (inU_wsX20 _ h9)) dX2_add_36 ?_
    refine lv_iconst (v := 1) hx hb dX2_add_39 (by decide) ?_
    refine lv_iadd hx hb dX2_add_40 ?_
    refine pt2_2 C hK hW ho (List.mem_cons_of_mem _ mw87) (fun _ h9 => List.mem_cons_of_mem _ (inU_wsX20 _ h9)) dX2_add_41 (fun h4 H locs eh4 hW => ?_)
    have hq := hq h4 eh4
    refine lv_aload_n hx hb dX2_add_44 rfl (lv_at hl 0 rfl) ?_
    refine gt2_2 C hK hW ho (List.mem_cons_of_mem _ mw87) (fun _ h9 => List.mem_cons_of_mem _ (inU_wsX20 _ h9)) dX2_add_45 ?_
    refine lv_iconst (v := 1) hx hb dX2_add_48 (by decide) ?_
    refine lv_isub hx hb dX2_add_49 ?_
    exact k_iret rfl C hW dX2_add_50 hq
  · have hq := hq.2 c1
    refine lv_sipush (v := 401) hx hb dX2_add_10 (by decide) ?_
    exact k_iret rfl C hW dX2_add_13 hq
theorem c_X2_add (l : Launch) (G : wG) {o : Nat} (ho : shC o = 2) (h : hp) (x1 : Int32) (x2 : Int32) (Q : Int32 → hp → Prop) (hq : w_X2_add o h x1 x2 Q) : ctI l SC G yX2_add wUX2_add rmX2_add h [.ref (G.2.2 o), .int x1, .int x2] Q := by
  refine k_start (cc := cX2_add) (maxL := 3) (rt := (some .int)) (own := RX2) (by decide +kernel) rfl rfl (Nat.le_of_ble_eq_true rfl) ?_
  intro p e s m below meth c ls C hK hW hl
  exact k_X2_add_0 ho C hK hW hl hq
theorem k_X2_copy_0 {o : Nat} (ho : shC o = 2) {o1 : Nat} (ho1 : shC o1 = 2) {Q : hp → Prop} {h : hp} (C : kC p s m args meth c cX2_copy 2 none RX2 wUX2_copy) (hK : kK G s) {H : Heap} {locs : List Loc} {ls : Array Slot} (hW : kW SC G h (aS SC G) s H locs) (hl : lv_has ls 2 [(0, .ref (G.2.2 o)), (1, .ref (G.2.2 o1))]) (hq : w_X2_copy_0 o o1 Q h) : W p l e rmX2_copy s m args below meth c H locs 0 0 (MQ below (va_Qv Q (kB SC G) (aS SC G)) args s 0 0 (aS SC G)) (F0 m 0 ls []) := by
  have hx := C.1
  have hb := C.2.1
  unfold w_X2_copy_0 at hq
  refine lv_aload_n hx hb dX2_copy_0 rfl (lv_at hl 0 rfl) ?_
  refine lv_aload_n hx hb dX2_copy_1 rfl (lv_at hl 1 rfl) ?_
  refine gt2_2 C hK hW ho1 (List.mem_cons_of_mem _ mw87) (fun _ h9 => List.mem_cons_of_mem _ (inU_wsX20 _ h9)) dX2_copy_2 ?_
  refine pt2_2 C hK hW ho (List.mem_cons_of_mem _ mw87) (fun _ h9 => List.mem_cons_of_mem _ (inU_wsX20 _ h9)) dX2_copy_5 (fun h1 H locs eh1 hW => ?_)
  have hq := hq h1 eh1
  refine lv_aload_n hx hb dX2_copy_8 rfl (lv_at hl 1 rfl) ?_
  refine gt2_0 C hK hW ho1 (List.mem_cons_of_mem _ mw85) (fun _ h9 => List.mem_cons_of_mem _ (inU_wsX20 _ h9)) dX2_copy_9 ?_
  refine lv_iconst (v := 0) hx hb dX2_copy_12 (by decide) ?_
  refine lv_aload_n hx hb dX2_copy_13 rfl (lv_at hl 0 rfl) ?_
  refine gt2_0 C hK hW ho (List.mem_cons_of_mem _ mw85) (fun _ h9 => List.mem_cons_of_mem _ (inU_wsX20 _ h9)) dX2_copy_14 ?_
  refine lv_iconst (v := 0) hx hb dX2_copy_17 (by decide) ?_
  refine lv_sipush (v := 402) hx hb dX2_copy_18 (by decide) ?_
  refine k_copyi okC C hl.1 hK hW (shC_lt (sl2_0 ho1).1 (by decide)) (shC_lt (sl2_0 ho).1 (by decide)) (ceC_14 (sl2_0 ho1).1 (sl2_0 ho1).2) (fun g9 => ceC_14 (sl2_0 ho).1 (sl2_0 ho).2) (List.mem_cons_of_mem _ mw547) (List.mem_cons_of_mem _ mw548) (List.mem_cons_of_mem _ mw549) (List.mem_cons_of_mem _ mw550) hq.1 hq.2.1 hq.2.2.1 hq.2.2.2.1 hq.2.2.2.2.1 (Nat.le_of_ble_eq_true rfl) (Nat.le_of_ble_eq_true rfl) dX2_copy_21 (fun H locs hW => ?_)
  have hq := hq.2.2.2.2.2
  obtain ⟨h2, eh2⟩ : ∃ z : hp, z = cI h1 (o1 + 1) (ix 0) (o + 1) (ix 0) (ix 402) := ⟨_, rfl⟩
  rw [← eh2] at hW
  have hq := hq h2 eh2
  refine lv_aload_n hx hb dX2_copy_24 rfl (lv_at hl 1 rfl) ?_
  refine gt2_1 C hK hW ho1 (List.mem_cons_of_mem _ mw86) (fun _ h9 => List.mem_cons_of_mem _ (inU_wsX20 _ h9)) dX2_copy_25 ?_
  refine lv_iconst (v := 0) hx hb dX2_copy_28 (by decide) ?_
  refine lv_aload_n hx hb dX2_copy_29 rfl (lv_at hl 0 rfl) ?_
  refine gt2_1 C hK hW ho (List.mem_cons_of_mem _ mw86) (fun _ h9 => List.mem_cons_of_mem _ (inU_wsX20 _ h9)) dX2_copy_30 ?_
  refine lv_iconst (v := 0) hx hb dX2_copy_33 (by decide) ?_
  refine lv_sipush (v := 402) hx hb dX2_copy_34 (by decide) ?_
  refine k_copyi okC C hl.1 hK hW (shC_lt (sl2_1 ho1).1 (by decide)) (shC_lt (sl2_1 ho).1 (by decide)) (ceC_14 (sl2_1 ho1).1 (sl2_1 ho1).2) (fun g9 => ceC_14 (sl2_1 ho).1 (sl2_1 ho).2) (List.mem_cons_of_mem _ mw547) (List.mem_cons_of_mem _ mw548) (List.mem_cons_of_mem _ mw549) (List.mem_cons_of_mem _ mw550) hq.1 hq.2.1 hq.2.2.1 hq.2.2.2.1 hq.2.2.2.2.1 (Nat.le_of_ble_eq_true rfl) (Nat.le_of_ble_eq_true rfl) dX2_copy_37 (fun H locs hW => ?_)
  have hq := hq.2.2.2.2.2
  obtain ⟨h3, eh3⟩ : ∃ z : hp, z = cI h2 (o1 + 2) (ix 0) (o + 2) (ix 0) (ix 402) := ⟨_, rfl⟩
  rw [← eh3] at hW
  have hq := hq h3 eh3
  exact k_vret rfl C hW dX2_copy_40 hq
theorem c_X2_copy (l : Launch) (G : wG) {o : Nat} (ho : shC o = 2) {o1 : Nat} (ho1 : shC o1 = 2) (h : hp) (Q : hp → Prop) (hq : w_X2_copy o o1 h Q) : ctV l SC G yX2_copy wUX2_copy rmX2_copy h [.ref (G.2.2 o), .ref (G.2.2 o1)] Q := by
  refine k_start (cc := cX2_copy) (maxL := 2) (rt := none) (own := RX2) (by decide +kernel) rfl rfl (Nat.le_of_ble_eq_true rfl) ?_
  intro p e s m below meth c ls C hK hW hl
  exact k_X2_copy_0 ho ho1 C hK hW hl hq
end LINKS
