section LINKS
variable {p : Program} {l : Launch} {e : Env} {s : State} {m : MethodId} {args : Array Value} {below : List Frame} {meth : Method} {c : Code} {G : wG}
theorem k_X12_comesBy_b12 {Q : Int64 → Prop} {X12 : Int64 × Int32 → Prop} {x1 : Int32} {x2 : Int64} {h : hp} (C : kC p s m args meth c cX12_comesBy 7 (some .long) RX12 wUX12_comesBy) (hK : kK G s) (hX12 : ∀ (x4 : Int64) (x6 : Int32) (H : Heap) (locs : List Loc) (ls : Array Slot), kW SM G h (aS SM G) s H locs → lv_has ls 7 [(0, .ref (G.2.2 0)), (1, .int x1), (2, .long x2), (4, .long x4), (6, .int x6)] → X12 (x4, x6) → W p l e rmX12_comesBy s m args below meth c H locs 0 0 (MQ below (va_Ql (fun r9 h9 => h9 = h ∧ Q r9) (kB SM G) (aS SM G)) args s 0 0 (aS SM G)) (F0 m 12 ls [])) {x4 : Int64} {x6 : Int32} {H : Heap} {locs : List Loc} {ls : Array Slot} (hW : kW SM G h (aS SM G) s H locs) (hl : lv_has ls 7 [(0, .ref (G.2.2 0)), (1, .int x1), (2, .long x2), (4, .long x4), (6, .int x6)]) (hq : w_X12_comesBy_b12 Q x1 x2 h X12 x4 x6) : W p l e rmX12_comesBy s m args below meth c H locs 0 0 (MQ below (va_Ql (fun r9 h9 => h9 = h ∧ Q r9) (kB SM G) (aS SM G)) args s 0 0 (aS SM G)) (F0 m 12 ls []) := by
  have hx := C.1
  have hb := C.2.1
  unfold w_X12_comesBy_b12 at hq
  refine lv_iload hx hb dX12_comesBy_12 (lv_at hl 4 rfl) ?_
  refine lv_if_lt (tgt := 38) hx hb dX12_comesBy_14 (by decide) (fun c4 => ?_) (fun c4 => ?_)
  · have hq := hq.1 c4
    refine lv_lload hx hb dX12_comesBy_38 (lv_at hl 3 rfl) ?_
    exact k_lret rfl C hW dX12_comesBy_40 ⟨rfl, hq⟩
  · have hq := hq.2 c4
    refine lv_lload hx hb dX12_comesBy_17 (lv_at hl 3 rfl) ?_
    refine lv_lload_n hx hb dX12_comesBy_19 rfl (lv_at hl 2 rfl) ?_
    refine lv_lmul hx hb dX12_comesBy_20 ?_
    refine lv_aload_n hx hb dX12_comesBy_21 rfl (lv_at hl 0 rfl) ?_
    refine lv_iload_n hx hb dX12_comesBy_22 rfl (lv_at hl 1 rfl) ?_
    refine lv_iload hx hb dX12_comesBy_23 (lv_at hl 4 rfl) ?_
    refine k_ci hW (va_runV (As := [.int x1, .int x6]) (rest := [.long (x4 * x2)]) (k_fix C) (c_X12_at l G h x1 x6 _ hq) (cwV 2 C.2.2.2.2.2.1 (gU_V mw769 mw770 mw771 mw5 mw772) rfl rfl rfl (by decide +kernel) ⟨Nat.le_of_ble_eq_true rfl, Nat.le_of_ble_eq_true rfl⟩) (k_preV hK hW (shM_lt (rfl : shM 0 = 12) (by decide)) (ceM_12 (rfl : shM 0 = 12)) (q := (RX12, TX12, 73)) rfl) rfl rfl hl.1 rfl (lv_room (Nat.le_of_ble_eq_true rfl)) dX12_comesBy_25 ⟨Nat.le_refl 0, Nat.le_refl 0⟩) (fun r5 h6 H locs hq hW => ?_)
    rw [hq.1] at hW
    have hq := hq.2
    refine lv_i2l (v := r5.toInt64) hx hb dX12_comesBy_28 rfl ?_
    refine lv_ladd hx hb dX12_comesBy_29 ?_
    refine lv_topl (fun x4_7 ex4_7 => ?_)
    have hq := hq x4_7 ex4_7
    refine lv_lstore (lv' := [(4, .long x4_7), (0, .ref (G.2.2 0)), (1, .int x1), (2, .long x2), (6, .int x6)]) hx hb dX12_comesBy_30 hl (by decide) rfl (fun ls hl => ?_)
    obtain ⟨x6_8, ex6_8⟩ : ∃ y : Int32, y = x6 + (-1) := ⟨_, rfl⟩
    have hq := hq x6_8 ex6_8
    refine lv_iinc (v := x6_8) (lv' := [(6, .int x6_8), (4, .long x4_7), (0, .ref (G.2.2 0)), (1, .int x1), (2, .long x2)]) hx hb dX12_comesBy_32 hl (k := 4) rfl (by rw [ex6_8]; rfl) (by decide) rfl (fun ls hl => ?_)
    refine lv_goto (tgt := 12) hx hb dX12_comesBy_35 (by decide) ?_
    exact hX12 _ _ _ _ _ hW (lv_sub hl [2, 3, 4, 1, 0] rfl) hq
theorem k_X12_comesBy_12 {Q : Int64 → Prop} {x1 : Int32} {x2 : Int64} {h : hp} (C : kC p s m args meth c cX12_comesBy 7 (some .long) RX12 wUX12_comesBy) (hK : kK G s) {x4 : Int64} {x6 : Int32} {H : Heap} {locs : List Loc} {ls : Array Slot} (hW : kW SM G h (aS SM G) s H locs) (hl : lv_has ls 7 [(0, .ref (G.2.2 0)), (1, .int x1), (2, .long x2), (4, .long x4), (6, .int x6)]) (hq : w_X12_comesBy_12 Q x1 x2 h x4 x6) : W p l e rmX12_comesBy s m args below meth c H locs 0 0 (MQ below (va_Ql (fun r9 h9 => h9 = h ∧ Q r9) (kB SM G) (aS SM G)) args s 0 0 (aS SM G)) (F0 m 12 ls []) := by
  have key := hq (fun (q : Int64 × Int32) => ∀ (H : Heap) (locs : List Loc) (ls : Array Slot), kW SM G h (aS SM G) s H locs → lv_has ls 7 [(0, .ref (G.2.2 0)), (1, .int x1), (2, .long x2), (4, .long q.1), (6, .int q.2)] → W p l e rmX12_comesBy s m args below meth c H locs 0 0 (MQ below (va_Ql (fun r9 h9 => h9 = h ∧ Q r9) (kB SM G) (aS SM G)) args s 0 0 (aS SM G)) (F0 m 12 ls []))
    (fun q hq H locs ls hW hl => k_X12_comesBy_b12 C hK (fun x4 x6 H locs ls hW hl hI => hI H locs ls hW hl) hW hl hq)
  exact key _ _ _ hW hl
theorem k_X12_comesBy_0 {Q : Int64 → Prop} {x1 : Int32} {x2 : Int64} {h : hp} (C : kC p s m args meth c cX12_comesBy 7 (some .long) RX12 wUX12_comesBy) (hK : kK G s) {H : Heap} {locs : List Loc} {ls : Array Slot} (hW : kW SM G h (aS SM G) s H locs) (hl : lv_has ls 7 [(0, .ref (G.2.2 0)), (1, .int x1), (2, .long x2)]) (hq : w_X12_comesBy_0 Q x1 x2 h) : W p l e rmX12_comesBy s m args below meth c H locs 0 0 (MQ below (va_Ql (fun r9 h9 => h9 = h ∧ Q r9) (kB SM G) (aS SM G)) args s 0 0 (aS SM G)) (F0 m 0 ls []) := by
  have hx := C.1
  have hb := C.2.1
  unfold w_X12_comesBy_0 at hq
  refine lv_lconst (v := 0) hx hb dX12_comesBy_0 (by decide) ?_
  refine lv_lstore (lv' := [(4, .long 0), (0, .ref (G.2.2 0)), (1, .int x1), (2, .long x2)]) hx hb dX12_comesBy_1 hl (by decide) rfl (fun ls hl => ?_)
  refine lv_aload_n hx hb dX12_comesBy_3 rfl (lv_at hl 1 rfl) ?_
  refine lv_iload_n hx hb dX12_comesBy_4 rfl (lv_at hl 2 rfl) ?_
  refine k_ci hW (va_runV (As := [.int x1]) (rest := []) (k_fix C) (c_X12_longAt l G h x1 _ hq) (cwV 1 C.2.2.2.2.2.1 (gU_V mw765 mw766 mw767 mw5 mw768) rfl rfl rfl (by decide +kernel) ⟨Nat.le_of_ble_eq_true rfl, Nat.le_of_ble_eq_true rfl⟩) (k_preV hK hW (shM_lt (rfl : shM 0 = 12) (by decide)) (ceM_12 (rfl : shM 0 = 12)) (q := (RX12, TX12, 73)) rfl) rfl rfl hl.1 rfl (lv_room (Nat.le_of_ble_eq_true rfl)) dX12_comesBy_5 ⟨Nat.le_refl 0, Nat.le_refl 0⟩) (fun r1 h2 H locs hq hW => ?_)
  rw [hq.1] at hW
  have hq := hq.2
  refine lv_iconst (v := 1) hx hb dX12_comesBy_8 (by decide) ?_
  refine lv_isub hx hb dX12_comesBy_9 ?_
  refine lv_topi (fun x6_3 ex6_3 => ?_)
  have hq := hq x6_3 ex6_3
  refine lv_istore (lv' := [(6, .int x6_3), (4, .long 0), (0, .ref (G.2.2 0)), (1, .int x1), (2, .long x2)]) hx hb dX12_comesBy_10 hl (by decide) rfl (fun ls hl => ?_)
  exact k_X12_comesBy_12 C hK hW (lv_sub hl [2, 3, 4, 1, 0] rfl) hq
theorem c_X12_comesBy (l : Launch) (G : wG) (h : hp) (x1 : Int32) (x2 : Int64) (Q : Int64 → Prop) (hq : w_X12_comesBy h x1 x2 Q) : ctL l SM G yX12_comesBy wUX12_comesBy rmX12_comesBy h [.ref (G.2.2 0), .int x1, .long x2] (fun r9 h9 => h9 = h ∧ Q r9) := by
  refine k_start (cc := cX12_comesBy) (maxL := 7) (rt := (some .long)) (own := RX12) (by decide +kernel) rfl rfl (Nat.le_of_ble_eq_true rfl) ?_
  intro p e s m below meth c ls C hK hW hl
  exact k_X12_comesBy_0 C hK hW hl hq
theorem k_X12_comes_0 {Q : Int64 → Prop} {x1 : Int32} {x2 : Int32} {h : hp} (C : kC p s m args meth c cX12_comes 3 (some .long) RX12 wUX12_comes) (hK : kK G s) {H : Heap} {locs : List Loc} {ls : Array Slot} (hW : kW SM G h (aS SM G) s H locs) (hl : lv_has ls 3 [(0, .ref (G.2.2 0)), (1, .int x1), (2, .int x2)]) (hq : w_X12_comes_0 Q x1 x2 h) : W p l e rmX12_comes s m args below meth c H locs 0 0 (MQ below (va_Ql (fun r9 h9 => h9 = h ∧ Q r9) (kB SM G) (aS SM G)) args s 0 0 (aS SM G)) (F0 m 0 ls []) := by
  have hx := C.1
  have hb := C.2.1
  unfold w_X12_comes_0 at hq
  refine lv_aload_n hx hb dX12_comes_0 rfl (lv_at hl 0 rfl) ?_
  refine lv_iload_n hx hb dX12_comes_1 rfl (lv_at hl 1 rfl) ?_
  refine k_ci hW (va_runV (As := [.int x1]) (rest := []) (k_fix C) (c_X12_isRow l G h x1 _ hq) (cwV 1 C.2.2.2.2.2.1 (gU_V mw758 mw759 mw760 mw5 mw761) rfl rfl rfl (by decide +kernel) ⟨Nat.le_of_ble_eq_true rfl, Nat.le_of_ble_eq_true rfl⟩) (k_preV hK hW (shM_lt (rfl : shM 0 = 12) (by decide)) (ceM_12 (rfl : shM 0 = 12)) (q := (RX12, TX12, 73)) rfl) rfl rfl hl.1 rfl (lv_room (Nat.le_of_ble_eq_true rfl)) dX12_comes_2 ⟨Nat.le_refl 0, Nat.le_refl 0⟩) (fun r1 h2 H locs hq hW => ?_)
  rw [hq.1] at hW
  have hq := hq.2
  refine lv_if_eq (tgt := 32) hx hb dX12_comes_5 (by decide) (fun c3 => ?_) (fun c3 => ?_)
  · have hq := hq.1 c3
    refine lv_ldc2 (v := (-2000000000000000000)) hx hb C.2.2.2.2.1 (C.2.2.2.2.2.1 _ (List.mem_cons_of_mem _ mw792)) dX12_comes_32 ?_
    exact k_lret rfl C hW dX12_comes_35 ⟨rfl, hq⟩
  · have hq := hq.2 c3
    refine lv_iload_n hx hb dX12_comes_8 rfl (lv_at hl 2 rfl) ?_
    refine lv_i2l (v := x2.toInt64) hx hb dX12_comes_9 rfl ?_
    refine lv_ldc2 (v := (-999)) hx hb C.2.2.2.2.1 (C.2.2.2.2.2.1 _ (List.mem_cons_of_mem _ mw790)) dX12_comes_10 ?_
    refine lv_ldc2 (v := 999) hx hb C.2.2.2.2.1 (C.2.2.2.2.2.1 _ (List.mem_cons_of_mem _ mw791)) dX12_comes_13 ?_
    refine k_ci hW (va_runS (As := [.long (x2.toInt64), .long (-999), .long 999]) (rest := []) (k_fix C) (c_X12_in l G h (x2.toInt64) (-999) 999 _ hq) (va_cwS 3 C.2.2.2.2.2.1 (gU_S mw762 mw763 mw5 mw764) rfl rfl rfl (by decide +kernel) ⟨Nat.le_of_ble_eq_true rfl, Nat.le_of_ble_eq_true rfl⟩) (k_preS hK hW) rfl rfl hl.1 rfl (lv_room (Nat.le_of_ble_eq_true rfl)) dX12_comes_16 ⟨Nat.le_refl 0, Nat.le_refl 0⟩) (fun r4 h5 H locs hq hW => ?_)
    rw [hq.1] at hW
    have hq := hq.2
    refine lv_if_eq (tgt := 32) hx hb dX12_comes_19 (by decide) (fun c6 => ?_) (fun c6 => ?_)
    · have hq := hq.1 c6
      refine lv_ldc2 (v := (-2000000000000000000)) hx hb C.2.2.2.2.1 (C.2.2.2.2.2.1 _ (List.mem_cons_of_mem _ mw792)) dX12_comes_32 ?_
      exact k_lret rfl C hW dX12_comes_35 ⟨rfl, hq⟩
    · have hq := hq.2 c6
      refine lv_aload_n hx hb dX12_comes_22 rfl (lv_at hl 0 rfl) ?_
      refine lv_iload_n hx hb dX12_comes_23 rfl (lv_at hl 1 rfl) ?_
      refine lv_iload_n hx hb dX12_comes_24 rfl (lv_at hl 2 rfl) ?_
      refine lv_i2l (v := x2.toInt64) hx hb dX12_comes_25 rfl ?_
      refine k_cl hW (va_runV (As := [.int x1, .long (x2.toInt64)]) (rest := []) (k_fix C) (c_X12_comesBy l G h x1 (x2.toInt64) _ hq) (cwV 2 C.2.2.2.2.2.1 (gU_V mw793 mw794 mw795 mw5 mw796) rfl rfl rfl (by decide +kernel) ⟨Nat.le_of_ble_eq_true rfl, Nat.le_of_ble_eq_true rfl⟩) (k_preV hK hW (shM_lt (rfl : shM 0 = 12) (by decide)) (ceM_12 (rfl : shM 0 = 12)) (q := (RX12, TX12, 73)) rfl) rfl rfl hl.1 rfl (lv_room (Nat.le_of_ble_eq_true rfl)) dX12_comes_26 ⟨Nat.le_refl 0, Nat.le_refl 0⟩) (fun r7 h8 H locs hq hW => ?_)
      rw [hq.1] at hW
      have hq := hq.2
      refine lv_goto (tgt := 35) hx hb dX12_comes_29 (by decide) ?_
      exact k_lret rfl C hW dX12_comes_35 ⟨rfl, hq⟩
theorem c_X12_comes (l : Launch) (G : wG) (h : hp) (x1 : Int32) (x2 : Int32) (Q : Int64 → Prop) (hq : w_X12_comes h x1 x2 Q) : ctL l SM G yX12_comes wUX12_comes rmX12_comes h [.ref (G.2.2 0), .int x1, .int x2] (fun r9 h9 => h9 = h ∧ Q r9) := by
  refine k_start (cc := cX12_comes) (maxL := 3) (rt := (some .long)) (own := RX12) (by decide +kernel) rfl rfl (Nat.le_of_ble_eq_true rfl) ?_
  intro p e s m below meth c ls C hK hW hl
  exact k_X12_comes_0 C hK hW hl hq
theorem k_X12_isBelow_b2 {Q : Int32 → Prop} {X2 : Int32 → Prop} {x1 : Int32} {h : hp} (C : kC p s m args meth c cX12_isBelow 3 (some .boolean) RX12 wUX12_isBelow) (hK : kK G s) (hX2 : ∀ (x2 : Int32) (H : Heap) (locs : List Loc) (ls : Array Slot), kW SM G h (aS SM G) s H locs → lv_has ls 3 [(0, .ref (G.2.2 0)), (1, .int x1), (2, .int x2)] → X2 x2 → W p l e rmX12_isBelow s m args below meth c H locs 0 0 (MQ below (va_Qi (fun r9 h9 => h9 = h ∧ Q r9) (kB SM G) (aS SM G)) args s 0 0 (aS SM G)) (F0 m 2 ls [])) {x2 : Int32} {H : Heap} {locs : List Loc} {ls : Array Slot} (hW : kW SM G h (aS SM G) s H locs) (hl : lv_has ls 3 [(0, .ref (G.2.2 0)), (1, .int x1), (2, .int x2)]) (hq : w_X12_isBelow_b2 Q x1 h X2 x2) : W p l e rmX12_isBelow s m args below meth c H locs 0 0 (MQ below (va_Qi (fun r9 h9 => h9 = h ∧ Q r9) (kB SM G) (aS SM G)) args s 0 0 (aS SM G)) (F0 m 2 ls []) := by
  have hx := C.1
  have hb := C.2.1
  unfold w_X12_isBelow_b2 at hq
  refine lv_iload_n hx hb dX12_isBelow_2 rfl (lv_at hl 2 rfl) ?_
  refine lv_aload_n hx hb dX12_isBelow_3 rfl (lv_at hl 0 rfl) ?_
  refine lv_iload_n hx hb dX12_isBelow_4 rfl (lv_at hl 1 rfl) ?_
  refine k_ci hW (va_runV (As := [.int x1]) (rest := [.int x2]) (k_fix C) (c_X12_longAt l G h x1 _ hq) (cwV 1 C.2.2.2.2.2.1 (gU_V mw765 mw766 mw767 mw5 mw768) rfl rfl rfl (by decide +kernel) ⟨Nat.le_of_ble_eq_true rfl, Nat.le_of_ble_eq_true rfl⟩) (k_preV hK hW (shM_lt (rfl : shM 0 = 12) (by decide)) (ceM_12 (rfl : shM 0 = 12)) (q := (RX12, TX12, 73)) rfl) rfl rfl hl.1 rfl (lv_room (Nat.le_of_ble_eq_true rfl)) dX12_isBelow_5 ⟨Nat.le_refl 0, Nat.le_refl 0⟩) (fun r1 h2 H locs hq hW => ?_)
  rw [hq.1] at hW
  have hq := hq.2
  refine lv_icmp_ge (tgt := 28) hx hb dX12_isBelow_8 (by decide) (fun c3 => ?_) (fun c3 => ?_)
  · have hq := hq.1 c3
    refine lv_iconst (v := 0) hx hb dX12_isBelow_28 (by decide) ?_
    exact k_zret rfl isZ_0.1 C hW dX12_isBelow_29 ⟨rfl, hq⟩
  · have hq := hq.2 c3
    refine lv_aload_n hx hb dX12_isBelow_11 rfl (lv_at hl 0 rfl) ?_
    refine lv_iload_n hx hb dX12_isBelow_12 rfl (lv_at hl 1 rfl) ?_
    refine lv_iload_n hx hb dX12_isBelow_13 rfl (lv_at hl 2 rfl) ?_
    refine k_ci hW (va_runV (As := [.int x1, .int x2]) (rest := []) (k_fix C) (c_X12_at l G h x1 x2 _ hq) (cwV 2 C.2.2.2.2.2.1 (gU_V mw769 mw770 mw771 mw5 mw772) rfl rfl rfl (by decide +kernel) ⟨Nat.le_of_ble_eq_true rfl, Nat.le_of_ble_eq_true rfl⟩) (k_preV hK hW (shM_lt (rfl : shM 0 = 12) (by decide)) (ceM_12 (rfl : shM 0 = 12)) (q := (RX12, TX12, 73)) rfl) rfl rfl hl.1 rfl (lv_room (Nat.le_of_ble_eq_true rfl)) dX12_isBelow_14 ⟨Nat.le_refl 0, Nat.le_refl 0⟩) (fun r4 h5 H locs hq hW => ?_)
    rw [hq.1] at hW
    have hq := hq.2
    refine lv_if_ge (tgt := 22) hx hb dX12_isBelow_17 (by decide) (fun c6 => ?_) (fun c6 => ?_)
    · have hq := hq.1 c6
      obtain ⟨x2_7, ex2_7⟩ : ∃ y : Int32, y = x2 + 1 := ⟨_, rfl⟩
      have hq := hq x2_7 ex2_7
      refine lv_iinc (v := x2_7) (lv' := [(2, .int x2_7), (0, .ref (G.2.2 0)), (1, .int x1)]) hx hb dX12_isBelow_22 hl (k := 2) rfl (by rw [ex2_7]; rfl) (by decide) rfl (fun ls hl => ?_)
      refine lv_goto (tgt := 2) hx hb dX12_isBelow_25 (by decide) ?_
      exact hX2 _ _ _ _ hW (lv_sub hl [1, 2, 0] rfl) hq
    · have hq := hq.2 c6
      refine lv_iconst (v := 1) hx hb dX12_isBelow_20 (by decide) ?_
      exact k_zret rfl isZ_1.1 C hW dX12_isBelow_21 ⟨rfl, hq⟩
theorem k_X12_isBelow_2 {Q : Int32 → Prop} {x1 : Int32} {h : hp} (C : kC p s m args meth c cX12_isBelow 3 (some .boolean) RX12 wUX12_isBelow) (hK : kK G s) {x2 : Int32} {H : Heap} {locs : List Loc} {ls : Array Slot} (hW : kW SM G h (aS SM G) s H locs) (hl : lv_has ls 3 [(0, .ref (G.2.2 0)), (1, .int x1), (2, .int x2)]) (hq : w_X12_isBelow_2 Q x1 h x2) : W p l e rmX12_isBelow s m args below meth c H locs 0 0 (MQ below (va_Qi (fun r9 h9 => h9 = h ∧ Q r9) (kB SM G) (aS SM G)) args s 0 0 (aS SM G)) (F0 m 2 ls []) := by
  have key := hq (fun (q : Int32) => ∀ (H : Heap) (locs : List Loc) (ls : Array Slot), kW SM G h (aS SM G) s H locs → lv_has ls 3 [(0, .ref (G.2.2 0)), (1, .int x1), (2, .int q)] → W p l e rmX12_isBelow s m args below meth c H locs 0 0 (MQ below (va_Qi (fun r9 h9 => h9 = h ∧ Q r9) (kB SM G) (aS SM G)) args s 0 0 (aS SM G)) (F0 m 2 ls []))
    (fun q hq H locs ls hW hl => k_X12_isBelow_b2 C hK (fun x2 H locs ls hW hl hI => hI H locs ls hW hl) hW hl hq)
  exact key _ _ _ hW hl
theorem k_X12_isBelow_0 {Q : Int32 → Prop} {x1 : Int32} {h : hp} (C : kC p s m args meth c cX12_isBelow 3 (some .boolean) RX12 wUX12_isBelow) (hK : kK G s) {H : Heap} {locs : List Loc} {ls : Array Slot} (hW : kW SM G h (aS SM G) s H locs) (hl : lv_has ls 3 [(0, .ref (G.2.2 0)), (1, .int x1)]) (hq : w_X12_isBelow_0 Q x1 h) : W p l e rmX12_isBelow s m args below meth c H locs 0 0 (MQ below (va_Qi (fun r9 h9 => h9 = h ∧ Q r9) (kB SM G) (aS SM G)) args s 0 0 (aS SM G)) (F0 m 0 ls []) := by
  have hx := C.1
  have hb := C.2.1
  unfold w_X12_isBelow_0 at hq
  refine lv_iconst (v := 0) hx hb dX12_isBelow_0 (by decide) ?_
  refine lv_istore_n (lv' := [(2, .int 0), (0, .ref (G.2.2 0)), (1, .int x1)]) hx hb dX12_isBelow_1 rfl hl (by decide) rfl (fun ls hl => ?_)
  exact k_X12_isBelow_2 C hK hW (lv_sub hl [1, 2, 0] rfl) hq
theorem c_X12_isBelow (l : Launch) (G : wG) (h : hp) (x1 : Int32) (Q : Int32 → Prop) (hq : w_X12_isBelow h x1 Q) : ctI l SM G yX12_isBelow wUX12_isBelow rmX12_isBelow h [.ref (G.2.2 0), .int x1] (fun r9 h9 => h9 = h ∧ Q r9) := by
  refine k_start (cc := cX12_isBelow) (maxL := 3) (rt := (some .boolean)) (own := RX12) (by decide +kernel) rfl rfl (Nat.le_of_ble_eq_true rfl) ?_
  intro p e s m below meth c ls C hK hW hl
  exact k_X12_isBelow_0 C hK hW hl hq
theorem k_X12_figures_b18 {Q : Int32 → Prop} {X18 : Int32 × Int64 → Prop} {h : hp} (C : kC p s m args meth c cX12_figures 5 (some .int) RX12 wUX12_figures) (hK : kK G s) (hX18 : ∀ (x2 : Int32) (x3 : Int64) (H : Heap) (locs : List Loc) (ls : Array Slot), kW SM G h (aS SM G) s H locs → lv_has ls 5 [(2, .int x2), (3, .long x3)] → X18 (x2, x3) → W p l e rmX12_figures s m args below meth c H locs 0 0 (MQ below (va_Qi (fun r9 h9 => h9 = h ∧ Q r9) (kB SM G) (aS SM G)) args s 0 0 (aS SM G)) (F0 m 18 ls [])) {x2 : Int32} {x3 : Int64} {H : Heap} {locs : List Loc} {ls : Array Slot} (hW : kW SM G h (aS SM G) s H locs) (hl : lv_has ls 5 [(2, .int x2), (3, .long x3)]) (hq : w_X12_figures_b18 Q X18 x2 x3) : W p l e rmX12_figures s m args below meth c H locs 0 0 (MQ below (va_Qi (fun r9 h9 => h9 = h ∧ Q r9) (kB SM G) (aS SM G)) args s 0 0 (aS SM G)) (F0 m 18 ls []) := by
  have hx := C.1
  have hb := C.2.1
  unfold w_X12_figures_b18 at hq
  refine lv_lload_n hx hb dX12_figures_18 rfl (lv_at hl 1 rfl) ?_
  refine lv_lconst (v := 0) hx hb dX12_figures_19 (by decide) ?_
  refine W.lcmp hx hb dX12_figures_20 ?_
  refine lv_if_eq (tgt := 36) hx hb dX12_figures_21 (by decide) (fun c3 => ?_) (fun c3 => ?_)
  · have hq := hq.1 ((lg_cmp_eq _ _).mp c3)
    refine lv_iload_n hx hb dX12_figures_36 rfl (lv_at hl 0 rfl) ?_
    exact k_iret rfl C hW dX12_figures_37 ⟨rfl, hq⟩
  · have hq := hq.2 (fun z => c3 ((lg_cmp_eq _ _).mpr z))
    obtain ⟨x2_4, ex2_4⟩ : ∃ y : Int32, y = x2 + 1 := ⟨_, rfl⟩
    have hq := hq x2_4 ex2_4
    refine lv_iinc (v := x2_4) (lv' := [(2, .int x2_4), (3, .long x3)]) hx hb dX12_figures_24 hl (k := 0) rfl (by rw [ex2_4]; rfl) (by decide) rfl (fun ls hl => ?_)
    refine lv_lload_n hx hb dX12_figures_27 rfl (lv_at hl 1 rfl) ?_
    refine lv_ldc2 (v := 10) hx hb C.2.2.2.2.1 (C.2.2.2.2.2.1 _ (List.mem_cons_of_mem _ mw829)) dX12_figures_28 ?_
    refine lv_ldiv hx hb dX12_figures_31 (by decide) ?_
    refine lv_topl (fun x3_5 ex3_5 => ?_)
    have hq := hq x3_5 ex3_5
    refine lv_lstore_n (lv' := [(3, .long x3_5), (2, .int x2_4)]) hx hb dX12_figures_32 rfl hl (by decide) rfl (fun ls hl => ?_)
    refine lv_goto (tgt := 18) hx hb dX12_figures_33 (by decide) ?_
    exact hX18 _ _ _ _ _ hW (lv_sub hl [1, 0] rfl) hq
theorem k_X12_figures_18 {Q : Int32 → Prop} {h : hp} (C : kC p s m args meth c cX12_figures 5 (some .int) RX12 wUX12_figures) (hK : kK G s) {x2 : Int32} {x3 : Int64} {H : Heap} {locs : List Loc} {ls : Array Slot} (hW : kW SM G h (aS SM G) s H locs) (hl : lv_has ls 5 [(2, .int x2), (3, .long x3)]) (hq : w_X12_figures_18 Q x2 x3) : W p l e rmX12_figures s m args below meth c H locs 0 0 (MQ below (va_Qi (fun r9 h9 => h9 = h ∧ Q r9) (kB SM G) (aS SM G)) args s 0 0 (aS SM G)) (F0 m 18 ls []) := by
  have key := hq (fun (q : Int32 × Int64) => ∀ (H : Heap) (locs : List Loc) (ls : Array Slot), kW SM G h (aS SM G) s H locs → lv_has ls 5 [(2, .int q.1), (3, .long q.2)] → W p l e rmX12_figures s m args below meth c H locs 0 0 (MQ below (va_Qi (fun r9 h9 => h9 = h ∧ Q r9) (kB SM G) (aS SM G)) args s 0 0 (aS SM G)) (F0 m 18 ls []))
    (fun q hq H locs ls hW hl => k_X12_figures_b18 C hK (fun x2 x3 H locs ls hW hl hI => hI H locs ls hW hl) hW hl hq)
  exact key _ _ _ hW hl
theorem k_X12_figures_11 {Q : Int32 → Prop} {x0 : Int64} {h : hp} {s0 : Int32} (C : kC p s m args meth c cX12_figures 5 (some .int) RX12 wUX12_figures) (hK : kK G s) {H : Heap} {locs : List Loc} {ls : Array Slot} (hW : kW SM G h (aS SM G) s H locs) (hl : lv_has ls 5 [(0, .long x0)]) (hq : w_X12_figures_11 Q x0 s0) : W p l e rmX12_figures s m args below meth c H locs 0 0 (MQ below (va_Qi (fun r9 h9 => h9 = h ∧ Q r9) (kB SM G) (aS SM G)) args s 0 0 (aS SM G)) (F0 m 11 ls [.int s0]) := by
  have hx := C.1
  have hb := C.2.1
  unfold w_X12_figures_11 at hq
  refine lv_istore_n (lv' := [(2, .int s0), (0, .long x0)]) hx hb dX12_figures_11 rfl hl (by decide) rfl (fun ls hl => ?_)
  refine lv_lload_n hx hb dX12_figures_12 rfl (lv_at hl 1 rfl) ?_
  refine lv_ldc2 (v := 10) hx hb C.2.2.2.2.1 (C.2.2.2.2.2.1 _ (List.mem_cons_of_mem _ mw829)) dX12_figures_13 ?_
  refine lv_ldiv hx hb dX12_figures_16 (by decide) ?_
  refine lv_topl (fun x3_2 ex3_2 => ?_)
  have hq := hq x3_2 ex3_2
  refine lv_lstore_n (lv' := [(3, .long x3_2), (2, .int s0), (0, .long x0)]) hx hb dX12_figures_17 rfl hl (by decide) rfl (fun ls hl => ?_)
  exact k_X12_figures_18 C hK hW (lv_sub hl [1, 0] rfl) hq
theorem k_X12_figures_0 {Q : Int32 → Prop} {x0 : Int64} {h : hp} (C : kC p s m args meth c cX12_figures 5 (some .int) RX12 wUX12_figures) (hK : kK G s) {H : Heap} {locs : List Loc} {ls : Array Slot} (hW : kW SM G h (aS SM G) s H locs) (hl : lv_has ls 5 [(0, .long x0)]) (hq : w_X12_figures_0 Q x0) : W p l e rmX12_figures s m args below meth c H locs 0 0 (MQ below (va_Qi (fun r9 h9 => h9 = h ∧ Q r9) (kB SM G) (aS SM G)) args s 0 0 (aS SM G)) (F0 m 0 ls []) := by
  have hx := C.1
  have hb := C.2.1
  unfold w_X12_figures_0 at hq
  refine lv_lload_n hx hb dX12_figures_0 rfl (lv_at hl 0 rfl) ?_
  refine lv_lconst (v := 0) hx hb dX12_figures_1 (by decide) ?_
  refine W.lcmp hx hb dX12_figures_2 ?_
  refine lv_if_ge (tgt := 10) hx hb dX12_figures_3 (by decide) (fun c1 => ?_) (fun c1 => ?_)
  · have hq := hq.1 ((lg_cmp_ge _ _).mp c1)
    refine lv_iconst (v := 1) hx hb dX12_figures_10 (by decide) ?_
    exact k_X12_figures_11 C hK hW (lv_sub hl [0] rfl) hq
  · have hq := hq.2 (fun z => c1 ((lg_cmp_ge _ _).mpr z))
    refine lv_iconst (v := 2) hx hb dX12_figures_6 (by decide) ?_
    refine lv_goto (tgt := 11) hx hb dX12_figures_7 (by decide) ?_
    exact k_X12_figures_11 C hK hW (lv_sub hl [0] rfl) hq
theorem c_X12_figures (l : Launch) (G : wG) (h : hp) (x0 : Int64) (Q : Int32 → Prop) (hq : w_X12_figures x0 Q) : ctI l SM G yX12_figures wUX12_figures rmX12_figures h [.long x0] (fun r9 h9 => h9 = h ∧ Q r9) := by
  refine k_start (cc := cX12_figures) (maxL := 5) (rt := (some .int)) (own := RX12) (by decide +kernel) rfl rfl (Nat.le_of_ble_eq_true rfl) ?_
  intro p e s m below meth c ls C hK hW hl
  exact k_X12_figures_0 C hK hW hl hq
theorem k_X12_two_0 {Q : Int64 → Prop} {x1 : Int32} {x2 : Int32} {h : hp} (C : kC p s m args meth c cX12_two 5 (some .long) RX12 wUX12_two) (hK : kK G s) {H : Heap} {locs : List Loc} {ls : Array Slot} (hW : kW SM G h (aS SM G) s H locs) (hl : lv_has ls 5 [(0, .ref (G.2.2 0)), (1, .int x1), (2, .int x2)]) (hq : w_X12_two_0 Q x1 x2 h) : W p l e rmX12_two s m args below meth c H locs 0 0 (MQ below (va_Ql (fun r9 h9 => h9 = h ∧ Q r9) (kB SM G) (aS SM G)) args s 0 0 (aS SM G)) (F0 m 0 ls []) := by
  have hx := C.1
  have hb := C.2.1
  unfold w_X12_two_0 at hq
  refine lv_aload_n hx hb dX12_two_0 rfl (lv_at hl 0 rfl) ?_
  refine lv_iload_n hx hb dX12_two_1 rfl (lv_at hl 1 rfl) ?_
  refine k_ci hW (va_runV (As := [.int x1]) (rest := []) (k_fix C) (c_X12_isRow l G h x1 _ hq) (cwV 1 C.2.2.2.2.2.1 (gU_V mw758 mw759 mw760 mw5 mw761) rfl rfl rfl (by decide +kernel) ⟨Nat.le_of_ble_eq_true rfl, Nat.le_of_ble_eq_true rfl⟩) (k_preV hK hW (shM_lt (rfl : shM 0 = 12) (by decide)) (ceM_12 (rfl : shM 0 = 12)) (q := (RX12, TX12, 73)) rfl) rfl rfl hl.1 rfl (lv_room (Nat.le_of_ble_eq_true rfl)) dX12_two_2 ⟨Nat.le_refl 0, Nat.le_refl 0⟩) (fun r1 h2 H locs hq hW => ?_)
  rw [hq.1] at hW
  have hq := hq.2
  refine lv_if_eq (tgt := 20) hx hb dX12_two_5 (by decide) (fun c3 => ?_) (fun c3 => ?_)
  · have hq := hq.1 c3
    refine lv_ldc2 (v := (-1)) hx hb C.2.2.2.2.1 (C.2.2.2.2.2.1 _ (List.mem_cons_of_mem _ mw820)) dX12_two_20 ?_
    exact k_lret rfl C hW dX12_two_23 ⟨rfl, hq⟩
  · have hq := hq.2 c3
    refine lv_iload_n hx hb dX12_two_8 rfl (lv_at hl 2 rfl) ?_
    refine lv_i2l (v := x2.toInt64) hx hb dX12_two_9 rfl ?_
    refine lv_lconst (v := 0) hx hb dX12_two_10 (by decide) ?_
    refine lv_ldc2 (v := 3) hx hb C.2.2.2.2.1 (C.2.2.2.2.2.1 _ (List.mem_cons_of_mem _ mw819)) dX12_two_11 ?_
    refine k_ci hW (va_runS (As := [.long (x2.toInt64), .long 0, .long 3]) (rest := []) (k_fix C) (c_X12_in l G h (x2.toInt64) 0 3 _ hq) (va_cwS 3 C.2.2.2.2.2.1 (gU_S mw762 mw763 mw5 mw764) rfl rfl rfl (by decide +kernel) ⟨Nat.le_of_ble_eq_true rfl, Nat.le_of_ble_eq_true rfl⟩) (k_preS hK hW) rfl rfl hl.1 rfl (lv_room (Nat.le_of_ble_eq_true rfl)) dX12_two_14 ⟨Nat.le_refl 0, Nat.le_refl 0⟩) (fun r4 h5 H locs hq hW => ?_)
    rw [hq.1] at hW
    have hq := hq.2
    refine lv_if_ne (tgt := 24) hx hb dX12_two_17 (by decide) (fun c6 => ?_) (fun c6 => ?_)
    · have hq := hq.1 c6
      refine lv_aload_n hx hb dX12_two_24 rfl (lv_at hl 0 rfl) ?_
      refine lv_iload_n hx hb dX12_two_25 rfl (lv_at hl 1 rfl) ?_
      refine k_ci hW (va_runV (As := [.int x1]) (rest := []) (k_fix C) (c_X12_isBelow l G h x1 _ hq) (cwV 1 C.2.2.2.2.2.1 (gU_V mw822 mw823 mw824 mw5 mw825) rfl rfl rfl (by decide +kernel) ⟨Nat.le_of_ble_eq_true rfl, Nat.le_of_ble_eq_true rfl⟩) (k_preV hK hW (shM_lt (rfl : shM 0 = 12) (by decide)) (ceM_12 (rfl : shM 0 = 12)) (q := (RX12, TX12, 73)) rfl) rfl rfl hl.1 rfl (lv_room (Nat.le_of_ble_eq_true rfl)) dX12_two_26 ⟨Nat.le_refl 0, Nat.le_refl 0⟩) (fun r7 h8 H locs hq hW => ?_)
      rw [hq.1] at hW
      have hq := hq.2
      refine lv_if_eq (tgt := 36) hx hb dX12_two_29 (by decide) (fun c9 => ?_) (fun c9 => ?_)
      · have hq := hq.1 c9
        refine lv_aload_n hx hb dX12_two_36 rfl (lv_at hl 0 rfl) ?_
        refine lv_iload_n hx hb dX12_two_37 rfl (lv_at hl 1 rfl) ?_
        refine lv_lconst (v := 1) hx hb dX12_two_38 (by decide) ?_
        refine k_cl hW (va_runV (As := [.int x1, .long 1]) (rest := []) (k_fix C) (c_X12_comesBy l G h x1 1 _ hq) (cwV 2 C.2.2.2.2.2.1 (gU_V mw793 mw794 mw795 mw5 mw796) rfl rfl rfl (by decide +kernel) ⟨Nat.le_of_ble_eq_true rfl, Nat.le_of_ble_eq_true rfl⟩) (k_preV hK hW (shM_lt (rfl : shM 0 = 12) (by decide)) (ceM_12 (rfl : shM 0 = 12)) (q := (RX12, TX12, 73)) rfl) rfl rfl hl.1 rfl (lv_room (Nat.le_of_ble_eq_true rfl)) dX12_two_39 ⟨Nat.le_refl 0, Nat.le_refl 0⟩) (fun r10 h11 H locs hq hW => ?_)
        rw [hq.1] at hW
        have hq := hq.2
        refine lv_lstore_n (lv' := [(3, .long r10), (0, .ref (G.2.2 0)), (1, .int x1), (2, .int x2)]) hx hb dX12_two_42 rfl hl (by decide) rfl (fun ls hl => ?_)
        refine lv_iload_n hx hb dX12_two_43 rfl (lv_at hl 3 rfl) ?_
        refine lv_topi (fun sw12 esw12 => ?_)
        have hq := hq sw12 esw12
        by_cases c13 : sw12 = 0
        · have hq := hq.1 c13
          refine k_top c13 ?_
          refine lv_tableIn (tgt := 72) (off := 28) hx hb dX12_two_44 (by decide) (by decide) (by decide) (by decide) ?_
          refine lv_lload_n hx hb dX12_two_72 rfl (lv_at hl 0 rfl) ?_
          exact k_lret rfl C hW dX12_two_73 ⟨rfl, hq⟩
        have hq := hq.2
        by_cases c14 : sw12 = 1
        · have hq := hq.1 c14
          refine k_top c14 ?_
          refine lv_tableIn (tgt := 74) (off := 30) hx hb dX12_two_44 (by decide) (by decide) (by decide) (by decide) ?_
          refine lv_lload_n hx hb dX12_two_74 rfl (lv_at hl 0 rfl) ?_
          refine lv_lconst (v := 1) hx hb dX12_two_75 (by decide) ?_
          refine lv_ladd hx hb dX12_two_76 ?_
          exact k_lret rfl C hW dX12_two_77 ⟨rfl, hq⟩
        have hq := hq.2
        by_cases c15 : sw12 = 2
        · have hq := hq.1 c15
          refine k_top c15 ?_
          refine lv_tableIn (tgt := 78) (off := 34) hx hb dX12_two_44 (by decide) (by decide) (by decide) (by decide) ?_
          refine lv_aload_n hx hb dX12_two_78 rfl (lv_at hl 1 rfl) ?_
          refine lv_iload_n hx hb dX12_two_79 rfl (lv_at hl 2 rfl) ?_
          refine lv_lload_n hx hb dX12_two_80 rfl (lv_at hl 0 rfl) ?_
          refine lv_lconst (v := 1) hx hb dX12_two_81 (by decide) ?_
          refine lv_ladd hx hb dX12_two_82 ?_
          refine k_cl hW (va_runV (As := [.int x1, .long (r10 + 1)]) (rest := []) (k_fix C) (c_X12_comesBy l G h x1 (r10 + 1) _ hq) (cwV 2 C.2.2.2.2.2.1 (gU_V mw793 mw794 mw795 mw5 mw796) rfl rfl rfl (by decide +kernel) ⟨Nat.le_of_ble_eq_true rfl, Nat.le_of_ble_eq_true rfl⟩) (k_preV hK hW (shM_lt (rfl : shM 0 = 12) (by decide)) (ceM_12 (rfl : shM 0 = 12)) (q := (RX12, TX12, 73)) rfl) rfl rfl hl.1 rfl (lv_room (Nat.le_of_ble_eq_true rfl)) dX12_two_83 ⟨Nat.le_refl 0, Nat.le_refl 0⟩) (fun r16 h17 H locs hq hW => ?_)
          rw [hq.1] at hW
          have hq := hq.2
          exact k_lret rfl C hW dX12_two_86 ⟨rfl, hq⟩
        have hq := hq.2
        have c18 : sw12.toInt < 0 ∨ 2 < sw12.toInt := by
          rcases Int.lt_or_le sw12.toInt 0 with q | q
          · exact Or.inl q
          · refine Or.inr (Int.not_le.mp fun q2 => ?_)
            have q3 : sw12 = Int32.ofInt sw12.toInt := (Int32.ofInt_toInt sw12).symm
            have q4 : sw12.toInt = 0 ∨ sw12.toInt = 1 ∨ sw12.toInt = 2 := by omega
            rcases q4 with q4 | q4 | q4 <;> rw [q4] at q3 <;> simp_all
        refine lv_tableOut (tgt := 87) hx hb dX12_two_44 c18 (by decide) ?_
        have hq := hq c18
        refine lv_lconst (v := 1) hx hb dX12_two_87 (by decide) ?_
        refine lv_lload_n hx hb dX12_two_88 rfl (lv_at hl 0 rfl) ?_
        refine lv_lconst (v := 1) hx hb dX12_two_89 (by decide) ?_
        refine lv_ladd hx hb dX12_two_90 ?_
        refine k_ci hW (va_runS (As := [.long (r10 + 1)]) (rest := [.long 1]) (k_fix C) (c_X12_figures l G h (r10 + 1) _ hq) (va_cwS 1 C.2.2.2.2.2.1 (gU_S mw826 mw827 mw5 mw828) rfl rfl rfl (by decide +kernel) ⟨Nat.le_of_ble_eq_true rfl, Nat.le_of_ble_eq_true rfl⟩) (k_preS hK hW) rfl rfl hl.1 rfl (lv_room (Nat.le_of_ble_eq_true rfl)) dX12_two_91 ⟨Nat.le_refl 0, Nat.le_refl 0⟩) (fun r19 h20 H locs hq hW => ?_)
        rw [hq.1] at hW
        have hq := hq.2
        refine lv_i2l (v := r19.toInt64) hx hb dX12_two_94 rfl ?_
        refine lv_ladd hx hb dX12_two_95 ?_
        exact k_lret rfl C hW dX12_two_96 ⟨rfl, hq⟩
      · have hq := hq.2 c9
        refine lv_ldc2 (v := (-2)) hx hb C.2.2.2.2.1 (C.2.2.2.2.2.1 _ (List.mem_cons_of_mem _ mw821)) dX12_two_32 ?_
        exact k_lret rfl C hW dX12_two_35 ⟨rfl, hq⟩
    · have hq := hq.2 c6
      refine lv_ldc2 (v := (-1)) hx hb C.2.2.2.2.1 (C.2.2.2.2.2.1 _ (List.mem_cons_of_mem _ mw820)) dX12_two_20 ?_
      exact k_lret rfl C hW dX12_two_23 ⟨rfl, hq⟩
theorem c_X12_two (l : Launch) (G : wG) (h : hp) (x1 : Int32) (x2 : Int32) (Q : Int64 → Prop) (hq : w_X12_two h x1 x2 Q) : ctL l SM G yX12_two wUX12_two rmX12_two h [.ref (G.2.2 0), .int x1, .int x2] (fun r9 h9 => h9 = h ∧ Q r9) := by
  refine k_start (cc := cX12_two) (maxL := 5) (rt := (some .long)) (own := RX12) (by decide +kernel) rfl rfl (Nat.le_of_ble_eq_true rfl) ?_
  intro p e s m below meth c ls C hK hW hl
  exact k_X12_two_0 C hK hW hl hq
theorem k_X12_figure_76 {Q : Int32 → Prop} {X49 : Int32 × Int32 × Int64 → Prop} {x3 : Int32} {x4 : Int32} {x5 : Int32} {x6 : Int32} {x7 : Int64} {h : hp} (C : kC p s m args meth c cX12_figure 9 (some .int) RX12 wUX12_figure) (hK : kK G s) (hX49 : ∀ (x5 : Int32) (x6 : Int32) (x7 : Int64) (H : Heap) (locs : List Loc) (ls : Array Slot), kW SM G h (aS SM G) s H locs → lv_has ls 9 [(3, .int x3), (4, .int x4), (5, .int x5), (6, .int x6), (7, .long x7)] → X49 (x5, x6, x7) → W p l e rmX12_figure s m args below meth c H locs 0 0 (MQ below (va_Qi (fun r9 h9 => h9 = h ∧ Q r9) (kB SM G) (aS SM G)) args s 0 0 (aS SM G)) (F0 m 49 ls [])) {H : Heap} {locs : List Loc} {ls : Array Slot} (hW : kW SM G h (aS SM G) s H locs) (hl : lv_has ls 9 [(3, .int x3), (4, .int x4), (5, .int x5), (6, .int x6), (7, .long x7)]) (hq : w_X12_figure_76 Q X49 x3 x4 x5 x6 x7) : W p l e rmX12_figure s m args below meth c H locs 0 0 (MQ below (va_Qi (fun r9 h9 => h9 = h ∧ Q r9) (kB SM G) (aS SM G)) args s 0 0 (aS SM G)) (F0 m 76 ls []) := by
  have hx := C.1
  have hb := C.2.1
  unfold w_X12_figure_76 at hq
  refine lv_lload hx hb dX12_figure_76 (lv_at hl 4 rfl) ?_
  refine lv_iload_n hx hb dX12_figure_78 rfl (lv_at hl 0 rfl) ?_
  refine lv_i2l (v := x3.toInt64) hx hb dX12_figure_79 rfl ?_
  refine lv_ldiv hx hb dX12_figure_80 hq.1 ?_
  have hq := hq.2
  refine lv_topl (fun x7_15 ex7_15 => ?_)
  have hq := hq x7_15 ex7_15
  refine lv_lstore (lv' := [(7, .long x7_15), (3, .int x3), (4, .int x4), (5, .int x5), (6, .int x6)]) hx hb dX12_figure_81 hl (by decide) rfl (fun ls hl => ?_)
  obtain ⟨x5_16, ex5_16⟩ : ∃ y : Int32, y = x5 + 1 := ⟨_, rfl⟩
  have hq := hq x5_16 ex5_16
  refine lv_iinc (v := x5_16) (lv' := [(5, .int x5_16), (7, .long x7_15), (3, .int x3), (4, .int x4), (6, .int x6)]) hx hb dX12_figure_83 hl (k := 3) rfl (by rw [ex5_16]; rfl) (by decide) rfl (fun ls hl => ?_)
  refine lv_iload hx hb dX12_figure_86 (lv_at hl 0 rfl) ?_
  refine lv_bipush (v := 6) hx hb dX12_figure_88 (by decide) ?_
  refine lv_icmp_ne (tgt := 49) hx hb dX12_figure_90 (by decide) (fun c17 => ?_) (fun c17 => ?_)
  · have hq := hq.1 c17
    exact hX49 _ _ _ _ _ _ hW (lv_sub hl [2, 3, 0, 4, 1] rfl) hq
  · have hq := hq.2 c17
    refine lv_lload hx hb dX12_figure_93 (lv_at hl 1 rfl) ?_
    refine lv_lconst (v := 0) hx hb dX12_figure_95 (by decide) ?_
    refine W.lcmp hx hb dX12_figure_96 ?_
    refine lv_if_le (tgt := 49) hx hb dX12_figure_97 (by decide) (fun c18 => ?_) (fun c18 => ?_)
    · have hq := hq.1 ((lg_cmp_le _ _).mp c18)
      exact hX49 _ _ _ _ _ _ hW (lv_sub hl [2, 3, 0, 4, 1] rfl) hq
    · have hq := hq.2 (fun z => c18 ((lg_cmp_le _ _).mpr z))
      refine lv_bipush (v := (-2)) hx hb dX12_figure_100 (by decide) ?_
      exact k_iret rfl C hW dX12_figure_102 ⟨rfl, hq⟩
theorem k_X12_figure_61 {Q : Int32 → Prop} {X49 : Int32 × Int32 × Int64 → Prop} {x3 : Int32} {x4 : Int32} {x5 : Int32} {x6 : Int32} {x7 : Int64} {h : hp} (C : kC p s m args meth c cX12_figure 9 (some .int) RX12 wUX12_figure) (hK : kK G s) (hX49 : ∀ (x5 : Int32) (x6 : Int32) (x7 : Int64) (H : Heap) (locs : List Loc) (ls : Array Slot), kW SM G h (aS SM G) s H locs → lv_has ls 9 [(3, .int x3), (4, .int x4), (5, .int x5), (6, .int x6), (7, .long x7)] → X49 (x5, x6, x7) → W p l e rmX12_figure s m args below meth c H locs 0 0 (MQ below (va_Qi (fun r9 h9 => h9 = h ∧ Q r9) (kB SM G) (aS SM G)) args s 0 0 (aS SM G)) (F0 m 49 ls [])) {H : Heap} {locs : List Loc} {ls : Array Slot} (hW : kW SM G h (aS SM G) s H locs) (hl : lv_has ls 9 [(3, .int x3), (4, .int x4), (5, .int x5), (6, .int x6), (7, .long x7)]) (hq : w_X12_figure_61 Q X49 x3 x4 x5 x6 x7) : W p l e rmX12_figure s m args below meth c H locs 0 0 (MQ below (va_Qi (fun r9 h9 => h9 = h ∧ Q r9) (kB SM G) (aS SM G)) args s 0 0 (aS SM G)) (F0 m 61 ls []) := by
  have hx := C.1
  have hb := C.2.1
  unfold w_X12_figure_61 at hq
  refine lv_iload hx hb dX12_figure_61 (lv_at hl 2 rfl) ?_
  refine lv_iload hx hb dX12_figure_63 (lv_at hl 1 rfl) ?_
  refine lv_icmp_ne (tgt := 76) hx hb dX12_figure_65 (by decide) (fun c13 => ?_) (fun c13 => ?_)
  · have hq := hq.1 c13
    exact k_X12_figure_76 C hK hX49 hW (lv_sub hl [0, 1, 2, 3, 4] rfl) hq
  · have hq := hq.2 c13
    refine lv_lload hx hb dX12_figure_68 (lv_at hl 4 rfl) ?_
    refine lv_iload_n hx hb dX12_figure_70 rfl (lv_at hl 0 rfl) ?_
    refine lv_i2l (v := x3.toInt64) hx hb dX12_figure_71 rfl ?_
    refine k_lrem hx hb dX12_figure_72 hq.1 ?_
    have hq := hq.2
    refine lv_l2i (v := (lrem x7 (x3.toInt64)).toInt32) hx hb dX12_figure_73 rfl ?_
    refine lv_topi (fun x6_14 ex6_14 => ?_)
    have hq := hq x6_14 ex6_14
    refine lv_istore (lv' := [(6, .int x6_14), (3, .int x3), (4, .int x4), (5, .int x5), (7, .long x7)]) hx hb dX12_figure_74 hl (by decide) rfl (fun ls hl => ?_)
    exact k_X12_figure_76 C hK hX49 hW (lv_sub hl [1, 2, 3, 0, 4] rfl) hq
theorem k_X12_figure_b49 {Q : Int32 → Prop} {X49 : Int32 × Int32 × Int64 → Prop} {x3 : Int32} {x4 : Int32} {h : hp} (C : kC p s m args meth c cX12_figure 9 (some .int) RX12 wUX12_figure) (hK : kK G s) (hX49 : ∀ (x5 : Int32) (x6 : Int32) (x7 : Int64) (H : Heap) (locs : List Loc) (ls : Array Slot), kW SM G h (aS SM G) s H locs → lv_has ls 9 [(3, .int x3), (4, .int x4), (5, .int x5), (6, .int x6), (7, .long x7)] → X49 (x5, x6, x7) → W p l e rmX12_figure s m args below meth c H locs 0 0 (MQ below (va_Qi (fun r9 h9 => h9 = h ∧ Q r9) (kB SM G) (aS SM G)) args s 0 0 (aS SM G)) (F0 m 49 ls [])) {x5 : Int32} {x6 : Int32} {x7 : Int64} {H : Heap} {locs : List Loc} {ls : Array Slot} (hW : kW SM G h (aS SM G) s H locs) (hl : lv_has ls 9 [(3, .int x3), (4, .int x4), (5, .int x5), (6, .int x6), (7, .long x7)]) (hq : w_X12_figure_b49 Q x3 x4 X49 x5 x6 x7) : W p l e rmX12_figure s m args below meth c H locs 0 0 (MQ below (va_Qi (fun r9 h9 => h9 = h ∧ Q r9) (kB SM G) (aS SM G)) args s 0 0 (aS SM G)) (F0 m 49 ls []) := by
  have hx := C.1
  have hb := C.2.1
  unfold w_X12_figure_b49 at hq
  refine lv_iload hx hb dX12_figure_49 (lv_at hl 2 rfl) ?_
  refine lv_if_eq (tgt := 61) hx hb dX12_figure_51 (by decide) (fun c10 => ?_) (fun c10 => ?_)
  · have hq := hq.1 c10
    exact k_X12_figure_61 C hK hX49 hW (lv_sub hl [0, 1, 2, 3, 4] rfl) hq
  · have hq := hq.2 c10
    refine lv_lload hx hb dX12_figure_54 (lv_at hl 4 rfl) ?_
    refine lv_lconst (v := 0) hx hb dX12_figure_56 (by decide) ?_
    refine W.lcmp hx hb dX12_figure_57 ?_
    refine lv_if_le (tgt := 103) hx hb dX12_figure_58 (by decide) (fun c11 => ?_) (fun c11 => ?_)
    · have hq := hq.1 ((lg_cmp_le _ _).mp c11)
      refine lv_iload hx hb dX12_figure_103 (lv_at hl 1 rfl) ?_
      refine lv_bipush (v := 6) hx hb dX12_figure_105 (by decide) ?_
      refine lv_icmp_ne (tgt := 115) hx hb dX12_figure_107 (by decide) (fun c12 => ?_) (fun c12 => ?_)
      · have hq := hq.1 c12
        refine lv_iload hx hb dX12_figure_115 (lv_at hl 3 rfl) ?_
        exact k_iret rfl C hW dX12_figure_117 ⟨rfl, hq⟩
      · have hq := hq.2 c12
        refine lv_iload hx hb dX12_figure_110 (lv_at hl 2 rfl) ?_
        refine lv_goto (tgt := 117) hx hb dX12_figure_112 (by decide) ?_
        exact k_iret rfl C hW dX12_figure_117 ⟨rfl, hq⟩
    · have hq := hq.2 (fun z => c11 ((lg_cmp_le _ _).mpr z))
      exact k_X12_figure_61 C hK hX49 hW (lv_sub hl [0, 1, 2, 3, 4] rfl) hq
theorem k_X12_figure_49 {Q : Int32 → Prop} {x3 : Int32} {x4 : Int32} {h : hp} (C : kC p s m args meth c cX12_figure 9 (some .int) RX12 wUX12_figure) (hK : kK G s) {x5 : Int32} {x6 : Int32} {x7 : Int64} {H : Heap} {locs : List Loc} {ls : Array Slot} (hW : kW SM G h (aS SM G) s H locs) (hl : lv_has ls 9 [(3, .int x3), (4, .int x4), (5, .int x5), (6, .int x6), (7, .long x7)]) (hq : w_X12_figure_49 Q x3 x4 x5 x6 x7) : W p l e rmX12_figure s m args below meth c H locs 0 0 (MQ below (va_Qi (fun r9 h9 => h9 = h ∧ Q r9) (kB SM G) (aS SM G)) args s 0 0 (aS SM G)) (F0 m 49 ls []) := by
  have key := hq (fun (q : Int32 × Int32 × Int64) => ∀ (H : Heap) (locs : List Loc) (ls : Array Slot), kW SM G h (aS SM G) s H locs → lv_has ls 9 [(3, .int x3), (4, .int x4), (5, .int q.1), (6, .int q.2.1), (7, .long q.2.2)] → W p l e rmX12_figure s m args below meth c H locs 0 0 (MQ below (va_Qi (fun r9 h9 => h9 = h ∧ Q r9) (kB SM G) (aS SM G)) args s 0 0 (aS SM G)) (F0 m 49 ls []))
    (fun q hq H locs ls hW hl => k_X12_figure_b49 C hK (fun x5 x6 x7 H locs ls hW hl hI => hI H locs ls hW hl) hW hl hq)
  exact key _ _ _ hW hl
theorem k_X12_figure_0 {Q : Int32 → Prop} {x1 : Int64} {x3 : Int32} {x4 : Int32} {h : hp} (C : kC p s m args meth c cX12_figure 9 (some .int) RX12 wUX12_figure) (hK : kK G s) {H : Heap} {locs : List Loc} {ls : Array Slot} (hW : kW SM G h (aS SM G) s H locs) (hl : lv_has ls 9 [(0, .ref (G.2.2 0)), (1, .long x1), (3, .int x3), (4, .int x4)]) (hq : w_X12_figure_0 Q x1 x3 x4) : W p l e rmX12_figure s m args below meth c H locs 0 0 (MQ below (va_Qi (fun r9 h9 => h9 = h ∧ Q r9) (kB SM G) (aS SM G)) args s 0 0 (aS SM G)) (F0 m 0 ls []) := by
  have hx := C.1
  have hb := C.2.1
  unfold w_X12_figure_0 at hq
  refine lv_lload_n hx hb dX12_figure_0 rfl (lv_at hl 1 rfl) ?_
  refine lv_lconst (v := 0) hx hb dX12_figure_1 (by decide) ?_
  refine lv_ldc2 (v := 1000000000000000000) hx hb C.2.2.2.2.1 (C.2.2.2.2.2.1 _ (List.mem_cons_of_mem _ mw842)) dX12_figure_2 ?_
  refine k_ci hW (va_runS (As := [.long x1, .long 0, .long 1000000000000000000]) (rest := []) (k_fix C) (c_X12_in l G h x1 0 1000000000000000000 _ hq) (va_cwS 3 C.2.2.2.2.2.1 (gU_S mw762 mw763 mw5 mw764) rfl rfl rfl (by decide +kernel) ⟨Nat.le_of_ble_eq_true rfl, Nat.le_of_ble_eq_true rfl⟩) (k_preS hK hW) rfl rfl hl.1 rfl (lv_room (Nat.le_of_ble_eq_true rfl)) dX12_figure_5 ⟨Nat.le_refl 0, Nat.le_refl 0⟩) (fun r1 h2 H locs hq hW => ?_)
  rw [hq.1] at hW
  have hq := hq.2
  refine lv_if_eq (tgt := 38) hx hb dX12_figure_8 (by decide) (fun c3 => ?_) (fun c3 => ?_)
  · have hq := hq.1 c3
    refine lv_iconst (v := (-1)) hx hb dX12_figure_38 (by decide) ?_
    exact k_iret rfl C hW dX12_figure_39 ⟨rfl, hq⟩
  · have hq := hq.2 c3
    refine lv_iload_n hx hb dX12_figure_11 rfl (lv_at hl 2 rfl) ?_
    refine lv_i2l (v := x3.toInt64) hx hb dX12_figure_12 rfl ?_
    refine lv_ldc2 (v := 2) hx hb C.2.2.2.2.1 (C.2.2.2.2.2.1 _ (List.mem_cons_of_mem _ mw843)) dX12_figure_13 ?_
    refine lv_ldc2 (v := 9999) hx hb C.2.2.2.2.1 (C.2.2.2.2.2.1 _ (List.mem_cons_of_mem _ mw844)) dX12_figure_16 ?_
    refine k_ci hW (va_runS (As := [.long (x3.toInt64), .long 2, .long 9999]) (rest := []) (k_fix C) (c_X12_in l G h (x3.toInt64) 2 9999 _ hq) (va_cwS 3 C.2.2.2.2.2.1 (gU_S mw762 mw763 mw5 mw764) rfl rfl rfl (by decide +kernel) ⟨Nat.le_of_ble_eq_true rfl, Nat.le_of_ble_eq_true rfl⟩) (k_preS hK hW) rfl rfl hl.1 rfl (lv_room (Nat.le_of_ble_eq_true rfl)) dX12_figure_19 ⟨Nat.le_refl 0, Nat.le_refl 0⟩) (fun r4 h5 H locs hq hW => ?_)
    rw [hq.1] at hW
    have hq := hq.2
    refine lv_if_eq (tgt := 38) hx hb dX12_figure_22 (by decide) (fun c6 => ?_) (fun c6 => ?_)
    · have hq := hq.1 c6
      refine lv_iconst (v := (-1)) hx hb dX12_figure_38 (by decide) ?_
      exact k_iret rfl C hW dX12_figure_39 ⟨rfl, hq⟩
    · have hq := hq.2 c6
      refine lv_iload hx hb dX12_figure_25 (lv_at hl 3 rfl) ?_
      refine lv_i2l (v := x4.toInt64) hx hb dX12_figure_27 rfl ?_
      refine lv_lconst (v := 0) hx hb dX12_figure_28 (by decide) ?_
      refine lv_ldc2 (v := 6) hx hb C.2.2.2.2.1 (C.2.2.2.2.2.1 _ (List.mem_cons_of_mem _ mw845)) dX12_figure_29 ?_
      refine k_ci hW (va_runS (As := [.long (x4.toInt64), .long 0, .long 6]) (rest := []) (k_fix C) (c_X12_in l G h (x4.toInt64) 0 6 _ hq) (va_cwS 3 C.2.2.2.2.2.1 (gU_S mw762 mw763 mw5 mw764) rfl rfl rfl (by decide +kernel) ⟨Nat.le_of_ble_eq_true rfl, Nat.le_of_ble_eq_true rfl⟩) (k_preS hK hW) rfl rfl hl.1 rfl (lv_room (Nat.le_of_ble_eq_true rfl)) dX12_figure_32 ⟨Nat.le_refl 0, Nat.le_refl 0⟩) (fun r7 h8 H locs hq hW => ?_)
      rw [hq.1] at hW
      have hq := hq.2
      refine lv_if_ne (tgt := 40) hx hb dX12_figure_35 (by decide) (fun c9 => ?_) (fun c9 => ?_)
      · have hq := hq.1 c9
        refine lv_iconst (v := 0) hx hb dX12_figure_40 (by decide) ?_
        refine lv_istore (lv' := [(5, .int 0), (0, .ref (G.2.2 0)), (1, .long x1), (3, .int x3), (4, .int x4)]) hx hb dX12_figure_41 hl (by decide) rfl (fun ls hl => ?_)
        refine lv_iconst (v := 0) hx hb dX12_figure_43 (by decide) ?_
        refine lv_istore (lv' := [(6, .int 0), (5, .int 0), (0, .ref (G.2.2 0)), (1, .long x1), (3, .int x3), (4, .int x4)]) hx hb dX12_figure_44 hl (by decide) rfl (fun ls hl => ?_)
        refine lv_lload_n hx hb dX12_figure_46 rfl (lv_at hl 3 rfl) ?_
        refine lv_lstore (lv' := [(7, .long x1), (6, .int 0), (5, .int 0), (0, .ref (G.2.2 0)), (1, .long x1), (3, .int x3), (4, .int x4)]) hx hb dX12_figure_47 hl (by decide) rfl (fun ls hl => ?_)
        exact k_X12_figure_49 C hK hW (lv_sub hl [5, 6, 2, 1, 0] rfl) hq
      · have hq := hq.2 c9
        refine lv_iconst (v := (-1)) hx hb dX12_figure_38 (by decide) ?_
        exact k_iret rfl C hW dX12_figure_39 ⟨rfl, hq⟩
theorem c_X12_figure (l : Launch) (G : wG) (h : hp) (x1 : Int64) (x3 : Int32) (x4 : Int32) (Q : Int32 → Prop) (hq : w_X12_figure x1 x3 x4 Q) : ctI l SM G yX12_figure wUX12_figure rmX12_figure h [.ref (G.2.2 0), .long x1, .int x3, .int x4] (fun r9 h9 => h9 = h ∧ Q r9) := by
  refine k_start (cc := cX12_figure) (maxL := 9) (rt := (some .int)) (own := RX12) (by decide +kernel) rfl rfl (Nat.le_of_ble_eq_true rfl) ?_
  intro p e s m below meth c ls C hK hW hl
  exact k_X12_figure_0 C hK hW hl hq
theorem k_X12_placeAt_0 {Q : Int32 → Prop} {x1 : Int32} {x2 : Int32} {h : hp} (C : kC p s m args meth c cX12_placeAt 3 (some .int) RX12 wUX12_placeAt) (hK : kK G s) {H : Heap} {locs : List Loc} {ls : Array Slot} (hW : kW SM G h (aS SM G) s H locs) (hl : lv_has ls 3 [(0, .ref (G.2.2 0)), (1, .int x1), (2, .int x2)]) (hq : w_X12_placeAt_0 Q x1 x2 h) : W p l e rmX12_placeAt s m args below meth c H locs 0 0 (MQ below (va_Qi (fun r9 h9 => h9 = h ∧ Q r9) (kB SM G) (aS SM G)) args s 0 0 (aS SM G)) (F0 m 0 ls []) := by
  have hx := C.1
  have hb := C.2.1
  unfold w_X12_placeAt_0 at hq
  refine lv_iload_n hx hb dX12_placeAt_0 rfl (lv_at hl 2 rfl) ?_
  refine lv_aload_n hx hb dX12_placeAt_1 rfl (lv_at hl 0 rfl) ?_
  refine lv_iload_n hx hb dX12_placeAt_2 rfl (lv_at hl 1 rfl) ?_
  refine k_ci hW (va_runV (As := [.int x1]) (rest := [.int x2]) (k_fix C) (c_X12_longAt l G h x1 _ hq) (cwV 1 C.2.2.2.2.2.1 (gU_V mw765 mw766 mw767 mw5 mw768) rfl rfl rfl (by decide +kernel) ⟨Nat.le_of_ble_eq_true rfl, Nat.le_of_ble_eq_true rfl⟩) (k_preV hK hW (shM_lt (rfl : shM 0 = 12) (by decide)) (ceM_12 (rfl : shM 0 = 12)) (q := (RX12, TX12, 73)) rfl) rfl rfl hl.1 rfl (lv_room (Nat.le_of_ble_eq_true rfl)) dX12_placeAt_3 ⟨Nat.le_refl 0, Nat.le_refl 0⟩) (fun r1 h2 H locs hq hW => ?_)
  rw [hq.1] at hW
  have hq := hq.2
  refine lv_icmp_ge (tgt := 18) hx hb dX12_placeAt_6 (by decide) (fun c3 => ?_) (fun c3 => ?_)
  · have hq := hq.1 c3
    refine lv_iconst (v := 0) hx hb dX12_placeAt_18 (by decide) ?_
    exact k_iret rfl C hW dX12_placeAt_19 ⟨rfl, hq⟩
  · have hq := hq.2 c3
    refine lv_aload_n hx hb dX12_placeAt_9 rfl (lv_at hl 0 rfl) ?_
    refine lv_iload_n hx hb dX12_placeAt_10 rfl (lv_at hl 1 rfl) ?_
    refine lv_iload_n hx hb dX12_placeAt_11 rfl (lv_at hl 2 rfl) ?_
    refine k_ci hW (va_runV (As := [.int x1, .int x2]) (rest := []) (k_fix C) (c_X12_at l G h x1 x2 _ hq) (cwV 2 C.2.2.2.2.2.1 (gU_V mw769 mw770 mw771 mw5 mw772) rfl rfl rfl (by decide +kernel) ⟨Nat.le_of_ble_eq_true rfl, Nat.le_of_ble_eq_true rfl⟩) (k_preV hK hW (shM_lt (rfl : shM 0 = 12) (by decide)) (ceM_12 (rfl : shM 0 = 12)) (q := (RX12, TX12, 73)) rfl) rfl rfl hl.1 rfl (lv_room (Nat.le_of_ble_eq_true rfl)) dX12_placeAt_12 ⟨Nat.le_refl 0, Nat.le_refl 0⟩) (fun r4 h5 H locs hq hW => ?_)
    rw [hq.1] at hW
    have hq := hq.2
    refine lv_goto (tgt := 19) hx hb dX12_placeAt_15 (by decide) ?_
    exact k_iret rfl C hW dX12_placeAt_19 ⟨rfl, hq⟩
theorem c_X12_placeAt (l : Launch) (G : wG) (h : hp) (x1 : Int32) (x2 : Int32) (Q : Int32 → Prop) (hq : w_X12_placeAt h x1 x2 Q) : ctI l SM G yX12_placeAt wUX12_placeAt rmX12_placeAt h [.ref (G.2.2 0), .int x1, .int x2] (fun r9 h9 => h9 = h ∧ Q r9) := by
  refine k_start (cc := cX12_placeAt) (maxL := 3) (rt := (some .int)) (own := RX12) (by decide +kernel) rfl rfl (Nat.le_of_ble_eq_true rfl) ?_
  intro p e s m below meth c ls C hK hW hl
  exact k_X12_placeAt_0 C hK hW hl hq
theorem k_X12_areRows_0 {Q : Int32 → Prop} {x1 : Int32} {x2 : Int32} {x3 : Int32} {h : hp} (C : kC p s m args meth c cX12_areRows 4 (some .boolean) RX12 wUX12_areRows) (hK : kK G s) {H : Heap} {locs : List Loc} {ls : Array Slot} (hW : kW SM G h (aS SM G) s H locs) (hl : lv_has ls 4 [(0, .ref (G.2.2 0)), (1, .int x1), (2, .int x2), (3, .int x3)]) (hq : w_X12_areRows_0 Q x1 x2 x3 h) : W p l e rmX12_areRows s m args below meth c H locs 0 0 (MQ below (va_Qi (fun r9 h9 => h9 = h ∧ Q r9) (kB SM G) (aS SM G)) args s 0 0 (aS SM G)) (F0 m 0 ls []) := by
  have hx := C.1
  have hb := C.2.1
  unfold w_X12_areRows_0 at hq
  refine lv_aload_n hx hb dX12_areRows_0 rfl (lv_at hl 0 rfl) ?_
  refine lv_iload_n hx hb dX12_areRows_1 rfl (lv_at hl 1 rfl) ?_
  refine k_ci hW (va_runV (As := [.int x1]) (rest := []) (k_fix C) (c_X12_isRow l G h x1 _ hq) (cwV 1 C.2.2.2.2.2.1 (gU_V mw758 mw759 mw760 mw5 mw761) rfl rfl rfl (by decide +kernel) ⟨Nat.le_of_ble_eq_true rfl, Nat.le_of_ble_eq_true rfl⟩) (k_preV hK hW (shM_lt (rfl : shM 0 = 12) (by decide)) (ceM_12 (rfl : shM 0 = 12)) (q := (RX12, TX12, 73)) rfl) rfl rfl hl.1 rfl (lv_room (Nat.le_of_ble_eq_true rfl)) dX12_areRows_2 ⟨Nat.le_refl 0, Nat.le_refl 0⟩) (fun r1 h2 H locs hq hW => ?_)
  rw [hq.1] at hW
  have hq := hq.2
  refine lv_if_eq (tgt := 32) hx hb dX12_areRows_5 (by decide) (fun c3 => ?_) (fun c3 => ?_)
  · have hq := hq.1 c3
    refine lv_iconst (v := 0) hx hb dX12_areRows_32 (by decide) ?_
    exact k_zret rfl isZ_0.1 C hW dX12_areRows_33 ⟨rfl, hq⟩
  · have hq := hq.2 c3
    refine lv_aload_n hx hb dX12_areRows_8 rfl (lv_at hl 0 rfl) ?_
    refine lv_iload_n hx hb dX12_areRows_9 rfl (lv_at hl 2 rfl) ?_
    refine k_ci hW (va_runV (As := [.int x2]) (rest := []) (k_fix C) (c_X12_isRow l G h x2 _ hq) (cwV 1 C.2.2.2.2.2.1 (gU_V mw758 mw759 mw760 mw5 mw761) rfl rfl rfl (by decide +kernel) ⟨Nat.le_of_ble_eq_true rfl, Nat.le_of_ble_eq_true rfl⟩) (k_preV hK hW (shM_lt (rfl : shM 0 = 12) (by decide)) (ceM_12 (rfl : shM 0 = 12)) (q := (RX12, TX12, 73)) rfl) rfl rfl hl.1 rfl (lv_room (Nat.le_of_ble_eq_true rfl)) dX12_areRows_10 ⟨Nat.le_refl 0, Nat.le_refl 0⟩) (fun r4 h5 H locs hq hW => ?_)
    rw [hq.1] at hW
    have hq := hq.2
    refine lv_if_eq (tgt := 32) hx hb dX12_areRows_13 (by decide) (fun c6 => ?_) (fun c6 => ?_)
    · have hq := hq.1 c6
      refine lv_iconst (v := 0) hx hb dX12_areRows_32 (by decide) ?_
      exact k_zret rfl isZ_0.1 C hW dX12_areRows_33 ⟨rfl, hq⟩
    · have hq := hq.2 c6
      refine lv_iload_n hx hb dX12_areRows_16 rfl (lv_at hl 3 rfl) ?_
      refine lv_i2l (v := x3.toInt64) hx hb dX12_areRows_17 rfl ?_
      refine lv_lconst (v := 0) hx hb dX12_areRows_18 (by decide) ?_
      refine lv_ldc2 (v := 10) hx hb C.2.2.2.2.1 (C.2.2.2.2.2.1 _ (List.mem_cons_of_mem _ mw829)) dX12_areRows_19 ?_
      refine k_ci hW (va_runS (As := [.long (x3.toInt64), .long 0, .long 10]) (rest := []) (k_fix C) (c_X12_in l G h (x3.toInt64) 0 10 _ hq) (va_cwS 3 C.2.2.2.2.2.1 (gU_S mw762 mw763 mw5 mw764) rfl rfl rfl (by decide +kernel) ⟨Nat.le_of_ble_eq_true rfl, Nat.le_of_ble_eq_true rfl⟩) (k_preS hK hW) rfl rfl hl.1 rfl (lv_room (Nat.le_of_ble_eq_true rfl)) dX12_areRows_22 ⟨Nat.le_refl 0, Nat.le_refl 0⟩) (fun r7 h8 H locs hq hW => ?_)
      rw [hq.1] at hW
      have hq := hq.2
      refine lv_if_eq (tgt := 32) hx hb dX12_areRows_25 (by decide) (fun c9 => ?_) (fun c9 => ?_)
      · have hq := hq.1 c9
        refine lv_iconst (v := 0) hx hb dX12_areRows_32 (by decide) ?_
        exact k_zret rfl isZ_0.1 C hW dX12_areRows_33 ⟨rfl, hq⟩
      · have hq := hq.2 c9
        refine lv_iconst (v := 1) hx hb dX12_areRows_28 (by decide) ?_
        refine lv_goto (tgt := 33) hx hb dX12_areRows_29 (by decide) ?_
        exact k_zret rfl isZ_1.1 C hW dX12_areRows_33 ⟨rfl, hq⟩
theorem c_X12_areRows (l : Launch) (G : wG) (h : hp) (x1 : Int32) (x2 : Int32) (x3 : Int32) (Q : Int32 → Prop) (hq : w_X12_areRows h x1 x2 x3 Q) : ctI l SM G yX12_areRows wUX12_areRows rmX12_areRows h [.ref (G.2.2 0), .int x1, .int x2, .int x3] (fun r9 h9 => h9 = h ∧ Q r9) := by
  refine k_start (cc := cX12_areRows) (maxL := 4) (rt := (some .boolean)) (own := RX12) (by decide +kernel) rfl rfl (Nat.le_of_ble_eq_true rfl) ?_
  intro p e s m below meth c ls C hK hW hl
  exact k_X12_areRows_0 C hK hW hl hq
theorem k_X12_plus_0 {Q : Int32 → Prop} {x1 : Int32} {x2 : Int32} {x3 : Int32} {h : hp} (C : kC p s m args meth c cX12_plus 4 (some .int) RX12 wUX12_plus) (hK : kK G s) {H : Heap} {locs : List Loc} {ls : Array Slot} (hW : kW SM G h (aS SM G) s H locs) (hl : lv_has ls 4 [(0, .ref (G.2.2 0)), (1, .int x1), (2, .int x2), (3, .int x3)]) (hq : w_X12_plus_0 Q x1 x2 x3 h) : W p l e rmX12_plus s m args below meth c H locs 0 0 (MQ below (va_Qi (fun r9 h9 => h9 = h ∧ Q r9) (kB SM G) (aS SM G)) args s 0 0 (aS SM G)) (F0 m 0 ls []) := by
  have hx := C.1
  have hb := C.2.1
  unfold w_X12_plus_0 at hq
  refine lv_aload_n hx hb dX12_plus_0 rfl (lv_at hl 0 rfl) ?_
  refine lv_iload_n hx hb dX12_plus_1 rfl (lv_at hl 1 rfl) ?_
  refine lv_iload_n hx hb dX12_plus_2 rfl (lv_at hl 2 rfl) ?_
  refine lv_iload_n hx hb dX12_plus_3 rfl (lv_at hl 3 rfl) ?_
  refine k_ci hW (va_runV (As := [.int x1, .int x2, .int x3]) (rest := []) (k_fix C) (c_X12_areRows l G h x1 x2 x3 _ hq) (cwV 3 C.2.2.2.2.2.1 (gU_V mw1459 mw1460 mw1461 mw5 mw1462) rfl rfl rfl (by decide +kernel) ⟨Nat.le_of_ble_eq_true rfl, Nat.le_of_ble_eq_true rfl⟩) (k_preV hK hW (shM_lt (rfl : shM 0 = 12) (by decide)) (ceM_12 (rfl : shM 0 = 12)) (q := (RX12, TX12, 73)) rfl) rfl rfl hl.1 rfl (lv_room (Nat.le_of_ble_eq_true rfl)) dX12_plus_4 ⟨Nat.le_refl 0, Nat.le_refl 0⟩) (fun r1 h2 H locs hq hW => ?_)
  rw [hq.1] at hW
  have hq := hq.2
  refine lv_if_eq (tgt := 26) hx hb dX12_plus_7 (by decide) (fun c3 => ?_) (fun c3 => ?_)
  · have hq := hq.1 c3
    refine lv_ldcw (v := (-100000)) hx hb C.2.2.2.2.1 (C.2.2.2.2.2.1 _ (List.mem_cons_of_mem _ mw1458)) dX12_plus_26 ?_
    exact k_iret rfl C hW dX12_plus_29 ⟨rfl, hq⟩
  · have hq := hq.2 c3
    refine lv_aload_n hx hb dX12_plus_10 rfl (lv_at hl 0 rfl) ?_
    refine lv_iload_n hx hb dX12_plus_11 rfl (lv_at hl 1 rfl) ?_
    refine lv_iload_n hx hb dX12_plus_12 rfl (lv_at hl 3 rfl) ?_
    refine k_ci hW (va_runV (As := [.int x1, .int x3]) (rest := []) (k_fix C) (c_X12_placeAt l G h x1 x3 _ hq) (cwV 2 C.2.2.2.2.2.1 (gU_V mw1463 mw1464 mw1465 mw5 mw1466) rfl rfl rfl (by decide +kernel) ⟨Nat.le_of_ble_eq_true rfl, Nat.le_of_ble_eq_true rfl⟩) (k_preV hK hW (shM_lt (rfl : shM 0 = 12) (by decide)) (ceM_12 (rfl : shM 0 = 12)) (q := (RX12, TX12, 73)) rfl) rfl rfl hl.1 rfl (lv_room (Nat.le_of_ble_eq_true rfl)) dX12_plus_13 ⟨Nat.le_refl 0, Nat.le_refl 0⟩) (fun r4 h5 H locs hq hW => ?_)
    rw [hq.1] at hW
    have hq := hq.2
    refine lv_aload_n hx hb dX12_plus_16 rfl (lv_at hl 0 rfl) ?_
    refine lv_iload_n hx hb dX12_plus_17 rfl (lv_at hl 2 rfl) ?_
    refine lv_iload_n hx hb dX12_plus_18 rfl (lv_at hl 3 rfl) ?_
    refine k_ci hW (va_runV (As := [.int x2, .int x3]) (rest := [.int r4]) (k_fix C) (c_X12_placeAt l G h x2 x3 _ hq) (cwV 2 C.2.2.2.2.2.1 (gU_V mw1463 mw1464 mw1465 mw5 mw1466) rfl rfl rfl (by decide +kernel) ⟨Nat.le_of_ble_eq_true rfl, Nat.le_of_ble_eq_true rfl⟩) (k_preV hK hW (shM_lt (rfl : shM 0 = 12) (by decide)) (ceM_12 (rfl : shM 0 = 12)) (q := (RX12, TX12, 73)) rfl) rfl rfl hl.1 rfl (lv_room (Nat.le_of_ble_eq_true rfl)) dX12_plus_19 ⟨Nat.le_refl 0, Nat.le_refl 0⟩) (fun r6 h7 H locs hq hW => ?_)
    rw [hq.1] at hW
    have hq := hq.2
    refine lv_iadd hx hb dX12_plus_22 ?_
    refine lv_goto (tgt := 29) hx hb dX12_plus_23 (by decide) ?_
    exact k_iret rfl C hW dX12_plus_29 ⟨rfl, hq⟩
theorem c_X12_plus (l : Launch) (G : wG) (h : hp) (x1 : Int32) (x2 : Int32) (x3 : Int32) (Q : Int32 → Prop) (hq : w_X12_plus h x1 x2 x3 Q) : ctI l SM G yX12_plus wUX12_plus rmX12_plus h [.ref (G.2.2 0), .int x1, .int x2, .int x3] (fun r9 h9 => h9 = h ∧ Q r9) := by
  refine k_start (cc := cX12_plus) (maxL := 4) (rt := (some .int)) (own := RX12) (by decide +kernel) rfl rfl (Nat.le_of_ble_eq_true rfl) ?_
  intro p e s m below meth c ls C hK hW hl
  exact k_X12_plus_0 C hK hW hl hq
theorem k_X12_times_b20 {Q : Int32 → Prop} {X20 : Int32 × Int32 → Prop} {x1 : Int32} {x2 : Int32} {x3 : Int32} {h : hp} (C : kC p s m args meth c cX12_times 6 (some .int) RX12 wUX12_times) (hK : kK G s) (hX20 : ∀ (x4 : Int32) (x5 : Int32) (H : Heap) (locs : List Loc) (ls : Array Slot), kW SM G h (aS SM G) s H locs → lv_has ls 6 [(0, .ref (G.2.2 0)), (1, .int x1), (2, .int x2), (3, .int x3), (4, .int x4), (5, .int x5)] → X20 (x4, x5) → W p l e rmX12_times s m args below meth c H locs 0 0 (MQ below (va_Qi (fun r9 h9 => h9 = h ∧ Q r9) (kB SM G) (aS SM G)) args s 0 0 (aS SM G)) (F0 m 20 ls [])) {x4 : Int32} {x5 : Int32} {H : Heap} {locs : List Loc} {ls : Array Slot} (hW : kW SM G h (aS SM G) s H locs) (hl : lv_has ls 6 [(0, .ref (G.2.2 0)), (1, .int x1), (2, .int x2), (3, .int x3), (4, .int x4), (5, .int x5)]) (hq : w_X12_times_b20 Q x1 x2 x3 h X20 x4 x5) : W p l e rmX12_times s m args below meth c H locs 0 0 (MQ below (va_Qi (fun r9 h9 => h9 = h ∧ Q r9) (kB SM G) (aS SM G)) args s 0 0 (aS SM G)) (F0 m 20 ls []) := by
  have hx := C.1
  have hb := C.2.1
  unfold w_X12_times_b20 at hq
  refine lv_iload hx hb dX12_times_20 (lv_at hl 5 rfl) ?_
  refine lv_iload_n hx hb dX12_times_22 rfl (lv_at hl 3 rfl) ?_
  refine lv_icmp_gt (tgt := 54) hx hb dX12_times_23 (by decide) (fun c4 => ?_) (fun c4 => ?_)
  · have hq := hq.1 c4
    refine lv_iload hx hb dX12_times_54 (lv_at hl 4 rfl) ?_
    exact k_iret rfl C hW dX12_times_56 ⟨rfl, hq⟩
  · have hq := hq.2 c4
    refine lv_iload hx hb dX12_times_26 (lv_at hl 4 rfl) ?_
    refine lv_aload_n hx hb dX12_times_28 rfl (lv_at hl 0 rfl) ?_
    refine lv_iload_n hx hb dX12_times_29 rfl (lv_at hl 1 rfl) ?_
    refine lv_iload hx hb dX12_times_30 (lv_at hl 5 rfl) ?_
    refine k_ci hW (va_runV (As := [.int x1, .int x5]) (rest := [.int x4]) (k_fix C) (c_X12_placeAt l G h x1 x5 _ hq) (cwV 2 C.2.2.2.2.2.1 (gU_V mw1463 mw1464 mw1465 mw5 mw1466) rfl rfl rfl (by decide +kernel) ⟨Nat.le_of_ble_eq_true rfl, Nat.le_of_ble_eq_true rfl⟩) (k_preV hK hW (shM_lt (rfl : shM 0 = 12) (by decide)) (ceM_12 (rfl : shM 0 = 12)) (q := (RX12, TX12, 73)) rfl) rfl rfl hl.1 rfl (lv_room (Nat.le_of_ble_eq_true rfl)) dX12_times_32 ⟨Nat.le_refl 0, Nat.le_refl 0⟩) (fun r5 h6 H locs hq hW => ?_)
    rw [hq.1] at hW
    have hq := hq.2
    refine lv_aload_n hx hb dX12_times_35 rfl (lv_at hl 0 rfl) ?_
    refine lv_iload_n hx hb dX12_times_36 rfl (lv_at hl 2 rfl) ?_
    refine lv_iload_n hx hb dX12_times_37 rfl (lv_at hl 3 rfl) ?_
    refine lv_iload hx hb dX12_times_38 (lv_at hl 5 rfl) ?_
    refine lv_isub hx hb dX12_times_40 ?_
    refine k_ci hW (va_runV (As := [.int x2, .int (x3 - x5)]) (rest := [.int r5, .int x4]) (k_fix C) (c_X12_placeAt l G h x2 (x3 - x5) _ hq) (cwV 2 C.2.2.2.2.2.1 (gU_V mw1463 mw1464 mw1465 mw5 mw1466) rfl rfl rfl (by decide +kernel) ⟨Nat.le_of_ble_eq_true rfl, Nat.le_of_ble_eq_true rfl⟩) (k_preV hK hW (shM_lt (rfl : shM 0 = 12) (by decide)) (ceM_12 (rfl : shM 0 = 12)) (q := (RX12, TX12, 73)) rfl) rfl rfl hl.1 rfl (lv_room (Nat.le_of_ble_eq_true rfl)) dX12_times_41 ⟨Nat.le_refl 0, Nat.le_refl 0⟩) (fun r7 h8 H locs hq hW => ?_)
    rw [hq.1] at hW
    have hq := hq.2
    refine lv_imul hx hb dX12_times_44 ?_
    refine lv_iadd hx hb dX12_times_45 ?_
    refine lv_topi (fun x4_9 ex4_9 => ?_)
    have hq := hq x4_9 ex4_9
    refine lv_istore (lv' := [(4, .int x4_9), (0, .ref (G.2.2 0)), (1, .int x1), (2, .int x2), (3, .int x3), (5, .int x5)]) hx hb dX12_times_46 hl (by decide) rfl (fun ls hl => ?_)
    obtain ⟨x5_10, ex5_10⟩ : ∃ y : Int32, y = x5 + 1 := ⟨_, rfl⟩
    have hq := hq x5_10 ex5_10
    refine lv_iinc (v := x5_10) (lv' := [(5, .int x5_10), (4, .int x4_9), (0, .ref (G.2.2 0)), (1, .int x1), (2, .int x2), (3, .int x3)]) hx hb dX12_times_48 hl (k := 5) rfl (by rw [ex5_10]; rfl) (by decide) rfl (fun ls hl => ?_)
    refine lv_goto (tgt := 20) hx hb dX12_times_51 (by decide) ?_
    exact hX20 _ _ _ _ _ hW (lv_sub hl [2, 3, 4, 5, 1, 0] rfl) hq
theorem k_X12_times_20 {Q : Int32 → Prop} {x1 : Int32} {x2 : Int32} {x3 : Int32} {h : hp} (C : kC p s m args meth c cX12_times 6 (some .int) RX12 wUX12_times) (hK : kK G s) {x4 : Int32} {x5 : Int32} {H : Heap} {locs : List Loc} {ls : Array Slot} (hW : kW SM G h (aS SM G) s H locs) (hl : lv_has ls 6 [(0, .ref (G.2.2 0)), (1, .int x1), (2, .int x2), (3, .int x3), (4, .int x4), (5, .int x5)]) (hq : w_X12_times_20 Q x1 x2 x3 h x4 x5) : W p l e rmX12_times s m args below meth c H locs 0 0 (MQ below (va_Qi (fun r9 h9 => h9 = h ∧ Q r9) (kB SM G) (aS SM G)) args s 0 0 (aS SM G)) (F0 m 20 ls []) := by
  have key := hq (fun (q : Int32 × Int32) => ∀ (H : Heap) (locs : List Loc) (ls : Array Slot), kW SM G h (aS SM G) s H locs → lv_has ls 6 [(0, .ref (G.2.2 0)), (1, .int x1), (2, .int x2), (3, .int x3), (4, .int q.1), (5, .int q.2)] → W p l e rmX12_times s m args below meth c H locs 0 0 (MQ below (va_Qi (fun r9 h9 => h9 = h ∧ Q r9) (kB SM G) (aS SM G)) args s 0 0 (aS SM G)) (F0 m 20 ls []))
    (fun q hq H locs ls hW hl => k_X12_times_b20 C hK (fun x4 x5 H locs ls hW hl hI => hI H locs ls hW hl) hW hl hq)
  exact key _ _ _ hW hl
theorem k_X12_times_0 {Q : Int32 → Prop} {x1 : Int32} {x2 : Int32} {x3 : Int32} {h : hp} (C : kC p s m args meth c cX12_times 6 (some .int) RX12 wUX12_times) (hK : kK G s) {H : Heap} {locs : List Loc} {ls : Array Slot} (hW : kW SM G h (aS SM G) s H locs) (hl : lv_has ls 6 [(0, .ref (G.2.2 0)), (1, .int x1), (2, .int x2), (3, .int x3)]) (hq : w_X12_times_0 Q x1 x2 x3 h) : W p l e rmX12_times s m args below meth c H locs 0 0 (MQ below (va_Qi (fun r9 h9 => h9 = h ∧ Q r9) (kB SM G) (aS SM G)) args s 0 0 (aS SM G)) (F0 m 0 ls []) := by
  have hx := C.1
  have hb := C.2.1
  unfold w_X12_times_0 at hq
  refine lv_aload_n hx hb dX12_times_0 rfl (lv_at hl 0 rfl) ?_
  refine lv_iload_n hx hb dX12_times_1 rfl (lv_at hl 1 rfl) ?_
  refine lv_iload_n hx hb dX12_times_2 rfl (lv_at hl 2 rfl) ?_
  refine lv_iload_n hx hb dX12_times_3 rfl (lv_at hl 3 rfl) ?_
  refine k_ci hW (va_runV (As := [.int x1, .int x2, .int x3]) (rest := []) (k_fix C) (c_X12_areRows l G h x1 x2 x3 _ hq) (cwV 3 C.2.2.2.2.2.1 (gU_V mw1459 mw1460 mw1461 mw5 mw1462) rfl rfl rfl (by decide +kernel) ⟨Nat.le_of_ble_eq_true rfl, Nat.le_of_ble_eq_true rfl⟩) (k_preV hK hW (shM_lt (rfl : shM 0 = 12) (by decide)) (ceM_12 (rfl : shM 0 = 12)) (q := (RX12, TX12, 73)) rfl) rfl rfl hl.1 rfl (lv_room (Nat.le_of_ble_eq_true rfl)) dX12_times_4 ⟨Nat.le_refl 0, Nat.le_refl 0⟩) (fun r1 h2 H locs hq hW => ?_)
  rw [hq.1] at hW
  have hq := hq.2
  refine lv_if_ne (tgt := 14) hx hb dX12_times_7 (by decide) (fun c3 => ?_) (fun c3 => ?_)
  · have hq := hq.1 c3
    refine lv_iconst (v := 0) hx hb dX12_times_14 (by decide) ?_
    refine lv_istore (lv' := [(4, .int 0), (0, .ref (G.2.2 0)), (1, .int x1), (2, .int x2), (3, .int x3)]) hx hb dX12_times_15 hl (by decide) rfl (fun ls hl => ?_)
    refine lv_iconst (v := 0) hx hb dX12_times_17 (by decide) ?_
    refine lv_istore (lv' := [(5, .int 0), (4, .int 0), (0, .ref (G.2.2 0)), (1, .int x1), (2, .int x2), (3, .int x3)]) hx hb dX12_times_18 hl (by decide) rfl (fun ls hl => ?_)
    exact k_X12_times_20 C hK hW (lv_sub hl [2, 3, 4, 5, 1, 0] rfl) hq
  · have hq := hq.2 c3
    refine lv_ldcw (v := (-100000)) hx hb C.2.2.2.2.1 (C.2.2.2.2.2.1 _ (List.mem_cons_of_mem _ mw1458)) dX12_times_10 ?_
    exact k_iret rfl C hW dX12_times_13 ⟨rfl, hq⟩
theorem c_X12_times (l : Launch) (G : wG) (h : hp) (x1 : Int32) (x2 : Int32) (x3 : Int32) (Q : Int32 → Prop) (hq : w_X12_times h x1 x2 x3 Q) : ctI l SM G yX12_times wUX12_times rmX12_times h [.ref (G.2.2 0), .int x1, .int x2, .int x3] (fun r9 h9 => h9 = h ∧ Q r9) := by
  refine k_start (cc := cX12_times) (maxL := 6) (rt := (some .int)) (own := RX12) (by decide +kernel) rfl rfl (Nat.le_of_ble_eq_true rfl) ?_
  intro p e s m below meth c ls C hK hW hl
  exact k_X12_times_0 C hK hW hl hq
theorem k_X12_degree_b18 {Q : Int32 → Prop} {X18 : Int32 → Prop} {x1 : Int32} {h : hp} (C : kC p s m args meth c cX12_degree 3 (some .int) RX12 wUX12_degree) (hK : kK G s) (hX18 : ∀ (x2 : Int32) (H : Heap) (locs : List Loc) (ls : Array Slot), kW SM G h (aS SM G) s H locs → lv_has ls 3 [(0, .ref (G.2.2 0)), (1, .int x1), (2, .int x2)] → X18 x2 → W p l e rmX12_degree s m args below meth c H locs 0 0 (MQ below (va_Qi (fun r9 h9 => h9 = h ∧ Q r9) (kB SM G) (aS SM G)) args s 0 0 (aS SM G)) (F0 m 18 ls [])) {x2 : Int32} {H : Heap} {locs : List Loc} {ls : Array Slot} (hW : kW SM G h (aS SM G) s H locs) (hl : lv_has ls 3 [(0, .ref (G.2.2 0)), (1, .int x1), (2, .int x2)]) (hq : w_X12_degree_b18 Q x1 h X18 x2) : W p l e rmX12_degree s m args below meth c H locs 0 0 (MQ below (va_Qi (fun r9 h9 => h9 = h ∧ Q r9) (kB SM G) (aS SM G)) args s 0 0 (aS SM G)) (F0 m 18 ls []) := by
  have hx := C.1
  have hb := C.2.1
  unfold w_X12_degree_b18 at hq
  refine lv_iload_n hx hb dX12_degree_18 rfl (lv_at hl 2 rfl) ?_
  refine lv_if_lt (tgt := 39) hx hb dX12_degree_19 (by decide) (fun c7 => ?_) (fun c7 => ?_)
  · have hq := hq.1 c7
    refine lv_bipush (v := (-2)) hx hb dX12_degree_39 (by decide) ?_
    exact k_iret rfl C hW dX12_degree_41 ⟨rfl, hq⟩
  · have hq := hq.2 c7
    refine lv_aload_n hx hb dX12_degree_22 rfl (lv_at hl 0 rfl) ?_
    refine lv_iload_n hx hb dX12_degree_23 rfl (lv_at hl 1 rfl) ?_
    refine lv_iload_n hx hb dX12_degree_24 rfl (lv_at hl 2 rfl) ?_
    refine k_ci hW (va_runV (As := [.int x1, .int x2]) (rest := []) (k_fix C) (c_X12_at l G h x1 x2 _ hq) (cwV 2 C.2.2.2.2.2.1 (gU_V mw769 mw770 mw771 mw5 mw772) rfl rfl rfl (by decide +kernel) ⟨Nat.le_of_ble_eq_true rfl, Nat.le_of_ble_eq_true rfl⟩) (k_preV hK hW (shM_lt (rfl : shM 0 = 12) (by decide)) (ceM_12 (rfl : shM 0 = 12)) (q := (RX12, TX12, 73)) rfl) rfl rfl hl.1 rfl (lv_room (Nat.le_of_ble_eq_true rfl)) dX12_degree_25 ⟨Nat.le_refl 0, Nat.le_refl 0⟩) (fun r8 h9 H locs hq hW => ?_)
    rw [hq.1] at hW
    have hq := hq.2
    refine lv_if_eq (tgt := 33) hx hb dX12_degree_28 (by decide) (fun c10 => ?_) (fun c10 => ?_)
    · have hq := hq.1 c10
      obtain ⟨x2_11, ex2_11⟩ : ∃ y : Int32, y = x2 + (-1) := ⟨_, rfl⟩
      have hq := hq x2_11 ex2_11
      refine lv_iinc (v := x2_11) (lv' := [(2, .int x2_11), (0, .ref (G.2.2 0)), (1, .int x1)]) hx hb dX12_degree_33 hl (k := 2) rfl (by rw [ex2_11]; rfl) (by decide) rfl (fun ls hl => ?_)
      refine lv_goto (tgt := 18) hx hb dX12_degree_36 (by decide) ?_
      exact hX18 _ _ _ _ hW (lv_sub hl [1, 2, 0] rfl) hq
    · have hq := hq.2 c10
      refine lv_iload_n hx hb dX12_degree_31 rfl (lv_at hl 2 rfl) ?_
      exact k_iret rfl C hW dX12_degree_32 ⟨rfl, hq⟩
theorem k_X12_degree_18 {Q : Int32 → Prop} {x1 : Int32} {h : hp} (C : kC p s m args meth c cX12_degree 3 (some .int) RX12 wUX12_degree) (hK : kK G s) {x2 : Int32} {H : Heap} {locs : List Loc} {ls : Array Slot} (hW : kW SM G h (aS SM G) s H locs) (hl : lv_has ls 3 [(0, .ref (G.2.2 0)), (1, .int x1), (2, .int x2)]) (hq : w_X12_degree_18 Q x1 h x2) : W p l e rmX12_degree s m args below meth c H locs 0 0 (MQ below (va_Qi (fun r9 h9 => h9 = h ∧ Q r9) (kB SM G) (aS SM G)) args s 0 0 (aS SM G)) (F0 m 18 ls []) := by
  have key := hq (fun (q : Int32) => ∀ (H : Heap) (locs : List Loc) (ls : Array Slot), kW SM G h (aS SM G) s H locs → lv_has ls 3 [(0, .ref (G.2.2 0)), (1, .int x1), (2, .int q)] → W p l e rmX12_degree s m args below meth c H locs 0 0 (MQ below (va_Qi (fun r9 h9 => h9 = h ∧ Q r9) (kB SM G) (aS SM G)) args s 0 0 (aS SM G)) (F0 m 18 ls []))
    (fun q hq H locs ls hW hl => k_X12_degree_b18 C hK (fun x2 H locs ls hW hl hI => hI H locs ls hW hl) hW hl hq)
  exact key _ _ _ hW hl
theorem k_X12_degree_0 {Q : Int32 → Prop} {x1 : Int32} {h : hp} (C : kC p s m args meth c cX12_degree 3 (some .int) RX12 wUX12_degree) (hK : kK G s) {H : Heap} {locs : List Loc} {ls : Array Slot} (hW : kW SM G h (aS SM G) s H locs) (hl : lv_has ls 3 [(0, .ref (G.2.2 0)), (1, .int x1)]) (hq : w_X12_degree_0 Q x1 h) : W p l e rmX12_degree s m args below meth c H locs 0 0 (MQ below (va_Qi (fun r9 h9 => h9 = h ∧ Q r9) (kB SM G) (aS SM G)) args s 0 0 (aS SM G)) (F0 m 0 ls []) := by
  have hx := C.1
  have hb := C.2.1
  unfold w_X12_degree_0 at hq
  refine lv_aload_n hx hb dX12_degree_0 rfl (lv_at hl 0 rfl) ?_
  refine lv_iload_n hx hb dX12_degree_1 rfl (lv_at hl 1 rfl) ?_
  refine k_ci hW (va_runV (As := [.int x1]) (rest := []) (k_fix C) (c_X12_isRow l G h x1 _ hq) (cwV 1 C.2.2.2.2.2.1 (gU_V mw758 mw759 mw760 mw5 mw761) rfl rfl rfl (by decide +kernel) ⟨Nat.le_of_ble_eq_true rfl, Nat.le_of_ble_eq_true rfl⟩) (k_preV hK hW (shM_lt (rfl : shM 0 = 12) (by decide)) (ceM_12 (rfl : shM 0 = 12)) (q := (RX12, TX12, 73)) rfl) rfl rfl hl.1 rfl (lv_room (Nat.le_of_ble_eq_true rfl)) dX12_degree_2 ⟨Nat.le_refl 0, Nat.le_refl 0⟩) (fun r1 h2 H locs hq hW => ?_)
  rw [hq.1] at hW
  have hq := hq.2
  refine lv_if_ne (tgt := 10) hx hb dX12_degree_5 (by decide) (fun c3 => ?_) (fun c3 => ?_)
  · have hq := hq.1 c3
    refine lv_aload_n hx hb dX12_degree_10 rfl (lv_at hl 0 rfl) ?_
    refine lv_iload_n hx hb dX12_degree_11 rfl (lv_at hl 1 rfl) ?_
    refine k_ci hW (va_runV (As := [.int x1]) (rest := []) (k_fix C) (c_X12_longAt l G h x1 _ hq) (cwV 1 C.2.2.2.2.2.1 (gU_V mw765 mw766 mw767 mw5 mw768) rfl rfl rfl (by decide +kernel) ⟨Nat.le_of_ble_eq_true rfl, Nat.le_of_ble_eq_true rfl⟩) (k_preV hK hW (shM_lt (rfl : shM 0 = 12) (by decide)) (ceM_12 (rfl : shM 0 = 12)) (q := (RX12, TX12, 73)) rfl) rfl rfl hl.1 rfl (lv_room (Nat.le_of_ble_eq_true rfl)) dX12_degree_12 ⟨Nat.le_refl 0, Nat.le_refl 0⟩) (fun r4 h5 H locs hq hW => ?_)
    rw [hq.1] at hW
    have hq := hq.2
    refine lv_iconst (v := 1) hx hb dX12_degree_15 (by decide) ?_
    refine lv_isub hx hb dX12_degree_16 ?_
    refine lv_topi (fun x2_6 ex2_6 => ?_)
    have hq := hq x2_6 ex2_6
    refine lv_istore_n (lv' := [(2, .int x2_6), (0, .ref (G.2.2 0)), (1, .int x1)]) hx hb dX12_degree_17 rfl hl (by decide) rfl (fun ls hl => ?_)
    exact k_X12_degree_18 C hK hW (lv_sub hl [1, 2, 0] rfl) hq
  · have hq := hq.2 c3
    refine lv_iconst (v := (-1)) hx hb dX12_degree_8 (by decide) ?_
    exact k_iret rfl C hW dX12_degree_9 ⟨rfl, hq⟩
theorem c_X12_degree (l : Launch) (G : wG) (h : hp) (x1 : Int32) (Q : Int32 → Prop) (hq : w_X12_degree h x1 Q) : ctI l SM G yX12_degree wUX12_degree rmX12_degree h [.ref (G.2.2 0), .int x1] (fun r9 h9 => h9 = h ∧ Q r9) := by
  refine k_start (cc := cX12_degree) (maxL := 3) (rt := (some .int)) (own := RX12) (by decide +kernel) rfl rfl (Nat.le_of_ble_eq_true rfl) ?_
  intro p e s m below meth c ls C hK hW hl
  exact k_X12_degree_0 C hK hW hl hq
theorem k_X12_restOf_0 {Q : Int32 → Prop} {x1 : Int32} {h : hp} (C : kC p s m args meth c cX12_restOf 3 (some .int) RX12 wUX12_restOf) (hK : kK G s) {H : Heap} {locs : List Loc} {ls : Array Slot} (hW : kW SM G h (aS SM G) s H locs) (hl : lv_has ls 3 [(0, .ref (G.2.2 0)), (1, .int x1)]) (hq : w_X12_restOf_0 Q x1 h) : W p l e rmX12_restOf s m args below meth c H locs 0 0 (MQ below (va_Qi (fun r9 h9 => h9 = h ∧ Q r9) (kB SM G) (aS SM G)) args s 0 0 (aS SM G)) (F0 m 0 ls []) := by
  have hx := C.1
  have hb := C.2.1
  unfold w_X12_restOf_0 at hq
  refine lv_iload_n hx hb dX12_restOf_0 rfl (lv_at hl 1 rfl) ?_
  refine lv_aload_n hx hb dX12_restOf_1 rfl (lv_at hl 0 rfl) ?_
  refine gt12_25 C hK hW (rfl : shM 0 = 12) (List.mem_cons_of_mem _ mw275) (fun _ h9 => List.mem_cons_of_mem _ (inU_wsX120 _ h9)) dX12_restOf_2 ?_
  refine lv_aload_n hx hb dX12_restOf_5 rfl (lv_at hl 0 rfl) ?_
  refine gt12_18 C hK hW (rfl : shM 0 = 12) (List.mem_cons_of_mem _ mw610) (fun _ h9 => List.mem_cons_of_mem _ (inU_wsX120 _ h9)) dX12_restOf_6 ?_
  refine k_iald C hK hW (shM_lt (rfl : shM 12 = 14) (by decide)) (ceM_14 (rfl : shM 12 = 14) (rfl : lnM 12 = 2)) hq.1 dX12_restOf_9 ?_
  have hq := hq.2
  refine k_irem hx hb dX12_restOf_10 hq.1 ?_
  have hq := hq.2
  refine lv_topi (fun x2_1 ex2_1 => ?_)
  have hq := hq x2_1 ex2_1
  refine lv_istore_n (lv' := [(2, .int x2_1), (0, .ref (G.2.2 0)), (1, .int x1)]) hx hb dX12_restOf_11 rfl hl (by decide) rfl (fun ls hl => ?_)
  refine lv_iload_n hx hb dX12_restOf_12 rfl (lv_at hl 0 rfl) ?_
  refine lv_if_ge (tgt := 30) hx hb dX12_restOf_13 (by decide) (fun c2 => ?_) (fun c2 => ?_)
  · have hq := hq.1 c2
    refine lv_iload_n hx hb dX12_restOf_30 rfl (lv_at hl 0 rfl) ?_
    exact k_iret rfl C hW dX12_restOf_31 ⟨rfl, hq⟩
  · have hq := hq.2 c2
    refine lv_iload_n hx hb dX12_restOf_16 rfl (lv_at hl 0 rfl) ?_
    refine lv_aload_n hx hb dX12_restOf_17 rfl (lv_at hl 1 rfl) ?_
    refine gt12_25 C hK hW (rfl : shM 0 = 12) (List.mem_cons_of_mem _ mw275) (fun _ h9 => List.mem_cons_of_mem _ (inU_wsX120 _ h9)) dX12_restOf_18 ?_
    refine lv_aload_n hx hb dX12_restOf_21 rfl (lv_at hl 1 rfl) ?_
    refine gt12_18 C hK hW (rfl : shM 0 = 12) (List.mem_cons_of_mem _ mw610) (fun _ h9 => List.mem_cons_of_mem _ (inU_wsX120 _ h9)) dX12_restOf_22 ?_
    refine k_iald C hK hW (shM_lt (rfl : shM 12 = 14) (by decide)) (ceM_14 (rfl : shM 12 = 14) (rfl : lnM 12 = 2)) hq.1 dX12_restOf_25 ?_
    have hq := hq.2
    refine lv_iadd hx hb dX12_restOf_26 ?_
    refine lv_goto (tgt := 31) hx hb dX12_restOf_27 (by decide) ?_
    exact k_iret rfl C hW dX12_restOf_31 ⟨rfl, hq⟩
theorem c_X12_restOf (l : Launch) (G : wG) (h : hp) (x1 : Int32) (Q : Int32 → Prop) (hq : w_X12_restOf h x1 Q) : ctI l SM G yX12_restOf wUX12_restOf rmX12_restOf h [.ref (G.2.2 0), .int x1] (fun r9 h9 => h9 = h ∧ Q r9) := by
  refine k_start (cc := cX12_restOf) (maxL := 3) (rt := (some .int)) (own := RX12) (by decide +kernel) rfl rfl (Nat.le_of_ble_eq_true rfl) ?_
  intro p e s m below meth c ls C hK hW hl
  exact k_X12_restOf_0 C hK hW hl hq
theorem k_X12_restBy_b11 {Q : Int32 → Prop} {X11 : Int32 × Int32 → Prop} {x1 : Int32} {x2 : Int32} {h : hp} (C : kC p s m args meth c cX12_restBy 5 (some .int) RX12 wUX12_restBy) (hK : kK G s) (hX11 : ∀ (x3 : Int32) (x4 : Int32) (H : Heap) (locs : List Loc) (ls : Array Slot), kW SM G h (aS SM G) s H locs → lv_has ls 5 [(0, .ref (G.2.2 0)), (1, .int x1), (2, .int x2), (3, .int x3), (4, .int x4)] → X11 (x3, x4) → W p l e rmX12_restBy s m args below meth c H locs 0 0 (MQ below (va_Qi (fun r9 h9 => h9 = h ∧ Q r9) (kB SM G) (aS SM G)) args s 0 0 (aS SM G)) (F0 m 11 ls [])) {x3 : Int32} {x4 : Int32} {H : Heap} {locs : List Loc} {ls : Array Slot} (hW : kW SM G h (aS SM G) s H locs) (hl : lv_has ls 5 [(0, .ref (G.2.2 0)), (1, .int x1), (2, .int x2), (3, .int x3), (4, .int x4)]) (hq : w_X12_restBy_b11 Q x1 x2 h X11 x3 x4) : W p l e rmX12_restBy s m args below meth c H locs 0 0 (MQ below (va_Qi (fun r9 h9 => h9 = h ∧ Q r9) (kB SM G) (aS SM G)) args s 0 0 (aS SM G)) (F0 m 11 ls []) := by
  have hx := C.1
  have hb := C.2.1
  unfold w_X12_restBy_b11 at hq
  refine lv_iload hx hb dX12_restBy_11 (lv_at hl 4 rfl) ?_
  refine lv_if_lt (tgt := 38) hx hb dX12_restBy_13 (by decide) (fun c4 => ?_) (fun c4 => ?_)
  · have hq := hq.1 c4
    refine lv_iload_n hx hb dX12_restBy_38 rfl (lv_at hl 3 rfl) ?_
    exact k_iret rfl C hW dX12_restBy_39 ⟨rfl, hq⟩
  · have hq := hq.2 c4
    refine lv_aload_n hx hb dX12_restBy_16 rfl (lv_at hl 0 rfl) ?_
    refine lv_iload_n hx hb dX12_restBy_17 rfl (lv_at hl 3 rfl) ?_
    refine lv_iload_n hx hb dX12_restBy_18 rfl (lv_at hl 2 rfl) ?_
    refine lv_imul hx hb dX12_restBy_19 ?_
    refine lv_aload_n hx hb dX12_restBy_20 rfl (lv_at hl 0 rfl) ?_
    refine lv_iload_n hx hb dX12_restBy_21 rfl (lv_at hl 1 rfl) ?_
    refine lv_iload hx hb dX12_restBy_22 (lv_at hl 4 rfl) ?_
    refine k_ci hW (va_runV (As := [.int x1, .int x4]) (rest := [.int (x3 * x2), .ref (G.2.2 0)]) (k_fix C) (c_X12_at l G h x1 x4 _ hq) (cwV 2 C.2.2.2.2.2.1 (gU_V mw769 mw770 mw771 mw5 mw772) rfl rfl rfl (by decide +kernel) ⟨Nat.le_of_ble_eq_true rfl, Nat.le_of_ble_eq_true rfl⟩) (k_preV hK hW (shM_lt (rfl : shM 0 = 12) (by decide)) (ceM_12 (rfl : shM 0 = 12)) (q := (RX12, TX12, 73)) rfl) rfl rfl hl.1 rfl (lv_room (Nat.le_of_ble_eq_true rfl)) dX12_restBy_24 ⟨Nat.le_refl 0, Nat.le_refl 0⟩) (fun r5 h6 H locs hq hW => ?_)
    rw [hq.1] at hW
    have hq := hq.2
    refine lv_iadd hx hb dX12_restBy_27 ?_
    refine k_ci hW (va_runV (As := [.int ((x3 * x2) + r5)]) (rest := []) (k_fix C) (c_X12_restOf l G h ((x3 * x2) + r5) _ hq) (cwV 1 C.2.2.2.2.2.1 (gU_V mw1277 mw1278 mw1279 mw5 mw1280) rfl rfl rfl (by decide +kernel) ⟨Nat.le_of_ble_eq_true rfl, Nat.le_of_ble_eq_true rfl⟩) (k_preV hK hW (shM_lt (rfl : shM 0 = 12) (by decide)) (ceM_12 (rfl : shM 0 = 12)) (q := (RX12, TX12, 73)) rfl) rfl rfl hl.1 rfl (lv_room (Nat.le_of_ble_eq_true rfl)) dX12_restBy_28 ⟨Nat.le_refl 0, Nat.le_refl 0⟩) (fun r7 h8 H locs hq hW => ?_)
    rw [hq.1] at hW
    have hq := hq.2
    refine lv_istore_n (lv' := [(3, .int r7), (0, .ref (G.2.2 0)), (1, .int x1), (2, .int x2), (4, .int x4)]) hx hb dX12_restBy_31 rfl hl (by decide) rfl (fun ls hl => ?_)
    obtain ⟨x4_9, ex4_9⟩ : ∃ y : Int32, y = x4 + (-1) := ⟨_, rfl⟩
    have hq := hq x4_9 ex4_9
    refine lv_iinc (v := x4_9) (lv' := [(4, .int x4_9), (3, .int r7), (0, .ref (G.2.2 0)), (1, .int x1), (2, .int x2)]) hx hb dX12_restBy_32 hl (k := 4) rfl (by rw [ex4_9]; rfl) (by decide) rfl (fun ls hl => ?_)
    refine lv_goto (tgt := 11) hx hb dX12_restBy_35 (by decide) ?_
    exact hX11 _ _ _ _ _ hW (lv_sub hl [2, 3, 4, 1, 0] rfl) hq
theorem k_X12_restBy_11 {Q : Int32 → Prop} {x1 : Int32} {x2 : Int32} {h : hp} (C : kC p s m args meth c cX12_restBy 5 (some .int) RX12 wUX12_restBy) (hK : kK G s) {x3 : Int32} {x4 : Int32} {H : Heap} {locs : List Loc} {ls : Array Slot} (hW : kW SM G h (aS SM G) s H locs) (hl : lv_has ls 5 [(0, .ref (G.2.2 0)), (1, .int x1), (2, .int x2), (3, .int x3), (4, .int x4)]) (hq : w_X12_restBy_11 Q x1 x2 h x3 x4) : W p l e rmX12_restBy s m args below meth c H locs 0 0 (MQ below (va_Qi (fun r9 h9 => h9 = h ∧ Q r9) (kB SM G) (aS SM G)) args s 0 0 (aS SM G)) (F0 m 11 ls []) := by
  have key := hq (fun (q : Int32 × Int32) => ∀ (H : Heap) (locs : List Loc) (ls : Array Slot), kW SM G h (aS SM G) s H locs → lv_has ls 5 [(0, .ref (G.2.2 0)), (1, .int x1), (2, .int x2), (3, .int q.1), (4, .int q.2)] → W p l e rmX12_restBy s m args below meth c H locs 0 0 (MQ below (va_Qi (fun r9 h9 => h9 = h ∧ Q r9) (kB SM G) (aS SM G)) args s 0 0 (aS SM G)) (F0 m 11 ls []))
    (fun q hq H locs ls hW hl => k_X12_restBy_b11 C hK (fun x3 x4 H locs ls hW hl hI => hI H locs ls hW hl) hW hl hq)
  exact key _ _ _ hW hl
theorem k_X12_restBy_0 {Q : Int32 → Prop} {x1 : Int32} {x2 : Int32} {h : hp} (C : kC p s m args meth c cX12_restBy 5 (some .int) RX12 wUX12_restBy) (hK : kK G s) {H : Heap} {locs : List Loc} {ls : Array Slot} (hW : kW SM G h (aS SM G) s H locs) (hl : lv_has ls 5 [(0, .ref (G.2.2 0)), (1, .int x1), (2, .int x2)]) (hq : w_X12_restBy_0 Q x1 x2 h) : W p l e rmX12_restBy s m args below meth c H locs 0 0 (MQ below (va_Qi (fun r9 h9 => h9 = h ∧ Q r9) (kB SM G) (aS SM G)) args s 0 0 (aS SM G)) (F0 m 0 ls []) := by
  have hx := C.1
  have hb := C.2.1
  unfold w_X12_restBy_0 at hq
  refine lv_iconst (v := 0) hx hb dX12_restBy_0 (by decide) ?_
  refine lv_istore_n (lv' := [(3, .int 0), (0, .ref (G.2.2 0)), (1, .int x1), (2, .int x2)]) hx hb dX12_restBy_1 rfl hl (by decide) rfl (fun ls hl => ?_)
  refine lv_aload_n hx hb dX12_restBy_2 rfl (lv_at hl 1 rfl) ?_
  refine lv_iload_n hx hb dX12_restBy_3 rfl (lv_at hl 2 rfl) ?_
  refine k_ci hW (va_runV (As := [.int x1]) (rest := []) (k_fix C) (c_X12_longAt l G h x1 _ hq) (cwV 1 C.2.2.2.2.2.1 (gU_V mw765 mw766 mw767 mw5 mw768) rfl rfl rfl (by decide +kernel) ⟨Nat.le_of_ble_eq_true rfl, Nat.le_of_ble_eq_true rfl⟩) (k_preV hK hW (shM_lt (rfl : shM 0 = 12) (by decide)) (ceM_12 (rfl : shM 0 = 12)) (q := (RX12, TX12, 73)) rfl) rfl rfl hl.1 rfl (lv_room (Nat.le_of_ble_eq_true rfl)) dX12_restBy_4 ⟨Nat.le_refl 0, Nat.le_refl 0⟩) (fun r1 h2 H locs hq hW => ?_)
  rw [hq.1] at hW
  have hq := hq.2
  refine lv_iconst (v := 1) hx hb dX12_restBy_7 (by decide) ?_
  refine lv_isub hx hb dX12_restBy_8 ?_
  refine lv_topi (fun x4_3 ex4_3 => ?_)
  have hq := hq x4_3 ex4_3
  refine lv_istore (lv' := [(4, .int x4_3), (3, .int 0), (0, .ref (G.2.2 0)), (1, .int x1), (2, .int x2)]) hx hb dX12_restBy_9 hl (by decide) rfl (fun ls hl => ?_)
  exact k_X12_restBy_11 C hK hW (lv_sub hl [2, 3, 4, 1, 0] rfl) hq
theorem c_X12_restBy (l : Launch) (G : wG) (h : hp) (x1 : Int32) (x2 : Int32) (Q : Int32 → Prop) (hq : w_X12_restBy h x1 x2 Q) : ctI l SM G yX12_restBy wUX12_restBy rmX12_restBy h [.ref (G.2.2 0), .int x1, .int x2] (fun r9 h9 => h9 = h ∧ Q r9) := by
  refine k_start (cc := cX12_restBy) (maxL := 5) (rt := (some .int)) (own := RX12) (by decide +kernel) rfl rfl (Nat.le_of_ble_eq_true rfl) ?_
  intro p e s m below meth c ls C hK hW hl
  exact k_X12_restBy_0 C hK hW hl hq
theorem k_X12_rest_0 {Q : Int32 → Prop} {x1 : Int32} {x2 : Int32} {h : hp} (C : kC p s m args meth c cX12_rest 3 (some .int) RX12 wUX12_rest) (hK : kK G s) {H : Heap} {locs : List Loc} {ls : Array Slot} (hW : kW SM G h (aS SM G) s H locs) (hl : lv_has ls 3 [(0, .ref (G.2.2 0)), (1, .int x1), (2, .int x2)]) (hq : w_X12_rest_0 Q x1 x2 h) : W p l e rmX12_rest s m args below meth c H locs 0 0 (MQ below (va_Qi (fun r9 h9 => h9 = h ∧ Q r9) (kB SM G) (aS SM G)) args s 0 0 (aS SM G)) (F0 m 0 ls []) := by
  have hx := C.1
  have hb := C.2.1
  unfold w_X12_rest_0 at hq
  refine lv_aload_n hx hb dX12_rest_0 rfl (lv_at hl 0 rfl) ?_
  refine lv_iload_n hx hb dX12_rest_1 rfl (lv_at hl 1 rfl) ?_
  refine k_ci hW (va_runV (As := [.int x1]) (rest := []) (k_fix C) (c_X12_isRow l G h x1 _ hq) (cwV 1 C.2.2.2.2.2.1 (gU_V mw758 mw759 mw760 mw5 mw761) rfl rfl rfl (by decide +kernel) ⟨Nat.le_of_ble_eq_true rfl, Nat.le_of_ble_eq_true rfl⟩) (k_preV hK hW (shM_lt (rfl : shM 0 = 12) (by decide)) (ceM_12 (rfl : shM 0 = 12)) (q := (RX12, TX12, 73)) rfl) rfl rfl hl.1 rfl (lv_room (Nat.le_of_ble_eq_true rfl)) dX12_rest_2 ⟨Nat.le_refl 0, Nat.le_refl 0⟩) (fun r1 h2 H locs hq hW => ?_)
  rw [hq.1] at hW
  have hq := hq.2
  refine lv_if_eq (tgt := 29) hx hb dX12_rest_5 (by decide) (fun c3 => ?_) (fun c3 => ?_)
  · have hq := hq.1 c3
    refine lv_iconst (v := (-1)) hx hb dX12_rest_29 (by decide) ?_
    exact k_iret rfl C hW dX12_rest_30 ⟨rfl, hq⟩
  · have hq := hq.2 c3
    refine lv_iload_n hx hb dX12_rest_8 rfl (lv_at hl 2 rfl) ?_
    refine lv_i2l (v := x2.toInt64) hx hb dX12_rest_9 rfl ?_
    refine lv_lconst (v := 0) hx hb dX12_rest_10 (by decide) ?_
    refine lv_ldc2 (v := 96) hx hb C.2.2.2.2.1 (C.2.2.2.2.2.1 _ (List.mem_cons_of_mem _ mw1298)) dX12_rest_11 ?_
    refine k_ci hW (va_runS (As := [.long (x2.toInt64), .long 0, .long 96]) (rest := []) (k_fix C) (c_X12_in l G h (x2.toInt64) 0 96 _ hq) (va_cwS 3 C.2.2.2.2.2.1 (gU_S mw762 mw763 mw5 mw764) rfl rfl rfl (by decide +kernel) ⟨Nat.le_of_ble_eq_true rfl, Nat.le_of_ble_eq_true rfl⟩) (k_preS hK hW) rfl rfl hl.1 rfl (lv_room (Nat.le_of_ble_eq_true rfl)) dX12_rest_14 ⟨Nat.le_refl 0, Nat.le_refl 0⟩) (fun r4 h5 H locs hq hW => ?_)
    rw [hq.1] at hW
    have hq := hq.2
    refine lv_if_eq (tgt := 29) hx hb dX12_rest_17 (by decide) (fun c6 => ?_) (fun c6 => ?_)
    · have hq := hq.1 c6
      refine lv_iconst (v := (-1)) hx hb dX12_rest_29 (by decide) ?_
      exact k_iret rfl C hW dX12_rest_30 ⟨rfl, hq⟩
    · have hq := hq.2 c6
      refine lv_aload_n hx hb dX12_rest_20 rfl (lv_at hl 0 rfl) ?_
      refine lv_iload_n hx hb dX12_rest_21 rfl (lv_at hl 1 rfl) ?_
      refine lv_iload_n hx hb dX12_rest_22 rfl (lv_at hl 2 rfl) ?_
      refine k_ci hW (va_runV (As := [.int x1, .int x2]) (rest := []) (k_fix C) (c_X12_restBy l G h x1 x2 _ hq) (cwV 2 C.2.2.2.2.2.1 (gU_V mw1432 mw1433 mw1434 mw5 mw1435) rfl rfl rfl (by decide +kernel) ⟨Nat.le_of_ble_eq_true rfl, Nat.le_of_ble_eq_true rfl⟩) (k_preV hK hW (shM_lt (rfl : shM 0 = 12) (by decide)) (ceM_12 (rfl : shM 0 = 12)) (q := (RX12, TX12, 73)) rfl) rfl rfl hl.1 rfl (lv_room (Nat.le_of_ble_eq_true rfl)) dX12_rest_23 ⟨Nat.le_refl 0, Nat.le_refl 0⟩) (fun r7 h8 H locs hq hW => ?_)
      rw [hq.1] at hW
      have hq := hq.2
      refine lv_goto (tgt := 30) hx hb dX12_rest_26 (by decide) ?_
      exact k_iret rfl C hW dX12_rest_30 ⟨rfl, hq⟩
theorem c_X12_rest (l : Launch) (G : wG) (h : hp) (x1 : Int32) (x2 : Int32) (Q : Int32 → Prop) (hq : w_X12_rest h x1 x2 Q) : ctI l SM G yX12_rest wUX12_rest rmX12_rest h [.ref (G.2.2 0), .int x1, .int x2] (fun r9 h9 => h9 = h ∧ Q r9) := by
  refine k_start (cc := cX12_rest) (maxL := 3) (rt := (some .int)) (own := RX12) (by decide +kernel) rfl rfl (Nat.le_of_ble_eq_true rfl) ?_
  intro p e s m below meth c ls C hK hW hl
  exact k_X12_rest_0 C hK hW hl hq
end LINKS
