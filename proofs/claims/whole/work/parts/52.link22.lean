section LINKS
variable {p : Program} {l : Launch} {e : Env} {s : State} {m : MethodId} {args : Array Value} {below : List Frame} {meth : Method} {c : Code} {G : wG}
theorem k_X12_sumOf_b4 {Q : Int32 → Prop} {X4 : Int32 × Int32 → Prop} {x1 : Int32} {h : hp} (C : kC p s m args meth c cX12_sumOf 4 (some .int) RX12 wUX12_sumOf) (hK : kK G s) (hX4 : ∀ (x2 : Int32) (x3 : Int32) (H : Heap) (locs : List Loc) (ls : Array Slot), kW SM G h (aS SM G) s H locs → lv_has ls 4 [(0, .ref (G.2.2 0)), (1, .int x1), (2, .int x2), (3, .int x3)] → X4 (x2, x3) → W p l e rmX12_sumOf s m args below meth c H locs 0 0 (MQ below (va_Qi (fun r9 h9 => h9 = h ∧ Q r9) (kB SM G) (aS SM G)) args s 0 0 (aS SM G)) (F0 m 4 ls [])) {x2 : Int32} {x3 : Int32} {H : Heap} {locs : List Loc} {ls : Array Slot} (hW : kW SM G h (aS SM G) s H locs) (hl : lv_has ls 4 [(0, .ref (G.2.2 0)), (1, .int x1), (2, .int x2), (3, .int x3)]) (hq : w_X12_sumOf_b4 Q x1 h X4 x2 x3) : W p l e rmX12_sumOf s m args below meth c H locs 0 0 (MQ below (va_Qi (fun r9 h9 => h9 = h ∧ Q r9) (kB SM G) (aS SM G)) args s 0 0 (aS SM G)) (F0 m 4 ls []) := by
  have hx := C.1
  have hb := C.2.1
  unfold w_X12_sumOf_b4 at hq
  refine lv_iload_n hx hb dX12_sumOf_4 rfl (lv_at hl 3 rfl) ?_
  refine lv_aload_n hx hb dX12_sumOf_5 rfl (lv_at hl 0 rfl) ?_
  refine gt12_30 C hK hW (rfl : shM 0 = 12) (List.mem_cons_of_mem _ mw280) (fun _ h9 => List.mem_cons_of_mem _ (inU_wsX120 _ h9)) dX12_sumOf_6 ?_
  refine lv_aload_n hx hb dX12_sumOf_9 rfl (lv_at hl 0 rfl) ?_
  refine gt12_18 C hK hW (rfl : shM 0 = 12) (List.mem_cons_of_mem _ mw610) (fun _ h9 => List.mem_cons_of_mem _ (inU_wsX120 _ h9)) dX12_sumOf_10 ?_
  refine k_iald C hK hW (shM_lt (rfl : shM 17 = 14) (by decide)) (ceM_14 (rfl : shM 17 = 14) (rfl : lnM 17 = 2)) hq.1 dX12_sumOf_13 ?_
  have hq := hq.2
  refine lv_icmp_ge (tgt := 49) hx hb dX12_sumOf_14 (by decide) (fun c1 => ?_) (fun c1 => ?_)
  · have hq := hq.1 c1
    refine lv_iload_n hx hb dX12_sumOf_49 rfl (lv_at hl 2 rfl) ?_
    exact k_iret rfl C hW dX12_sumOf_50 ⟨rfl, hq⟩
  · have hq := hq.2 c1
    refine lv_iload_n hx hb dX12_sumOf_17 rfl (lv_at hl 1 rfl) ?_
    refine lv_iload_n hx hb dX12_sumOf_18 rfl (lv_at hl 3 rfl) ?_
    refine k_ishr hx hb dX12_sumOf_19 ?_
    refine lv_iconst (v := 1) hx hb dX12_sumOf_20 (by decide) ?_
    refine lv_iand hx hb dX12_sumOf_21 ?_
    refine lv_iconst (v := 1) hx hb dX12_sumOf_22 (by decide) ?_
    refine lv_icmp_ne (tgt := 43) hx hb dX12_sumOf_23 (by decide) (fun c2 => ?_) (fun c2 => ?_)
    · have hq := hq.1 c2
      obtain ⟨x3_3, ex3_3⟩ : ∃ y : Int32, y = x3 + 1 := ⟨_, rfl⟩
      have hq := hq x3_3 ex3_3
      refine lv_iinc (v := x3_3) (lv' := [(3, .int x3_3), (0, .ref (G.2.2 0)), (1, .int x1), (2, .int x2)]) hx hb dX12_sumOf_43 hl (k := 3) rfl (by rw [ex3_3]; rfl) (by decide) rfl (fun ls hl => ?_)
      refine lv_goto (tgt := 4) hx hb dX12_sumOf_46 (by decide) ?_
      exact hX4 _ _ _ _ _ hW (lv_sub hl [1, 2, 3, 0] rfl) hq
    · have hq := hq.2 c2
      refine lv_iload_n hx hb dX12_sumOf_26 rfl (lv_at hl 2 rfl) ?_
      refine lv_aload_n hx hb dX12_sumOf_27 rfl (lv_at hl 0 rfl) ?_
      refine gt12_31 C hK hW (rfl : shM 0 = 12) (List.mem_cons_of_mem _ mw281) (fun _ h9 => List.mem_cons_of_mem _ (inU_wsX120 _ h9)) dX12_sumOf_28 ?_
      refine lv_bipush (v := 9) hx hb dX12_sumOf_31 (by decide) ?_
      refine lv_aload_n hx hb dX12_sumOf_33 rfl (lv_at hl 0 rfl) ?_
      refine gt12_18 C hK hW (rfl : shM 0 = 12) (List.mem_cons_of_mem _ mw610) (fun _ h9 => List.mem_cons_of_mem _ (inU_wsX120 _ h9)) dX12_sumOf_34 ?_
      refine lv_imul hx hb dX12_sumOf_37 ?_
      refine lv_iload_n hx hb dX12_sumOf_38 rfl (lv_at hl 3 rfl) ?_
      refine lv_iadd hx hb dX12_sumOf_39 ?_
      refine k_iald C hK hW (shM_lt (rfl : shM 18 = 14) (by decide)) (ceM_14 (rfl : shM 18 = 14) (rfl : lnM 18 = 18)) hq.1 dX12_sumOf_40 ?_
      have hq := hq.2
      refine lv_iadd hx hb dX12_sumOf_41 ?_
      refine lv_topi (fun x2_4 ex2_4 => ?_)
      have hq := hq x2_4 ex2_4
      refine lv_istore_n (lv' := [(2, .int x2_4), (0, .ref (G.2.2 0)), (1, .int x1), (3, .int x3)]) hx hb dX12_sumOf_42 rfl hl (by decide) rfl (fun ls hl => ?_)
      obtain ⟨x3_5, ex3_5⟩ : ∃ y : Int32, y = x3 + 1 := ⟨_, rfl⟩
      have hq := hq x3_5 ex3_5
      refine lv_iinc (v := x3_5) (lv' := [(3, .int x3_5), (2, .int x2_4), (0, .ref (G.2.2 0)), (1, .int x1)]) hx hb dX12_sumOf_43 hl (k := 3) rfl (by rw [ex3_5]; rfl) (by decide) rfl (fun ls hl => ?_)
      refine lv_goto (tgt := 4) hx hb dX12_sumOf_46 (by decide) ?_
      exact hX4 _ _ _ _ _ hW (lv_sub hl [2, 3, 1, 0] rfl) hq
theorem k_X12_sumOf_4 {Q : Int32 → Prop} {x1 : Int32} {h : hp} (C : kC p s m args meth c cX12_sumOf 4 (some .int) RX12 wUX12_sumOf) (hK : kK G s) {x2 : Int32} {x3 : Int32} {H : Heap} {locs : List Loc} {ls : Array Slot} (hW : kW SM G h (aS SM G) s H locs) (hl : lv_has ls 4 [(0, .ref (G.2.2 0)), (1, .int x1), (2, .int x2), (3, .int x3)]) (hq : w_X12_sumOf_4 Q x1 h x2 x3) : W p l e rmX12_sumOf s m args below meth c H locs 0 0 (MQ below (va_Qi (fun r9 h9 => h9 = h ∧ Q r9) (kB SM G) (aS SM G)) args s 0 0 (aS SM G)) (F0 m 4 ls []) := by
  have key := hq (fun (q : Int32 × Int32) => ∀ (H : Heap) (locs : List Loc) (ls : Array Slot), kW SM G h (aS SM G) s H locs → lv_has ls 4 [(0, .ref (G.2.2 0)), (1, .int x1), (2, .int q.1), (3, .int q.2)] → W p l e rmX12_sumOf s m args below meth c H locs 0 0 (MQ below (va_Qi (fun r9 h9 => h9 = h ∧ Q r9) (kB SM G) (aS SM G)) args s 0 0 (aS SM G)) (F0 m 4 ls []))
    (fun q hq H locs ls hW hl => k_X12_sumOf_b4 C hK (fun x2 x3 H locs ls hW hl hI => hI H locs ls hW hl) hW hl hq)
  exact key _ _ _ hW hl
theorem k_X12_sumOf_0 {Q : Int32 → Prop} {x1 : Int32} {h : hp} (C : kC p s m args meth c cX12_sumOf 4 (some .int) RX12 wUX12_sumOf) (hK : kK G s) {H : Heap} {locs : List Loc} {ls : Array Slot} (hW : kW SM G h (aS SM G) s H locs) (hl : lv_has ls 4 [(0, .ref (G.2.2 0)), (1, .int x1)]) (hq : w_X12_sumOf_0 Q x1 h) : W p l e rmX12_sumOf s m args below meth c H locs 0 0 (MQ below (va_Qi (fun r9 h9 => h9 = h ∧ Q r9) (kB SM G) (aS SM G)) args s 0 0 (aS SM G)) (F0 m 0 ls []) := by
  have hx := C.1
  have hb := C.2.1
  unfold w_X12_sumOf_0 at hq
  refine lv_iconst (v := 0) hx hb dX12_sumOf_0 (by decide) ?_
  refine lv_istore_n (lv' := [(2, .int 0), (0, .ref (G.2.2 0)), (1, .int x1)]) hx hb dX12_sumOf_1 rfl hl (by decide) rfl (fun ls hl => ?_)
  refine lv_iconst (v := 0) hx hb dX12_sumOf_2 (by decide) ?_
  refine lv_istore_n (lv' := [(3, .int 0), (2, .int 0), (0, .ref (G.2.2 0)), (1, .int x1)]) hx hb dX12_sumOf_3 rfl hl (by decide) rfl (fun ls hl => ?_)
  exact k_X12_sumOf_4 C hK hW (lv_sub hl [2, 3, 1, 0] rfl) hq
theorem c_X12_sumOf (l : Launch) (G : wG) (h : hp) (x1 : Int32) (Q : Int32 → Prop) (hq : w_X12_sumOf h x1 Q) : ctI l SM G yX12_sumOf wUX12_sumOf rmX12_sumOf h [.ref (G.2.2 0), .int x1] (fun r9 h9 => h9 = h ∧ Q r9) := by
  refine k_start (cc := cX12_sumOf) (maxL := 4) (rt := (some .int)) (own := RX12) (by decide +kernel) rfl rfl (Nat.le_of_ble_eq_true rfl) ?_
  intro p e s m below meth c ls C hK hW hl
  exact k_X12_sumOf_0 C hK hW hl hq
theorem k_X12_bad_b31 {Q : Int32 → Prop} {X31 : Int32 × Int32 → Prop} {x1 : Int32} {x2 : Int32} {h : hp} (C : kC p s m args meth c cX12_bad 5 (some .int) RX12 wUX12_bad) (hK : kK G s) (hX31 : ∀ (x3 : Int32) (x4 : Int32) (H : Heap) (locs : List Loc) (ls : Array Slot), kW SM G h (aS SM G) s H locs → lv_has ls 5 [(0, .ref (G.2.2 0)), (1, .int x1), (2, .int x2), (3, .int x3), (4, .int x4)] → X31 (x3, x4) → W p l e rmX12_bad s m args below meth c H locs 0 0 (MQ below (va_Qi (fun r9 h9 => h9 = h ∧ Q r9) (kB SM G) (aS SM G)) args s 0 0 (aS SM G)) (F0 m 31 ls [])) {x3 : Int32} {x4 : Int32} {H : Heap} {locs : List Loc} {ls : Array Slot} (hW : kW SM G h (aS SM G) s H locs) (hl : lv_has ls 5 [(0, .ref (G.2.2 0)), (1, .int x1), (2, .int x2), (3, .int x3), (4, .int x4)]) (hq : w_X12_bad_b31 Q x1 x2 h X31 x3 x4) : W p l e rmX12_bad s m args below meth c H locs 0 0 (MQ below (va_Qi (fun r9 h9 => h9 = h ∧ Q r9) (kB SM G) (aS SM G)) args s 0 0 (aS SM G)) (F0 m 31 ls []) := by
  have hx := C.1
  have hb := C.2.1
  unfold w_X12_bad_b31 at hq
  refine lv_iload hx hb dX12_bad_31 (lv_at hl 4 rfl) ?_
  refine lv_iconst (v := 1) hx hb dX12_bad_33 (by decide) ?_
  refine lv_aload_n hx hb dX12_bad_34 rfl (lv_at hl 0 rfl) ?_
  refine gt12_30 C hK hW (rfl : shM 0 = 12) (List.mem_cons_of_mem _ mw280) (fun _ h9 => List.mem_cons_of_mem _ (inU_wsX120 _ h9)) dX12_bad_35 ?_
  refine lv_aload_n hx hb dX12_bad_38 rfl (lv_at hl 0 rfl) ?_
  refine gt12_18 C hK hW (rfl : shM 0 = 12) (List.mem_cons_of_mem _ mw610) (fun _ h9 => List.mem_cons_of_mem _ (inU_wsX120 _ h9)) dX12_bad_39 ?_
  refine k_iald C hK hW (shM_lt (rfl : shM 17 = 14) (by decide)) (ceM_14 (rfl : shM 17 = 14) (rfl : lnM 17 = 2)) hq.1 dX12_bad_42 ?_
  have hq := hq.2
  refine k_ishl hx hb dX12_bad_43 ?_
  refine lv_icmp_ge (tgt := 68) hx hb dX12_bad_44 (by decide) (fun c7 => ?_) (fun c7 => ?_)
  · have hq := hq.1 c7
    refine lv_iload_n hx hb dX12_bad_68 rfl (lv_at hl 3 rfl) ?_
    exact k_iret rfl C hW dX12_bad_69 ⟨rfl, hq⟩
  · have hq := hq.2 c7
    refine lv_aload_n hx hb dX12_bad_47 rfl (lv_at hl 0 rfl) ?_
    refine lv_iload hx hb dX12_bad_48 (lv_at hl 4 rfl) ?_
    refine k_ci hW (va_runV (As := [.int x4]) (rest := []) (k_fix C) (c_X12_sumOf l G h x4 _ hq) (cwV 1 C.2.2.2.2.2.1 (gU_V mw1180 mw1181 mw1182 mw5 mw1183) rfl rfl rfl (by decide +kernel) ⟨Nat.le_of_ble_eq_true rfl, Nat.le_of_ble_eq_true rfl⟩) (k_preV hK hW (shM_lt (rfl : shM 0 = 12) (by decide)) (ceM_12 (rfl : shM 0 = 12)) (q := (RX12, TX12, 73)) rfl) rfl rfl hl.1 rfl (lv_room (Nat.le_of_ble_eq_true rfl)) dX12_bad_50 ⟨Nat.le_refl 0, Nat.le_refl 0⟩) (fun r8 h9 H locs hq hW => ?_)
    rw [hq.1] at hW
    have hq := hq.2
    refine lv_iload_n hx hb dX12_bad_53 rfl (lv_at hl 2 rfl) ?_
    refine lv_imul hx hb dX12_bad_54 ?_
    refine lv_iload_n hx hb dX12_bad_55 rfl (lv_at hl 1 rfl) ?_
    refine lv_icmp_ne (tgt := 62) hx hb dX12_bad_56 (by decide) (fun c10 => ?_) (fun c10 => ?_)
    · have hq := hq.1 c10
      obtain ⟨x4_11, ex4_11⟩ : ∃ y : Int32, y = x4 + 1 := ⟨_, rfl⟩
      have hq := hq x4_11 ex4_11
      refine lv_iinc (v := x4_11) (lv' := [(4, .int x4_11), (0, .ref (G.2.2 0)), (1, .int x1), (2, .int x2), (3, .int x3)]) hx hb dX12_bad_62 hl (k := 4) rfl (by rw [ex4_11]; rfl) (by decide) rfl (fun ls hl => ?_)
      refine lv_goto (tgt := 31) hx hb dX12_bad_65 (by decide) ?_
      exact hX31 _ _ _ _ _ hW (lv_sub hl [1, 2, 3, 4, 0] rfl) hq
    · have hq := hq.2 c10
      obtain ⟨x3_12, ex3_12⟩ : ∃ y : Int32, y = x3 + 1 := ⟨_, rfl⟩
      have hq := hq x3_12 ex3_12
      refine lv_iinc (v := x3_12) (lv' := [(3, .int x3_12), (0, .ref (G.2.2 0)), (1, .int x1), (2, .int x2), (4, .int x4)]) hx hb dX12_bad_59 hl (k := 3) rfl (by rw [ex3_12]; rfl) (by decide) rfl (fun ls hl => ?_)
      obtain ⟨x4_13, ex4_13⟩ : ∃ y : Int32, y = x4 + 1 := ⟨_, rfl⟩
      have hq := hq x4_13 ex4_13
      refine lv_iinc (v := x4_13) (lv' := [(4, .int x4_13), (3, .int x3_12), (0, .ref (G.2.2 0)), (1, .int x1), (2, .int x2)]) hx hb dX12_bad_62 hl (k := 4) rfl (by rw [ex4_13]; rfl) (by decide) rfl (fun ls hl => ?_)
      refine lv_goto (tgt := 31) hx hb dX12_bad_65 (by decide) ?_
      exact hX31 _ _ _ _ _ hW (lv_sub hl [2, 3, 4, 1, 0] rfl) hq
theorem k_X12_bad_31 {Q : Int32 → Prop} {x1 : Int32} {x2 : Int32} {h : hp} (C : kC p s m args meth c cX12_bad 5 (some .int) RX12 wUX12_bad) (hK : kK G s) {x3 : Int32} {x4 : Int32} {H : Heap} {locs : List Loc} {ls : Array Slot} (hW : kW SM G h (aS SM G) s H locs) (hl : lv_has ls 5 [(0, .ref (G.2.2 0)), (1, .int x1), (2, .int x2), (3, .int x3), (4, .int x4)]) (hq : w_X12_bad_31 Q x1 x2 h x3 x4) : W p l e rmX12_bad s m args below meth c H locs 0 0 (MQ below (va_Qi (fun r9 h9 => h9 = h ∧ Q r9) (kB SM G) (aS SM G)) args s 0 0 (aS SM G)) (F0 m 31 ls []) := by
  have key := hq (fun (q : Int32 × Int32) => ∀ (H : Heap) (locs : List Loc) (ls : Array Slot), kW SM G h (aS SM G) s H locs → lv_has ls 5 [(0, .ref (G.2.2 0)), (1, .int x1), (2, .int x2), (3, .int q.1), (4, .int q.2)] → W p l e rmX12_bad s m args below meth c H locs 0 0 (MQ below (va_Qi (fun r9 h9 => h9 = h ∧ Q r9) (kB SM G) (aS SM G)) args s 0 0 (aS SM G)) (F0 m 31 ls []))
    (fun q hq H locs ls hW hl => k_X12_bad_b31 C hK (fun x3 x4 H locs ls hW hl hI => hI H locs ls hW hl) hW hl hq)
  exact key _ _ _ hW hl
theorem k_X12_bad_0 {Q : Int32 → Prop} {x1 : Int32} {x2 : Int32} {h : hp} (C : kC p s m args meth c cX12_bad 5 (some .int) RX12 wUX12_bad) (hK : kK G s) {H : Heap} {locs : List Loc} {ls : Array Slot} (hW : kW SM G h (aS SM G) s H locs) (hl : lv_has ls 5 [(0, .ref (G.2.2 0)), (1, .int x1), (2, .int x2)]) (hq : w_X12_bad_0 Q x1 x2 h) : W p l e rmX12_bad s m args below meth c H locs 0 0 (MQ below (va_Qi (fun r9 h9 => h9 = h ∧ Q r9) (kB SM G) (aS SM G)) args s 0 0 (aS SM G)) (F0 m 0 ls []) := by
  have hx := C.1
  have hb := C.2.1
  unfold w_X12_bad_0 at hq
  refine lv_iload_n hx hb dX12_bad_0 rfl (lv_at hl 1 rfl) ?_
  refine lv_i2l (v := x1.toInt64) hx hb dX12_bad_1 rfl ?_
  refine lv_lconst (v := 0) hx hb dX12_bad_2 (by decide) ?_
  refine lv_ldc2 (v := 999999) hx hb C.2.2.2.2.1 (C.2.2.2.2.2.1 _ (List.mem_cons_of_mem _ mw1179)) dX12_bad_3 ?_
  refine k_ci hW (va_runS (As := [.long (x1.toInt64), .long 0, .long 999999]) (rest := []) (k_fix C) (c_X12_in l G h (x1.toInt64) 0 999999 _ hq) (va_cwS 3 C.2.2.2.2.2.1 (gU_S mw762 mw763 mw5 mw764) rfl rfl rfl (by decide +kernel) ⟨Nat.le_of_ble_eq_true rfl, Nat.le_of_ble_eq_true rfl⟩) (k_preS hK hW) rfl rfl hl.1 rfl (lv_room (Nat.le_of_ble_eq_true rfl)) dX12_bad_6 ⟨Nat.le_refl 0, Nat.le_refl 0⟩) (fun r1 h2 H locs hq hW => ?_)
  rw [hq.1] at hW
  have hq := hq.2
  refine lv_if_eq (tgt := 24) hx hb dX12_bad_9 (by decide) (fun c3 => ?_) (fun c3 => ?_)
  · have hq := hq.1 c3
    refine lv_iconst (v := (-1)) hx hb dX12_bad_24 (by decide) ?_
    exact k_iret rfl C hW dX12_bad_25 ⟨rfl, hq⟩
  · have hq := hq.2 c3
    refine lv_iload_n hx hb dX12_bad_12 rfl (lv_at hl 2 rfl) ?_
    refine lv_i2l (v := x2.toInt64) hx hb dX12_bad_13 rfl ?_
    refine lv_lconst (v := 1) hx hb dX12_bad_14 (by decide) ?_
    refine lv_ldc2 (v := 99) hx hb C.2.2.2.2.1 (C.2.2.2.2.2.1 _ (List.mem_cons_of_mem _ mw947)) dX12_bad_15 ?_
    refine k_ci hW (va_runS (As := [.long (x2.toInt64), .long 1, .long 99]) (rest := []) (k_fix C) (c_X12_in l G h (x2.toInt64) 1 99 _ hq) (va_cwS 3 C.2.2.2.2.2.1 (gU_S mw762 mw763 mw5 mw764) rfl rfl rfl (by decide +kernel) ⟨Nat.le_of_ble_eq_true rfl, Nat.le_of_ble_eq_true rfl⟩) (k_preS hK hW) rfl rfl hl.1 rfl (lv_room (Nat.le_of_ble_eq_true rfl)) dX12_bad_18 ⟨Nat.le_refl 0, Nat.le_refl 0⟩) (fun r4 h5 H locs hq hW => ?_)
    rw [hq.1] at hW
    have hq := hq.2
    refine lv_if_ne (tgt := 26) hx hb dX12_bad_21 (by decide) (fun c6 => ?_) (fun c6 => ?_)
    · have hq := hq.1 c6
      refine lv_iconst (v := 0) hx hb dX12_bad_26 (by decide) ?_
      refine lv_istore_n (lv' := [(3, .int 0), (0, .ref (G.2.2 0)), (1, .int x1), (2, .int x2)]) hx hb dX12_bad_27 rfl hl (by decide) rfl (fun ls hl => ?_)
      refine lv_iconst (v := 0) hx hb dX12_bad_28 (by decide) ?_
      refine lv_istore (lv' := [(4, .int 0), (3, .int 0), (0, .ref (G.2.2 0)), (1, .int x1), (2, .int x2)]) hx hb dX12_bad_29 hl (by decide) rfl (fun ls hl => ?_)
      exact k_X12_bad_31 C hK hW (lv_sub hl [2, 3, 4, 1, 0] rfl) hq
    · have hq := hq.2 c6
      refine lv_iconst (v := (-1)) hx hb dX12_bad_24 (by decide) ?_
      exact k_iret rfl C hW dX12_bad_25 ⟨rfl, hq⟩
theorem c_X12_bad (l : Launch) (G : wG) (h : hp) (x1 : Int32) (x2 : Int32) (Q : Int32 → Prop) (hq : w_X12_bad h x1 x2 Q) : ctI l SM G yX12_bad wUX12_bad rmX12_bad h [.ref (G.2.2 0), .int x1, .int x2] (fun r9 h9 => h9 = h ∧ Q r9) := by
  refine k_start (cc := cX12_bad) (maxL := 5) (rt := (some .int)) (own := RX12) (by decide +kernel) rfl rfl (Nat.le_of_ble_eq_true rfl) ?_
  intro p e s m below meth c ls C hK hW hl
  exact k_X12_bad_0 C hK hW hl hq
theorem k_X12_badSet_b28 {Q : Int32 → Prop} {X28 : Int32 → Prop} {x1 : Int32} {x2 : Int32} {h : hp} (C : kC p s m args meth c cX12_badSet 4 (some .int) RX12 wUX12_badSet) (hK : kK G s) (hX28 : ∀ (x3 : Int32) (H : Heap) (locs : List Loc) (ls : Array Slot), kW SM G h (aS SM G) s H locs → lv_has ls 4 [(0, .ref (G.2.2 0)), (1, .int x1), (2, .int x2), (3, .int x3)] → X28 x3 → W p l e rmX12_badSet s m args below meth c H locs 0 0 (MQ below (va_Qi (fun r9 h9 => h9 = h ∧ Q r9) (kB SM G) (aS SM G)) args s 0 0 (aS SM G)) (F0 m 28 ls [])) {x3 : Int32} {H : Heap} {locs : List Loc} {ls : Array Slot} (hW : kW SM G h (aS SM G) s H locs) (hl : lv_has ls 4 [(0, .ref (G.2.2 0)), (1, .int x1), (2, .int x2), (3, .int x3)]) (hq : w_X12_badSet_b28 Q x1 x2 h X28 x3) : W p l e rmX12_badSet s m args below meth c H locs 0 0 (MQ below (va_Qi (fun r9 h9 => h9 = h ∧ Q r9) (kB SM G) (aS SM G)) args s 0 0 (aS SM G)) (F0 m 28 ls []) := by
  have hx := C.1
  have hb := C.2.1
  unfold w_X12_badSet_b28 at hq
  refine lv_iload_n hx hb dX12_badSet_28 rfl (lv_at hl 3 rfl) ?_
  refine lv_iconst (v := 1) hx hb dX12_badSet_29 (by decide) ?_
  refine lv_aload_n hx hb dX12_badSet_30 rfl (lv_at hl 0 rfl) ?_
  refine gt12_30 C hK hW (rfl : shM 0 = 12) (List.mem_cons_of_mem _ mw280) (fun _ h9 => List.mem_cons_of_mem _ (inU_wsX120 _ h9)) dX12_badSet_31 ?_
  refine lv_aload_n hx hb dX12_badSet_34 rfl (lv_at hl 0 rfl) ?_
  refine gt12_18 C hK hW (rfl : shM 0 = 12) (List.mem_cons_of_mem _ mw610) (fun _ h9 => List.mem_cons_of_mem _ (inU_wsX120 _ h9)) dX12_badSet_35 ?_
  refine k_iald C hK hW (shM_lt (rfl : shM 17 = 14) (by decide)) (ceM_14 (rfl : shM 17 = 14) (rfl : lnM 17 = 2)) hq.1 dX12_badSet_38 ?_
  have hq := hq.2
  refine k_ishl hx hb dX12_badSet_39 ?_
  refine lv_icmp_ge (tgt := 62) hx hb dX12_badSet_40 (by decide) (fun c7 => ?_) (fun c7 => ?_)
  · have hq := hq.1 c7
    refine lv_bipush (v := (-2)) hx hb dX12_badSet_62 (by decide) ?_
    exact k_iret rfl C hW dX12_badSet_64 ⟨rfl, hq⟩
  · have hq := hq.2 c7
    refine lv_aload_n hx hb dX12_badSet_43 rfl (lv_at hl 0 rfl) ?_
    refine lv_iload_n hx hb dX12_badSet_44 rfl (lv_at hl 3 rfl) ?_
    refine k_ci hW (va_runV (As := [.int x3]) (rest := []) (k_fix C) (c_X12_sumOf l G h x3 _ hq) (cwV 1 C.2.2.2.2.2.1 (gU_V mw1180 mw1181 mw1182 mw5 mw1183) rfl rfl rfl (by decide +kernel) ⟨Nat.le_of_ble_eq_true rfl, Nat.le_of_ble_eq_true rfl⟩) (k_preV hK hW (shM_lt (rfl : shM 0 = 12) (by decide)) (ceM_12 (rfl : shM 0 = 12)) (q := (RX12, TX12, 73)) rfl) rfl rfl hl.1 rfl (lv_room (Nat.le_of_ble_eq_true rfl)) dX12_badSet_45 ⟨Nat.le_refl 0, Nat.le_refl 0⟩) (fun r8 h9 H locs hq hW => ?_)
    rw [hq.1] at hW
    have hq := hq.2
    refine lv_iload_n hx hb dX12_badSet_48 rfl (lv_at hl 2 rfl) ?_
    refine lv_imul hx hb dX12_badSet_49 ?_
    refine lv_iload_n hx hb dX12_badSet_50 rfl (lv_at hl 1 rfl) ?_
    refine lv_icmp_ne (tgt := 56) hx hb dX12_badSet_51 (by decide) (fun c10 => ?_) (fun c10 => ?_)
    · have hq := hq.1 c10
      obtain ⟨x3_11, ex3_11⟩ : ∃ y : Int32, y = x3 + 1 := ⟨_, rfl⟩
      have hq := hq x3_11 ex3_11
      refine lv_iinc (v := x3_11) (lv' := [(3, .int x3_11), (0, .ref (G.2.2 0)), (1, .int x1), (2, .int x2)]) hx hb dX12_badSet_56 hl (k := 3) rfl (by rw [ex3_11]; rfl) (by decide) rfl (fun ls hl => ?_)
      refine lv_goto (tgt := 28) hx hb dX12_badSet_59 (by decide) ?_
      exact hX28 _ _ _ _ hW (lv_sub hl [1, 2, 3, 0] rfl) hq
    · have hq := hq.2 c10
      refine lv_iload_n hx hb dX12_badSet_54 rfl (lv_at hl 3 rfl) ?_
      exact k_iret rfl C hW dX12_badSet_55 ⟨rfl, hq⟩
theorem k_X12_badSet_28 {Q : Int32 → Prop} {x1 : Int32} {x2 : Int32} {h : hp} (C : kC p s m args meth c cX12_badSet 4 (some .int) RX12 wUX12_badSet) (hK : kK G s) {x3 : Int32} {H : Heap} {locs : List Loc} {ls : Array Slot} (hW : kW SM G h (aS SM G) s H locs) (hl : lv_has ls 4 [(0, .ref (G.2.2 0)), (1, .int x1), (2, .int x2), (3, .int x3)]) (hq : w_X12_badSet_28 Q x1 x2 h x3) : W p l e rmX12_badSet s m args below meth c H locs 0 0 (MQ below (va_Qi (fun r9 h9 => h9 = h ∧ Q r9) (kB SM G) (aS SM G)) args s 0 0 (aS SM G)) (F0 m 28 ls []) := by
  have key := hq (fun (q : Int32) => ∀ (H : Heap) (locs : List Loc) (ls : Array Slot), kW SM G h (aS SM G) s H locs → lv_has ls 4 [(0, .ref (G.2.2 0)), (1, .int x1), (2, .int x2), (3, .int q)] → W p l e rmX12_badSet s m args below meth c H locs 0 0 (MQ below (va_Qi (fun r9 h9 => h9 = h ∧ Q r9) (kB SM G) (aS SM G)) args s 0 0 (aS SM G)) (F0 m 28 ls []))
    (fun q hq H locs ls hW hl => k_X12_badSet_b28 C hK (fun x3 H locs ls hW hl hI => hI H locs ls hW hl) hW hl hq)
  exact key _ _ _ hW hl
theorem k_X12_badSet_0 {Q : Int32 → Prop} {x1 : Int32} {x2 : Int32} {h : hp} (C : kC p s m args meth c cX12_badSet 4 (some .int) RX12 wUX12_badSet) (hK : kK G s) {H : Heap} {locs : List Loc} {ls : Array Slot} (hW : kW SM G h (aS SM G) s H locs) (hl : lv_has ls 4 [(0, .ref (G.2.2 0)), (1, .int x1), (2, .int x2)]) (hq : w_X12_badSet_0 Q x1 x2 h) : W p l e rmX12_badSet s m args below meth c H locs 0 0 (MQ below (va_Qi (fun r9 h9 => h9 = h ∧ Q r9) (kB SM G) (aS SM G)) args s 0 0 (aS SM G)) (F0 m 0 ls []) := by
  have hx := C.1
  have hb := C.2.1
  unfold w_X12_badSet_0 at hq
  refine lv_iload_n hx hb dX12_badSet_0 rfl (lv_at hl 1 rfl) ?_
  refine lv_i2l (v := x1.toInt64) hx hb dX12_badSet_1 rfl ?_
  refine lv_lconst (v := 0) hx hb dX12_badSet_2 (by decide) ?_
  refine lv_ldc2 (v := 999999) hx hb C.2.2.2.2.1 (C.2.2.2.2.2.1 _ (List.mem_cons_of_mem _ mw1179)) dX12_badSet_3 ?_
  refine k_ci hW (va_runS (As := [.long (x1.toInt64), .long 0, .long 999999]) (rest := []) (k_fix C) (c_X12_in l G h (x1.toInt64) 0 999999 _ hq) (va_cwS 3 C.2.2.2.2.2.1 (gU_S mw762 mw763 mw5 mw764) rfl rfl rfl (by decide +kernel) ⟨Nat.le_of_ble_eq_true rfl, Nat.le_of_ble_eq_true rfl⟩) (k_preS hK hW) rfl rfl hl.1 rfl (lv_room (Nat.le_of_ble_eq_true rfl)) dX12_badSet_6 ⟨Nat.le_refl 0, Nat.le_refl 0⟩) (fun r1 h2 H locs hq hW => ?_)
  rw [hq.1] at hW
  have hq := hq.2
  refine lv_if_eq (tgt := 24) hx hb dX12_badSet_9 (by decide) (fun c3 => ?_) (fun c3 => ?_)
  · have hq := hq.1 c3
    refine lv_iconst (v := (-1)) hx hb dX12_badSet_24 (by decide) ?_
    exact k_iret rfl C hW dX12_badSet_25 ⟨rfl, hq⟩
  · have hq := hq.2 c3
    refine lv_iload_n hx hb dX12_badSet_12 rfl (lv_at hl 2 rfl) ?_
    refine lv_i2l (v := x2.toInt64) hx hb dX12_badSet_13 rfl ?_
    refine lv_lconst (v := 1) hx hb dX12_badSet_14 (by decide) ?_
    refine lv_ldc2 (v := 99) hx hb C.2.2.2.2.1 (C.2.2.2.2.2.1 _ (List.mem_cons_of_mem _ mw947)) dX12_badSet_15 ?_
    refine k_ci hW (va_runS (As := [.long (x2.toInt64), .long 1, .long 99]) (rest := []) (k_fix C) (c_X12_in l G h (x2.toInt64) 1 99 _ hq) (va_cwS 3 C.2.2.2.2.2.1 (gU_S mw762 mw763 mw5 mw764) rfl rfl rfl (by decide +kernel) ⟨Nat.le_of_ble_eq_true rfl, Nat.le_of_ble_eq_true rfl⟩) (k_preS hK hW) rfl rfl hl.1 rfl (lv_room (Nat.le_of_ble_eq_true rfl)) dX12_badSet_18 ⟨Nat.le_refl 0, Nat.le_refl 0⟩) (fun r4 h5 H locs hq hW => ?_)
    rw [hq.1] at hW
    have hq := hq.2
    refine lv_if_ne (tgt := 26) hx hb dX12_badSet_21 (by decide) (fun c6 => ?_) (fun c6 => ?_)
    · have hq := hq.1 c6
      refine lv_iconst (v := 0) hx hb dX12_badSet_26 (by decide) ?_
      refine lv_istore_n (lv' := [(3, .int 0), (0, .ref (G.2.2 0)), (1, .int x1), (2, .int x2)]) hx hb dX12_badSet_27 rfl hl (by decide) rfl (fun ls hl => ?_)
      exact k_X12_badSet_28 C hK hW (lv_sub hl [1, 2, 3, 0] rfl) hq
    · have hq := hq.2 c6
      refine lv_iconst (v := (-1)) hx hb dX12_badSet_24 (by decide) ?_
      exact k_iret rfl C hW dX12_badSet_25 ⟨rfl, hq⟩
theorem c_X12_badSet (l : Launch) (G : wG) (h : hp) (x1 : Int32) (x2 : Int32) (Q : Int32 → Prop) (hq : w_X12_badSet h x1 x2 Q) : ctI l SM G yX12_badSet wUX12_badSet rmX12_badSet h [.ref (G.2.2 0), .int x1, .int x2] (fun r9 h9 => h9 = h ∧ Q r9) := by
  refine k_start (cc := cX12_badSet) (maxL := 4) (rt := (some .int)) (own := RX12) (by decide +kernel) rfl rfl (Nat.le_of_ble_eq_true rfl) ?_
  intro p e s m below meth c ls C hK hW hl
  exact k_X12_badSet_0 C hK hW hl hq
theorem k_X12_allTold_b21 {Q : Int32 → Prop} {X2 : Int32 → Prop} {X21 : Int32 → Prop} {x1 : Int32} {h : hp} (C : kC p s m args meth c cX12_allTold 3 (some .boolean) RX12 wUX12_allTold) (hK : kK G s) (hX2 : ∀ (x1 : Int32) (H : Heap) (locs : List Loc) (ls : Array Slot), kW SM G h (aS SM G) s H locs → lv_has ls 3 [(0, .ref (G.2.2 0)), (1, .int x1)] → X2 x1 → W p l e rmX12_allTold s m args below meth c H locs 0 0 (MQ below (va_Qi (fun r9 h9 => h9 = h ∧ Q r9) (kB SM G) (aS SM G)) args s 0 0 (aS SM G)) (F0 m 2 ls [])) (hX21 : ∀ (x2 : Int32) (H : Heap) (locs : List Loc) (ls : Array Slot), kW SM G h (aS SM G) s H locs → lv_has ls 3 [(0, .ref (G.2.2 0)), (1, .int x1), (2, .int x2)] → X21 x2 → W p l e rmX12_allTold s m args below meth c H locs 0 0 (MQ below (va_Qi (fun r9 h9 => h9 = h ∧ Q r9) (kB SM G) (aS SM G)) args s 0 0 (aS SM G)) (F0 m 21 ls [])) {x2 : Int32} {H : Heap} {locs : List Loc} {ls : Array Slot} (hW : kW SM G h (aS SM G) s H locs) (hl : lv_has ls 3 [(0, .ref (G.2.2 0)), (1, .int x1), (2, .int x2)]) (hq : w_X12_allTold_b21 Q X2 x1 h X21 x2) : W p l e rmX12_allTold s m args below meth c H locs 0 0 (MQ below (va_Qi (fun r9 h9 => h9 = h ∧ Q r9) (kB SM G) (aS SM G)) args s 0 0 (aS SM G)) (F0 m 21 ls []) := by
  have hx := C.1
  have hb := C.2.1
  unfold w_X12_allTold_b21 at hq
  refine lv_iload_n hx hb dX12_allTold_21 rfl (lv_at hl 2 rfl) ?_
  refine lv_iconst (v := 1) hx hb dX12_allTold_22 (by decide) ?_
  refine lv_aload_n hx hb dX12_allTold_23 rfl (lv_at hl 0 rfl) ?_
  refine gt12_30 C hK hW (rfl : shM 0 = 12) (List.mem_cons_of_mem _ mw280) (fun _ h9 => List.mem_cons_of_mem _ (inU_wsX120 _ h9)) dX12_allTold_24 ?_
  refine lv_aload_n hx hb dX12_allTold_27 rfl (lv_at hl 0 rfl) ?_
  refine gt12_18 C hK hW (rfl : shM 0 = 12) (List.mem_cons_of_mem _ mw610) (fun _ h9 => List.mem_cons_of_mem _ (inU_wsX120 _ h9)) dX12_allTold_28 ?_
  refine k_iald C hK hW (shM_lt (rfl : shM 17 = 14) (by decide)) (ceM_14 (rfl : shM 17 = 14) (rfl : lnM 17 = 2)) hq.1 dX12_allTold_31 ?_
  have hq := hq.2
  refine k_ishl hx hb dX12_allTold_32 ?_
  refine lv_icmp_ge (tgt := 57) hx hb dX12_allTold_33 (by decide) (fun c3 => ?_) (fun c3 => ?_)
  · have hq := hq.1 c3
    obtain ⟨x1_4, ex1_4⟩ : ∃ y : Int32, y = x1 + 1 := ⟨_, rfl⟩
    have hq := hq x1_4 ex1_4
    refine lv_iinc (v := x1_4) (lv' := [(1, .int x1_4), (0, .ref (G.2.2 0)), (2, .int x2)]) hx hb dX12_allTold_57 hl (k := 1) rfl (by rw [ex1_4]; rfl) (by decide) rfl (fun ls hl => ?_)
    refine lv_goto (tgt := 2) hx hb dX12_allTold_60 (by decide) ?_
    exact hX2 _ _ _ _ hW (lv_sub hl [1, 0] rfl) hq
  · have hq := hq.2 c3
    refine lv_aload_n hx hb dX12_allTold_36 rfl (lv_at hl 0 rfl) ?_
    refine lv_iload_n hx hb dX12_allTold_37 rfl (lv_at hl 1 rfl) ?_
    refine k_ci hW (va_runV (As := [.int x1]) (rest := []) (k_fix C) (c_X12_sumOf l G h x1 _ hq) (cwV 1 C.2.2.2.2.2.1 (gU_V mw1180 mw1181 mw1182 mw5 mw1183) rfl rfl rfl (by decide +kernel) ⟨Nat.le_of_ble_eq_true rfl, Nat.le_of_ble_eq_true rfl⟩) (k_preV hK hW (shM_lt (rfl : shM 0 = 12) (by decide)) (ceM_12 (rfl : shM 0 = 12)) (q := (RX12, TX12, 73)) rfl) rfl rfl hl.1 rfl (lv_room (Nat.le_of_ble_eq_true rfl)) dX12_allTold_38 ⟨Nat.le_refl 0, Nat.le_refl 0⟩) (fun r5 h6 H locs hq hW => ?_)
    rw [hq.1] at hW
    have hq := hq.2
    refine lv_aload_n hx hb dX12_allTold_41 rfl (lv_at hl 0 rfl) ?_
    refine lv_iload_n hx hb dX12_allTold_42 rfl (lv_at hl 2 rfl) ?_
    refine k_ci hW (va_runV (As := [.int x2]) (rest := [.int r5]) (k_fix C) (c_X12_sumOf l G h x2 _ hq) (cwV 1 C.2.2.2.2.2.1 (gU_V mw1180 mw1181 mw1182 mw5 mw1183) rfl rfl rfl (by decide +kernel) ⟨Nat.le_of_ble_eq_true rfl, Nat.le_of_ble_eq_true rfl⟩) (k_preV hK hW (shM_lt (rfl : shM 0 = 12) (by decide)) (ceM_12 (rfl : shM 0 = 12)) (q := (RX12, TX12, 73)) rfl) rfl rfl hl.1 rfl (lv_room (Nat.le_of_ble_eq_true rfl)) dX12_allTold_43 ⟨Nat.le_refl 0, Nat.le_refl 0⟩) (fun r7 h8 H locs hq hW => ?_)
    rw [hq.1] at hW
    have hq := hq.2
    refine lv_icmp_ne (tgt := 51) hx hb dX12_allTold_46 (by decide) (fun c9 => ?_) (fun c9 => ?_)
    · have hq := hq.1 c9
      obtain ⟨x2_10, ex2_10⟩ : ∃ y : Int32, y = x2 + 1 := ⟨_, rfl⟩
      have hq := hq x2_10 ex2_10
      refine lv_iinc (v := x2_10) (lv' := [(2, .int x2_10), (0, .ref (G.2.2 0)), (1, .int x1)]) hx hb dX12_allTold_51 hl (k := 2) rfl (by rw [ex2_10]; rfl) (by decide) rfl (fun ls hl => ?_)
      refine lv_goto (tgt := 21) hx hb dX12_allTold_54 (by decide) ?_
      exact hX21 _ _ _ _ hW (lv_sub hl [1, 2, 0] rfl) hq
    · have hq := hq.2 c9
      refine lv_iconst (v := 0) hx hb dX12_allTold_49 (by decide) ?_
      exact k_zret rfl isZ_0.1 C hW dX12_allTold_50 ⟨rfl, hq⟩
theorem k_X12_allTold_21 {Q : Int32 → Prop} {X2 : Int32 → Prop} {x1 : Int32} {h : hp} (C : kC p s m args meth c cX12_allTold 3 (some .boolean) RX12 wUX12_allTold) (hK : kK G s) (hX2 : ∀ (x1 : Int32) (H : Heap) (locs : List Loc) (ls : Array Slot), kW SM G h (aS SM G) s H locs → lv_has ls 3 [(0, .ref (G.2.2 0)), (1, .int x1)] → X2 x1 → W p l e rmX12_allTold s m args below meth c H locs 0 0 (MQ below (va_Qi (fun r9 h9 => h9 = h ∧ Q r9) (kB SM G) (aS SM G)) args s 0 0 (aS SM G)) (F0 m 2 ls [])) {x2 : Int32} {H : Heap} {locs : List Loc} {ls : Array Slot} (hW : kW SM G h (aS SM G) s H locs) (hl : lv_has ls 3 [(0, .ref (G.2.2 0)), (1, .int x1), (2, .int x2)]) (hq : w_X12_allTold_21 Q X2 x1 h x2) : W p l e rmX12_allTold s m args below meth c H locs 0 0 (MQ below (va_Qi (fun r9 h9 => h9 = h ∧ Q r9) (kB SM G) (aS SM G)) args s 0 0 (aS SM G)) (F0 m 21 ls []) := by
  have key := hq (fun (q : Int32) => ∀ (H : Heap) (locs : List Loc) (ls : Array Slot), kW SM G h (aS SM G) s H locs → lv_has ls 3 [(0, .ref (G.2.2 0)), (1, .int x1), (2, .int q)] → W p l e rmX12_allTold s m args below meth c H locs 0 0 (MQ below (va_Qi (fun r9 h9 => h9 = h ∧ Q r9) (kB SM G) (aS SM G)) args s 0 0 (aS SM G)) (F0 m 21 ls []))
    (fun q hq H locs ls hW hl => k_X12_allTold_b21 C hK hX2 (fun x2 H locs ls hW hl hI => hI H locs ls hW hl) hW hl hq)
  exact key _ _ _ hW hl
theorem k_X12_allTold_b2 {Q : Int32 → Prop} {X2 : Int32 → Prop} {h : hp} (C : kC p s m args meth c cX12_allTold 3 (some .boolean) RX12 wUX12_allTold) (hK : kK G s) (hX2 : ∀ (x1 : Int32) (H : Heap) (locs : List Loc) (ls : Array Slot), kW SM G h (aS SM G) s H locs → lv_has ls 3 [(0, .ref (G.2.2 0)), (1, .int x1)] → X2 x1 → W p l e rmX12_allTold s m args below meth c H locs 0 0 (MQ below (va_Qi (fun r9 h9 => h9 = h ∧ Q r9) (kB SM G) (aS SM G)) args s 0 0 (aS SM G)) (F0 m 2 ls [])) {x1 : Int32} {H : Heap} {locs : List Loc} {ls : Array Slot} (hW : kW SM G h (aS SM G) s H locs) (hl : lv_has ls 3 [(0, .ref (G.2.2 0)), (1, .int x1)]) (hq : w_X12_allTold_b2 Q h X2 x1) : W p l e rmX12_allTold s m args below meth c H locs 0 0 (MQ below (va_Qi (fun r9 h9 => h9 = h ∧ Q r9) (kB SM G) (aS SM G)) args s 0 0 (aS SM G)) (F0 m 2 ls []) := by
  have hx := C.1
  have hb := C.2.1
  unfold w_X12_allTold_b2 at hq
  refine lv_iload_n hx hb dX12_allTold_2 rfl (lv_at hl 1 rfl) ?_
  refine lv_iconst (v := 1) hx hb dX12_allTold_3 (by decide) ?_
  refine lv_aload_n hx hb dX12_allTold_4 rfl (lv_at hl 0 rfl) ?_
  refine gt12_30 C hK hW (rfl : shM 0 = 12) (List.mem_cons_of_mem _ mw280) (fun _ h9 => List.mem_cons_of_mem _ (inU_wsX120 _ h9)) dX12_allTold_5 ?_
  refine lv_aload_n hx hb dX12_allTold_8 rfl (lv_at hl 0 rfl) ?_
  refine gt12_18 C hK hW (rfl : shM 0 = 12) (List.mem_cons_of_mem _ mw610) (fun _ h9 => List.mem_cons_of_mem _ (inU_wsX120 _ h9)) dX12_allTold_9 ?_
  refine k_iald C hK hW (shM_lt (rfl : shM 17 = 14) (by decide)) (ceM_14 (rfl : shM 17 = 14) (rfl : lnM 17 = 2)) hq.1 dX12_allTold_12 ?_
  have hq := hq.2
  refine k_ishl hx hb dX12_allTold_13 ?_
  refine lv_icmp_ge (tgt := 63) hx hb dX12_allTold_14 (by decide) (fun c1 => ?_) (fun c1 => ?_)
  · have hq := hq.1 c1
    refine lv_iconst (v := 1) hx hb dX12_allTold_63 (by decide) ?_
    exact k_zret rfl isZ_1.1 C hW dX12_allTold_64 ⟨rfl, hq⟩
  · have hq := hq.2 c1
    refine lv_iload_n hx hb dX12_allTold_17 rfl (lv_at hl 1 rfl) ?_
    refine lv_iconst (v := 1) hx hb dX12_allTold_18 (by decide) ?_
    refine lv_iadd hx hb dX12_allTold_19 ?_
    refine lv_topi (fun x2_2 ex2_2 => ?_)
    have hq := hq x2_2 ex2_2
    refine lv_istore_n (lv' := [(2, .int x2_2), (0, .ref (G.2.2 0)), (1, .int x1)]) hx hb dX12_allTold_20 rfl hl (by decide) rfl (fun ls hl => ?_)
    exact k_X12_allTold_21 C hK hX2 hW (lv_sub hl [1, 2, 0] rfl) hq
theorem k_X12_allTold_2 {Q : Int32 → Prop} {h : hp} (C : kC p s m args meth c cX12_allTold 3 (some .boolean) RX12 wUX12_allTold) (hK : kK G s) {x1 : Int32} {H : Heap} {locs : List Loc} {ls : Array Slot} (hW : kW SM G h (aS SM G) s H locs) (hl : lv_has ls 3 [(0, .ref (G.2.2 0)), (1, .int x1)]) (hq : w_X12_allTold_2 Q h x1) : W p l e rmX12_allTold s m args below meth c H locs 0 0 (MQ below (va_Qi (fun r9 h9 => h9 = h ∧ Q r9) (kB SM G) (aS SM G)) args s 0 0 (aS SM G)) (F0 m 2 ls []) := by
  have key := hq (fun (q : Int32) => ∀ (H : Heap) (locs : List Loc) (ls : Array Slot), kW SM G h (aS SM G) s H locs → lv_has ls 3 [(0, .ref (G.2.2 0)), (1, .int q)] → W p l e rmX12_allTold s m args below meth c H locs 0 0 (MQ below (va_Qi (fun r9 h9 => h9 = h ∧ Q r9) (kB SM G) (aS SM G)) args s 0 0 (aS SM G)) (F0 m 2 ls []))
    (fun q hq H locs ls hW hl => k_X12_allTold_b2 C hK (fun x1 H locs ls hW hl hI => hI H locs ls hW hl) hW hl hq)
  exact key _ _ _ hW hl
theorem k_X12_allTold_0 {Q : Int32 → Prop} {h : hp} (C : kC p s m args meth c cX12_allTold 3 (some .boolean) RX12 wUX12_allTold) (hK : kK G s) {H : Heap} {locs : List Loc} {ls : Array Slot} (hW : kW SM G h (aS SM G) s H locs) (hl : lv_has ls 3 [(0, .ref (G.2.2 0))]) (hq : w_X12_allTold_0 Q h) : W p l e rmX12_allTold s m args below meth c H locs 0 0 (MQ below (va_Qi (fun r9 h9 => h9 = h ∧ Q r9) (kB SM G) (aS SM G)) args s 0 0 (aS SM G)) (F0 m 0 ls []) := by
  have hx := C.1
  have hb := C.2.1
  unfold w_X12_allTold_0 at hq
  refine lv_iconst (v := 0) hx hb dX12_allTold_0 (by decide) ?_
  refine lv_istore_n (lv' := [(1, .int 0), (0, .ref (G.2.2 0))]) hx hb dX12_allTold_1 rfl hl (by decide) rfl (fun ls hl => ?_)
  exact k_X12_allTold_2 C hK hW (lv_sub hl [1, 0] rfl) hq
theorem c_X12_allTold (l : Launch) (G : wG) (h : hp) (Q : Int32 → Prop) (hq : w_X12_allTold h Q) : ctI l SM G yX12_allTold wUX12_allTold rmX12_allTold h [.ref (G.2.2 0)] (fun r9 h9 => h9 = h ∧ Q r9) := by
  refine k_start (cc := cX12_allTold) (maxL := 3) (rt := (some .boolean)) (own := RX12) (by decide +kernel) rfl rfl (Nat.le_of_ble_eq_true rfl) ?_
  intro p e s m below meth c ls C hK hW hl
  exact k_X12_allTold_0 C hK hW hl hq
theorem k_X12_margin_64 {Q : Int32 → Prop} {X19 : Int32 × Int32 → Prop} {X36 : Int32 × Int32 → Prop} {x1 : Int32} {x2 : Int32} {x3 : Int32} {x4 : Int32} {h : hp} (C : kC p s m args meth c cX12_margin 5 (some .int) RX12 wUX12_margin) (hK : kK G s) (hX19 : ∀ (x1 : Int32) (x2 : Int32) (H : Heap) (locs : List Loc) (ls : Array Slot), kW SM G h (aS SM G) s H locs → lv_has ls 5 [(0, .ref (G.2.2 0)), (1, .int x1), (2, .int x2)] → X19 (x1, x2) → W p l e rmX12_margin s m args below meth c H locs 0 0 (MQ below (va_Qi (fun r9 h9 => h9 = h ∧ Q r9) (kB SM G) (aS SM G)) args s 0 0 (aS SM G)) (F0 m 19 ls [])) (hX36 : ∀ (x1 : Int32) (x3 : Int32) (H : Heap) (locs : List Loc) (ls : Array Slot), kW SM G h (aS SM G) s H locs → lv_has ls 5 [(0, .ref (G.2.2 0)), (1, .int x1), (2, .int x2), (3, .int x3)] → X36 (x1, x3) → W p l e rmX12_margin s m args below meth c H locs 0 0 (MQ below (va_Qi (fun r9 h9 => h9 = h ∧ Q r9) (kB SM G) (aS SM G)) args s 0 0 (aS SM G)) (F0 m 36 ls [])) {H : Heap} {locs : List Loc} {ls : Array Slot} (hW : kW SM G h (aS SM G) s H locs) (hl : lv_has ls 5 [(0, .ref (G.2.2 0)), (1, .int x1), (2, .int x2), (3, .int x3), (4, .int x4)]) (hq : w_X12_margin_64 Q X19 X36 x1 x2 x3 x4 h) : W p l e rmX12_margin s m args below meth c H locs 0 0 (MQ below (va_Qi (fun r9 h9 => h9 = h ∧ Q r9) (kB SM G) (aS SM G)) args s 0 0 (aS SM G)) (F0 m 64 ls []) := by
  have hx := C.1
  have hb := C.2.1
  unfold w_X12_margin_64 at hq
  refine lv_iload_n hx hb dX12_margin_64 rfl (lv_at hl 1 rfl) ?_
  refine lv_if_lt (tgt := 74) hx hb dX12_margin_65 (by decide) (fun c12 => ?_) (fun c12 => ?_)
  · have hq := hq.1 c12
    refine lv_iload hx hb dX12_margin_74 (lv_at hl 4 rfl) ?_
    refine lv_istore_n (lv' := [(1, .int x4), (0, .ref (G.2.2 0)), (2, .int x2), (3, .int x3), (4, .int x4)]) hx hb dX12_margin_76 rfl hl (by decide) rfl (fun ls hl => ?_)
    obtain ⟨x3_13, ex3_13⟩ : ∃ y : Int32, y = x3 + 1 := ⟨_, rfl⟩
    have hq := hq x3_13 ex3_13
    refine lv_iinc (v := x3_13) (lv' := [(3, .int x3_13), (1, .int x4), (0, .ref (G.2.2 0)), (2, .int x2), (4, .int x4)]) hx hb dX12_margin_77 hl (k := 3) rfl (by rw [ex3_13]; rfl) (by decide) rfl (fun ls hl => ?_)
    refine lv_goto (tgt := 36) hx hb dX12_margin_80 (by decide) ?_
    exact hX36 _ _ _ _ _ hW (lv_sub hl [2, 1, 3, 0] rfl) hq
  · have hq := hq.2 c12
    refine lv_iload hx hb dX12_margin_68 (lv_at hl 4 rfl) ?_
    refine lv_iload_n hx hb dX12_margin_70 rfl (lv_at hl 1 rfl) ?_
    refine lv_icmp_ge (tgt := 77) hx hb dX12_margin_71 (by decide) (fun c14 => ?_) (fun c14 => ?_)
    · have hq := hq.1 c14
      obtain ⟨x3_15, ex3_15⟩ : ∃ y : Int32, y = x3 + 1 := ⟨_, rfl⟩
      have hq := hq x3_15 ex3_15
      refine lv_iinc (v := x3_15) (lv' := [(3, .int x3_15), (0, .ref (G.2.2 0)), (1, .int x1), (2, .int x2), (4, .int x4)]) hx hb dX12_margin_77 hl (k := 3) rfl (by rw [ex3_15]; rfl) (by decide) rfl (fun ls hl => ?_)
      refine lv_goto (tgt := 36) hx hb dX12_margin_80 (by decide) ?_
      exact hX36 _ _ _ _ _ hW (lv_sub hl [1, 2, 3, 0] rfl) hq
    · have hq := hq.2 c14
      refine lv_iload hx hb dX12_margin_74 (lv_at hl 4 rfl) ?_
      refine lv_istore_n (lv' := [(1, .int x4), (0, .ref (G.2.2 0)), (2, .int x2), (3, .int x3), (4, .int x4)]) hx hb dX12_margin_76 rfl hl (by decide) rfl (fun ls hl => ?_)
      obtain ⟨x3_16, ex3_16⟩ : ∃ y : Int32, y = x3 + 1 := ⟨_, rfl⟩
      have hq := hq x3_16 ex3_16
      refine lv_iinc (v := x3_16) (lv' := [(3, .int x3_16), (1, .int x4), (0, .ref (G.2.2 0)), (2, .int x2), (4, .int x4)]) hx hb dX12_margin_77 hl (k := 3) rfl (by rw [ex3_16]; rfl) (by decide) rfl (fun ls hl => ?_)
      refine lv_goto (tgt := 36) hx hb dX12_margin_80 (by decide) ?_
      exact hX36 _ _ _ _ _ hW (lv_sub hl [2, 1, 3, 0] rfl) hq
theorem k_X12_margin_b36 {Q : Int32 → Prop} {X19 : Int32 × Int32 → Prop} {X36 : Int32 × Int32 → Prop} {x2 : Int32} {h : hp} (C : kC p s m args meth c cX12_margin 5 (some .int) RX12 wUX12_margin) (hK : kK G s) (hX19 : ∀ (x1 : Int32) (x2 : Int32) (H : Heap) (locs : List Loc) (ls : Array Slot), kW SM G h (aS SM G) s H locs → lv_has ls 5 [(0, .ref (G.2.2 0)), (1, .int x1), (2, .int x2)] → X19 (x1, x2) → W p l e rmX12_margin s m args below meth c H locs 0 0 (MQ below (va_Qi (fun r9 h9 => h9 = h ∧ Q r9) (kB SM G) (aS SM G)) args s 0 0 (aS SM G)) (F0 m 19 ls [])) (hX36 : ∀ (x1 : Int32) (x3 : Int32) (H : Heap) (locs : List Loc) (ls : Array Slot), kW SM G h (aS SM G) s H locs → lv_has ls 5 [(0, .ref (G.2.2 0)), (1, .int x1), (2, .int x2), (3, .int x3)] → X36 (x1, x3) → W p l e rmX12_margin s m args below meth c H locs 0 0 (MQ below (va_Qi (fun r9 h9 => h9 = h ∧ Q r9) (kB SM G) (aS SM G)) args s 0 0 (aS SM G)) (F0 m 36 ls [])) {x1 : Int32} {x3 : Int32} {H : Heap} {locs : List Loc} {ls : Array Slot} (hW : kW SM G h (aS SM G) s H locs) (hl : lv_has ls 5 [(0, .ref (G.2.2 0)), (1, .int x1), (2, .int x2), (3, .int x3)]) (hq : w_X12_margin_b36 Q X19 x2 h X36 x1 x3) : W p l e rmX12_margin s m args below meth c H locs 0 0 (MQ below (va_Qi (fun r9 h9 => h9 = h ∧ Q r9) (kB SM G) (aS SM G)) args s 0 0 (aS SM G)) (F0 m 36 ls []) := by
  have hx := C.1
  have hb := C.2.1
  unfold w_X12_margin_b36 at hq
  refine lv_iload_n hx hb dX12_margin_36 rfl (lv_at hl 3 rfl) ?_
  refine lv_iload_n hx hb dX12_margin_37 rfl (lv_at hl 2 rfl) ?_
  refine lv_icmp_ge (tgt := 83) hx hb dX12_margin_38 (by decide) (fun c3 => ?_) (fun c3 => ?_)
  · have hq := hq.1 c3
    obtain ⟨x2_4, ex2_4⟩ : ∃ y : Int32, y = x2 + 1 := ⟨_, rfl⟩
    have hq := hq x2_4 ex2_4
    refine lv_iinc (v := x2_4) (lv' := [(2, .int x2_4), (0, .ref (G.2.2 0)), (1, .int x1), (3, .int x3)]) hx hb dX12_margin_83 hl (k := 2) rfl (by rw [ex2_4]; rfl) (by decide) rfl (fun ls hl => ?_)
    refine lv_goto (tgt := 19) hx hb dX12_margin_86 (by decide) ?_
    exact hX19 _ _ _ _ _ hW (lv_sub hl [1, 2, 0] rfl) hq
  · have hq := hq.2 c3
    refine lv_aload_n hx hb dX12_margin_41 rfl (lv_at hl 0 rfl) ?_
    refine lv_iload_n hx hb dX12_margin_42 rfl (lv_at hl 2 rfl) ?_
    refine k_ci hW (va_runV (As := [.int x2]) (rest := []) (k_fix C) (c_X12_sumOf l G h x2 _ hq) (cwV 1 C.2.2.2.2.2.1 (gU_V mw1180 mw1181 mw1182 mw5 mw1183) rfl rfl rfl (by decide +kernel) ⟨Nat.le_of_ble_eq_true rfl, Nat.le_of_ble_eq_true rfl⟩) (k_preV hK hW (shM_lt (rfl : shM 0 = 12) (by decide)) (ceM_12 (rfl : shM 0 = 12)) (q := (RX12, TX12, 73)) rfl) rfl rfl hl.1 rfl (lv_room (Nat.le_of_ble_eq_true rfl)) dX12_margin_43 ⟨Nat.le_refl 0, Nat.le_refl 0⟩) (fun r5 h6 H locs hq hW => ?_)
    rw [hq.1] at hW
    have hq := hq.2
    refine lv_aload_n hx hb dX12_margin_46 rfl (lv_at hl 0 rfl) ?_
    refine lv_iload_n hx hb dX12_margin_47 rfl (lv_at hl 3 rfl) ?_
    refine k_ci hW (va_runV (As := [.int x3]) (rest := [.int r5]) (k_fix C) (c_X12_sumOf l G h x3 _ hq) (cwV 1 C.2.2.2.2.2.1 (gU_V mw1180 mw1181 mw1182 mw5 mw1183) rfl rfl rfl (by decide +kernel) ⟨Nat.le_of_ble_eq_true rfl, Nat.le_of_ble_eq_true rfl⟩) (k_preV hK hW (shM_lt (rfl : shM 0 = 12) (by decide)) (ceM_12 (rfl : shM 0 = 12)) (q := (RX12, TX12, 73)) rfl) rfl rfl hl.1 rfl (lv_room (Nat.le_of_ble_eq_true rfl)) dX12_margin_48 ⟨Nat.le_refl 0, Nat.le_refl 0⟩) (fun r7 h8 H locs hq hW => ?_)
    rw [hq.1] at hW
    have hq := hq.2
    refine lv_isub hx hb dX12_margin_51 ?_
    refine lv_topi (fun x4_9 ex4_9 => ?_)
    have hq := hq x4_9 ex4_9
    refine lv_istore (lv' := [(4, .int x4_9), (0, .ref (G.2.2 0)), (1, .int x1), (2, .int x2), (3, .int x3)]) hx hb dX12_margin_52 hl (by decide) rfl (fun ls hl => ?_)
    refine lv_iload hx hb dX12_margin_54 (lv_at hl 0 rfl) ?_
    refine lv_if_ge (tgt := 64) hx hb dX12_margin_56 (by decide) (fun c10 => ?_) (fun c10 => ?_)
    · have hq := hq.1 c10
      exact k_X12_margin_64 C hK hX19 hX36 hW (lv_sub hl [1, 2, 3, 4, 0] rfl) hq
    · have hq := hq.2 c10
      refine lv_iload hx hb dX12_margin_59 (lv_at hl 0 rfl) ?_
      refine lv_ineg hx hb dX12_margin_61 ?_
      refine lv_topi (fun x4_11 ex4_11 => ?_)
      have hq := hq x4_11 ex4_11
      refine lv_istore (lv' := [(4, .int x4_11), (0, .ref (G.2.2 0)), (1, .int x1), (2, .int x2), (3, .int x3)]) hx hb dX12_margin_62 hl (by decide) rfl (fun ls hl => ?_)
      exact k_X12_margin_64 C hK hX19 hX36 hW (lv_sub hl [1, 2, 3, 4, 0] rfl) hq
theorem k_X12_margin_36 {Q : Int32 → Prop} {X19 : Int32 × Int32 → Prop} {x2 : Int32} {h : hp} (C : kC p s m args meth c cX12_margin 5 (some .int) RX12 wUX12_margin) (hK : kK G s) (hX19 : ∀ (x1 : Int32) (x2 : Int32) (H : Heap) (locs : List Loc) (ls : Array Slot), kW SM G h (aS SM G) s H locs → lv_has ls 5 [(0, .ref (G.2.2 0)), (1, .int x1), (2, .int x2)] → X19 (x1, x2) → W p l e rmX12_margin s m args below meth c H locs 0 0 (MQ below (va_Qi (fun r9 h9 => h9 = h ∧ Q r9) (kB SM G) (aS SM G)) args s 0 0 (aS SM G)) (F0 m 19 ls [])) {x1 : Int32} {x3 : Int32} {H : Heap} {locs : List Loc} {ls : Array Slot} (hW : kW SM G h (aS SM G) s H locs) (hl : lv_has ls 5 [(0, .ref (G.2.2 0)), (1, .int x1), (2, .int x2), (3, .int x3)]) (hq : w_X12_margin_36 Q X19 x2 h x1 x3) : W p l e rmX12_margin s m args below meth c H locs 0 0 (MQ below (va_Qi (fun r9 h9 => h9 = h ∧ Q r9) (kB SM G) (aS SM G)) args s 0 0 (aS SM G)) (F0 m 36 ls []) := by
  have key := hq (fun (q : Int32 × Int32) => ∀ (H : Heap) (locs : List Loc) (ls : Array Slot), kW SM G h (aS SM G) s H locs → lv_has ls 5 [(0, .ref (G.2.2 0)), (1, .int q.1), (2, .int x2), (3, .int q.2)] → W p l e rmX12_margin s m args below meth c H locs 0 0 (MQ below (va_Qi (fun r9 h9 => h9 = h ∧ Q r9) (kB SM G) (aS SM G)) args s 0 0 (aS SM G)) (F0 m 36 ls []))
    (fun q hq H locs ls hW hl => k_X12_margin_b36 C hK hX19 (fun x1 x3 H locs ls hW hl hI => hI H locs ls hW hl) hW hl hq)
  exact key _ _ _ hW hl
theorem k_X12_margin_b19 {Q : Int32 → Prop} {X19 : Int32 × Int32 → Prop} {h : hp} (C : kC p s m args meth c cX12_margin 5 (some .int) RX12 wUX12_margin) (hK : kK G s) (hX19 : ∀ (x1 : Int32) (x2 : Int32) (H : Heap) (locs : List Loc) (ls : Array Slot), kW SM G h (aS SM G) s H locs → lv_has ls 5 [(0, .ref (G.2.2 0)), (1, .int x1), (2, .int x2)] → X19 (x1, x2) → W p l e rmX12_margin s m args below meth c H locs 0 0 (MQ below (va_Qi (fun r9 h9 => h9 = h ∧ Q r9) (kB SM G) (aS SM G)) args s 0 0 (aS SM G)) (F0 m 19 ls [])) {x1 : Int32} {x2 : Int32} {H : Heap} {locs : List Loc} {ls : Array Slot} (hW : kW SM G h (aS SM G) s H locs) (hl : lv_has ls 5 [(0, .ref (G.2.2 0)), (1, .int x1), (2, .int x2)]) (hq : w_X12_margin_b19 Q h X19 x1 x2) : W p l e rmX12_margin s m args below meth c H locs 0 0 (MQ below (va_Qi (fun r9 h9 => h9 = h ∧ Q r9) (kB SM G) (aS SM G)) args s 0 0 (aS SM G)) (F0 m 19 ls []) := by
  have hx := C.1
  have hb := C.2.1
  unfold w_X12_margin_b19 at hq
  refine lv_iload_n hx hb dX12_margin_19 rfl (lv_at hl 2 rfl) ?_
  refine lv_iconst (v := 1) hx hb dX12_margin_20 (by decide) ?_
  refine lv_aload_n hx hb dX12_margin_21 rfl (lv_at hl 0 rfl) ?_
  refine gt12_30 C hK hW (rfl : shM 0 = 12) (List.mem_cons_of_mem _ mw280) (fun _ h9 => List.mem_cons_of_mem _ (inU_wsX120 _ h9)) dX12_margin_22 ?_
  refine lv_aload_n hx hb dX12_margin_25 rfl (lv_at hl 0 rfl) ?_
  refine gt12_18 C hK hW (rfl : shM 0 = 12) (List.mem_cons_of_mem _ mw610) (fun _ h9 => List.mem_cons_of_mem _ (inU_wsX120 _ h9)) dX12_margin_26 ?_
  refine k_iald C hK hW (shM_lt (rfl : shM 17 = 14) (by decide)) (ceM_14 (rfl : shM 17 = 14) (rfl : lnM 17 = 2)) hq.1 dX12_margin_29 ?_
  have hq := hq.2
  refine k_ishl hx hb dX12_margin_30 ?_
  refine lv_icmp_ge (tgt := 89) hx hb dX12_margin_31 (by decide) (fun c2 => ?_) (fun c2 => ?_)
  · have hq := hq.1 c2
    refine lv_iload_n hx hb dX12_margin_89 rfl (lv_at hl 1 rfl) ?_
    exact k_iret rfl C hW dX12_margin_90 ⟨rfl, hq⟩
  · have hq := hq.2 c2
    refine lv_iconst (v := 0) hx hb dX12_margin_34 (by decide) ?_
    refine lv_istore_n (lv' := [(3, .int 0), (0, .ref (G.2.2 0)), (1, .int x1), (2, .int x2)]) hx hb dX12_margin_35 rfl hl (by decide) rfl (fun ls hl => ?_)
    exact k_X12_margin_36 C hK hX19 hW (lv_sub hl [1, 2, 3, 0] rfl) hq
theorem k_X12_margin_19 {Q : Int32 → Prop} {h : hp} (C : kC p s m args meth c cX12_margin 5 (some .int) RX12 wUX12_margin) (hK : kK G s) {x1 : Int32} {x2 : Int32} {H : Heap} {locs : List Loc} {ls : Array Slot} (hW : kW SM G h (aS SM G) s H locs) (hl : lv_has ls 5 [(0, .ref (G.2.2 0)), (1, .int x1), (2, .int x2)]) (hq : w_X12_margin_19 Q h x1 x2) : W p l e rmX12_margin s m args below meth c H locs 0 0 (MQ below (va_Qi (fun r9 h9 => h9 = h ∧ Q r9) (kB SM G) (aS SM G)) args s 0 0 (aS SM G)) (F0 m 19 ls []) := by
  have key := hq (fun (q : Int32 × Int32) => ∀ (H : Heap) (locs : List Loc) (ls : Array Slot), kW SM G h (aS SM G) s H locs → lv_has ls 5 [(0, .ref (G.2.2 0)), (1, .int q.1), (2, .int q.2)] → W p l e rmX12_margin s m args below meth c H locs 0 0 (MQ below (va_Qi (fun r9 h9 => h9 = h ∧ Q r9) (kB SM G) (aS SM G)) args s 0 0 (aS SM G)) (F0 m 19 ls []))
    (fun q hq H locs ls hW hl => k_X12_margin_b19 C hK (fun x1 x2 H locs ls hW hl hI => hI H locs ls hW hl) hW hl hq)
  exact key _ _ _ hW hl
theorem k_X12_margin_0 {Q : Int32 → Prop} {h : hp} (C : kC p s m args meth c cX12_margin 5 (some .int) RX12 wUX12_margin) (hK : kK G s) {H : Heap} {locs : List Loc} {ls : Array Slot} (hW : kW SM G h (aS SM G) s H locs) (hl : lv_has ls 5 [(0, .ref (G.2.2 0))]) (hq : w_X12_margin_0 Q h) : W p l e rmX12_margin s m args below meth c H locs 0 0 (MQ below (va_Qi (fun r9 h9 => h9 = h ∧ Q r9) (kB SM G) (aS SM G)) args s 0 0 (aS SM G)) (F0 m 0 ls []) := by
  have hx := C.1
  have hb := C.2.1
  unfold w_X12_margin_0 at hq
  refine lv_aload_n hx hb dX12_margin_0 rfl (lv_at hl 0 rfl) ?_
  refine gt12_30 C hK hW (rfl : shM 0 = 12) (List.mem_cons_of_mem _ mw280) (fun _ h9 => List.mem_cons_of_mem _ (inU_wsX120 _ h9)) dX12_margin_1 ?_
  refine lv_aload_n hx hb dX12_margin_4 rfl (lv_at hl 0 rfl) ?_
  refine gt12_18 C hK hW (rfl : shM 0 = 12) (List.mem_cons_of_mem _ mw610) (fun _ h9 => List.mem_cons_of_mem _ (inU_wsX120 _ h9)) dX12_margin_5 ?_
  refine k_iald C hK hW (shM_lt (rfl : shM 17 = 14) (by decide)) (ceM_14 (rfl : shM 17 = 14) (rfl : lnM 17 = 2)) hq.1 dX12_margin_8 ?_
  have hq := hq.2
  refine lv_if_ne (tgt := 15) hx hb dX12_margin_9 (by decide) (fun c1 => ?_) (fun c1 => ?_)
  · have hq := hq.1 c1
    refine lv_iconst (v := (-1)) hx hb dX12_margin_15 (by decide) ?_
    refine lv_istore_n (lv' := [(1, .int (-1)), (0, .ref (G.2.2 0))]) hx hb dX12_margin_16 rfl hl (by decide) rfl (fun ls hl => ?_)
    refine lv_iconst (v := 0) hx hb dX12_margin_17 (by decide) ?_
    refine lv_istore_n (lv' := [(2, .int 0), (1, .int (-1)), (0, .ref (G.2.2 0))]) hx hb dX12_margin_18 rfl hl (by decide) rfl (fun ls hl => ?_)
    exact k_X12_margin_19 C hK hW (lv_sub hl [2, 1, 0] rfl) hq
  · have hq := hq.2 c1
    refine lv_bipush (v := (-2)) hx hb dX12_margin_12 (by decide) ?_
    exact k_iret rfl C hW dX12_margin_14 ⟨rfl, hq⟩
theorem c_X12_margin (l : Launch) (G : wG) (h : hp) (Q : Int32 → Prop) (hq : w_X12_margin h Q) : ctI l SM G yX12_margin wUX12_margin rmX12_margin h [.ref (G.2.2 0)] (fun r9 h9 => h9 = h ∧ Q r9) := by
  refine k_start (cc := cX12_margin) (maxL := 5) (rt := (some .int)) (own := RX12) (by decide +kernel) rfl rfl (Nat.le_of_ble_eq_true rfl) ?_
  intro p e s m below meth c ls C hK hW hl
  exact k_X12_margin_0 C hK hW hl hq
theorem k_X12_bits_b4 {Q : Int32 → Prop} {X4 : Int32 × Int32 → Prop} {x0 : Int32} {h : hp} (C : kC p s m args meth c cX12_bits 3 (some .int) RX12 wUX12_bits) (hK : kK G s) (hX4 : ∀ (x1 : Int32) (x2 : Int32) (H : Heap) (locs : List Loc) (ls : Array Slot), kW SM G h (aS SM G) s H locs → lv_has ls 3 [(0, .int x0), (1, .int x1), (2, .int x2)] → X4 (x1, x2) → W p l e rmX12_bits s m args below meth c H locs 0 0 (MQ below (va_Qi (fun r9 h9 => h9 = h ∧ Q r9) (kB SM G) (aS SM G)) args s 0 0 (aS SM G)) (F0 m 4 ls [])) {x1 : Int32} {x2 : Int32} {H : Heap} {locs : List Loc} {ls : Array Slot} (hW : kW SM G h (aS SM G) s H locs) (hl : lv_has ls 3 [(0, .int x0), (1, .int x1), (2, .int x2)]) (hq : w_X12_bits_b4 Q x0 X4 x1 x2) : W p l e rmX12_bits s m args below meth c H locs 0 0 (MQ below (va_Qi (fun r9 h9 => h9 = h ∧ Q r9) (kB SM G) (aS SM G)) args s 0 0 (aS SM G)) (F0 m 4 ls []) := by
  have hx := C.1
  have hb := C.2.1
  unfold w_X12_bits_b4 at hq
  refine lv_iload_n hx hb dX12_bits_4 rfl (lv_at hl 2 rfl) ?_
  refine lv_bipush (v := 8) hx hb dX12_bits_5 (by decide) ?_
  refine lv_icmp_ge (tgt := 24) hx hb dX12_bits_7 (by decide) (fun c1 => ?_) (fun c1 => ?_)
  · have hq := hq.1 c1
    refine lv_iload_n hx hb dX12_bits_24 rfl (lv_at hl 1 rfl) ?_
    exact k_iret rfl C hW dX12_bits_25 ⟨rfl, hq⟩
  · have hq := hq.2 c1
    refine lv_iload_n hx hb dX12_bits_10 rfl (lv_at hl 1 rfl) ?_
    refine lv_iload_n hx hb dX12_bits_11 rfl (lv_at hl 0 rfl) ?_
    refine lv_iload_n hx hb dX12_bits_12 rfl (lv_at hl 2 rfl) ?_
    refine k_ishr hx hb dX12_bits_13 ?_
    refine lv_iconst (v := 1) hx hb dX12_bits_14 (by decide) ?_
    refine lv_iand hx hb dX12_bits_15 ?_
    refine lv_iadd hx hb dX12_bits_16 ?_
    refine lv_topi (fun x1_2 ex1_2 => ?_)
    have hq := hq x1_2 ex1_2
    refine lv_istore_n (lv' := [(1, .int x1_2), (0, .int x0), (2, .int x2)]) hx hb dX12_bits_17 rfl hl (by decide) rfl (fun ls hl => ?_)
    obtain ⟨x2_3, ex2_3⟩ : ∃ y : Int32, y = x2 + 1 := ⟨_, rfl⟩
    have hq := hq x2_3 ex2_3
    refine lv_iinc (v := x2_3) (lv' := [(2, .int x2_3), (1, .int x1_2), (0, .int x0)]) hx hb dX12_bits_18 hl (k := 2) rfl (by rw [ex2_3]; rfl) (by decide) rfl (fun ls hl => ?_)
    refine lv_goto (tgt := 4) hx hb dX12_bits_21 (by decide) ?_
    exact hX4 _ _ _ _ _ hW (lv_sub hl [2, 1, 0] rfl) hq
theorem k_X12_bits_4 {Q : Int32 → Prop} {x0 : Int32} {h : hp} (C : kC p s m args meth c cX12_bits 3 (some .int) RX12 wUX12_bits) (hK : kK G s) {x1 : Int32} {x2 : Int32} {H : Heap} {locs : List Loc} {ls : Array Slot} (hW : kW SM G h (aS SM G) s H locs) (hl : lv_has ls 3 [(0, .int x0), (1, .int x1), (2, .int x2)]) (hq : w_X12_bits_4 Q x0 x1 x2) : W p l e rmX12_bits s m args below meth c H locs 0 0 (MQ below (va_Qi (fun r9 h9 => h9 = h ∧ Q r9) (kB SM G) (aS SM G)) args s 0 0 (aS SM G)) (F0 m 4 ls []) := by
  have key := hq (fun (q : Int32 × Int32) => ∀ (H : Heap) (locs : List Loc) (ls : Array Slot), kW SM G h (aS SM G) s H locs → lv_has ls 3 [(0, .int x0), (1, .int q.1), (2, .int q.2)] → W p l e rmX12_bits s m args below meth c H locs 0 0 (MQ below (va_Qi (fun r9 h9 => h9 = h ∧ Q r9) (kB SM G) (aS SM G)) args s 0 0 (aS SM G)) (F0 m 4 ls []))
    (fun q hq H locs ls hW hl => k_X12_bits_b4 C hK (fun x1 x2 H locs ls hW hl hI => hI H locs ls hW hl) hW hl hq)
  exact key _ _ _ hW hl
theorem k_X12_bits_0 {Q : Int32 → Prop} {x0 : Int32} {h : hp} (C : kC p s m args meth c cX12_bits 3 (some .int) RX12 wUX12_bits) (hK : kK G s) {H : Heap} {locs : List Loc} {ls : Array Slot} (hW : kW SM G h (aS SM G) s H locs) (hl : lv_has ls 3 [(0, .int x0)]) (hq : w_X12_bits_0 Q x0) : W p l e rmX12_bits s m args below meth c H locs 0 0 (MQ below (va_Qi (fun r9 h9 => h9 = h ∧ Q r9) (kB SM G) (aS SM G)) args s 0 0 (aS SM G)) (F0 m 0 ls []) := by
  have hx := C.1
  have hb := C.2.1
  unfold w_X12_bits_0 at hq
  refine lv_iconst (v := 0) hx hb dX12_bits_0 (by decide) ?_
  refine lv_istore_n (lv' := [(1, .int 0), (0, .int x0)]) hx hb dX12_bits_1 rfl hl (by decide) rfl (fun ls hl => ?_)
  refine lv_iconst (v := 0) hx hb dX12_bits_2 (by decide) ?_
  refine lv_istore_n (lv' := [(2, .int 0), (1, .int 0), (0, .int x0)]) hx hb dX12_bits_3 rfl hl (by decide) rfl (fun ls hl => ?_)
  exact k_X12_bits_4 C hK hW (lv_sub hl [2, 1, 0] rfl) hq
theorem c_X12_bits (l : Launch) (G : wG) (h : hp) (x0 : Int32) (Q : Int32 → Prop) (hq : w_X12_bits x0 Q) : ctI l SM G yX12_bits wUX12_bits rmX12_bits h [.int x0] (fun r9 h9 => h9 = h ∧ Q r9) := by
  refine k_start (cc := cX12_bits) (maxL := 3) (rt := (some .int)) (own := RX12) (by decide +kernel) rfl rfl (Nat.le_of_ble_eq_true rfl) ?_
  intro p e s m below meth c ls C hK hW hl
  exact k_X12_bits_0 C hK hW hl hq
theorem k_X12_turned_b2 {Q : Int32 → Prop} {X2 : Int32 → Prop} {x1 : Int32} {h : hp} (C : kC p s m args meth c cX12_turned 3 (some .int) RX12 wUX12_turned) (hK : kK G s) (hX2 : ∀ (x2 : Int32) (H : Heap) (locs : List Loc) (ls : Array Slot), kW SM G h (aS SM G) s H locs → lv_has ls 3 [(0, .ref (G.2.2 0)), (1, .int x1), (2, .int x2)] → X2 x2 → W p l e rmX12_turned s m args below meth c H locs 0 0 (MQ below (va_Qi (fun r9 h9 => h9 = h ∧ Q r9) (kB SM G) (aS SM G)) args s 0 0 (aS SM G)) (F0 m 2 ls [])) {x2 : Int32} {H : Heap} {locs : List Loc} {ls : Array Slot} (hW : kW SM G h (aS SM G) s H locs) (hl : lv_has ls 3 [(0, .ref (G.2.2 0)), (1, .int x1), (2, .int x2)]) (hq : w_X12_turned_b2 Q x1 h X2 x2) : W p l e rmX12_turned s m args below meth c H locs 0 0 (MQ below (va_Qi (fun r9 h9 => h9 = h ∧ Q r9) (kB SM G) (aS SM G)) args s 0 0 (aS SM G)) (F0 m 2 ls []) := by
  have hx := C.1
  have hb := C.2.1
  unfold w_X12_turned_b2 at hq
  refine lv_aload_n hx hb dX12_turned_2 rfl (lv_at hl 0 rfl) ?_
  refine lv_iload_n hx hb dX12_turned_3 rfl (lv_at hl 1 rfl) ?_
  refine lv_iload_n hx hb dX12_turned_4 rfl (lv_at hl 2 rfl) ?_
  refine lv_imul hx hb dX12_turned_5 ?_
  refine k_ci hW (va_runV (As := [.int (x1 * x2)]) (rest := []) (k_fix C) (c_X12_restOf l G h (x1 * x2) _ hq) (cwV 1 C.2.2.2.2.2.1 (gU_V mw1277 mw1278 mw1279 mw5 mw1280) rfl rfl rfl (by decide +kernel) ⟨Nat.le_of_ble_eq_true rfl, Nat.le_of_ble_eq_true rfl⟩) (k_preV hK hW (shM_lt (rfl : shM 0 = 12) (by decide)) (ceM_12 (rfl : shM 0 = 12)) (q := (RX12, TX12, 73)) rfl) rfl rfl hl.1 rfl (lv_room (Nat.le_of_ble_eq_true rfl)) dX12_turned_6 ⟨Nat.le_refl 0, Nat.le_refl 0⟩) (fun r1 h2 H locs hq hW => ?_)
  rw [hq.1] at hW
  have hq := hq.2
  refine lv_iconst (v := 1) hx hb dX12_turned_9 (by decide) ?_
  refine lv_icmp_eq (tgt := 19) hx hb dX12_turned_10 (by decide) (fun c3 => ?_) (fun c3 => ?_)
  · have hq := hq.1 c3
    refine lv_iload_n hx hb dX12_turned_19 rfl (lv_at hl 2 rfl) ?_
    exact k_iret rfl C hW dX12_turned_20 ⟨rfl, hq⟩
  · have hq := hq.2 c3
    obtain ⟨x2_4, ex2_4⟩ : ∃ y : Int32, y = x2 + 1 := ⟨_, rfl⟩
    have hq := hq x2_4 ex2_4
    refine lv_iinc (v := x2_4) (lv' := [(2, .int x2_4), (0, .ref (G.2.2 0)), (1, .int x1)]) hx hb dX12_turned_13 hl (k := 2) rfl (by rw [ex2_4]; rfl) (by decide) rfl (fun ls hl => ?_)
    refine lv_goto (tgt := 2) hx hb dX12_turned_16 (by decide) ?_
    exact hX2 _ _ _ _ hW (lv_sub hl [1, 2, 0] rfl) hq
theorem k_X12_turned_2 {Q : Int32 → Prop} {x1 : Int32} {h : hp} (C : kC p s m args meth c cX12_turned 3 (some .int) RX12 wUX12_turned) (hK : kK G s) {x2 : Int32} {H : Heap} {locs : List Loc} {ls : Array Slot} (hW : kW SM G h (aS SM G) s H locs) (hl : lv_has ls 3 [(0, .ref (G.2.2 0)), (1, .int x1), (2, .int x2)]) (hq : w_X12_turned_2 Q x1 h x2) : W p l e rmX12_turned s m args below meth c H locs 0 0 (MQ below (va_Qi (fun r9 h9 => h9 = h ∧ Q r9) (kB SM G) (aS SM G)) args s 0 0 (aS SM G)) (F0 m 2 ls []) := by
  have key := hq (fun (q : Int32) => ∀ (H : Heap) (locs : List Loc) (ls : Array Slot), kW SM G h (aS SM G) s H locs → lv_has ls 3 [(0, .ref (G.2.2 0)), (1, .int x1), (2, .int q)] → W p l e rmX12_turned s m args below meth c H locs 0 0 (MQ below (va_Qi (fun r9 h9 => h9 = h ∧ Q r9) (kB SM G) (aS SM G)) args s 0 0 (aS SM G)) (F0 m 2 ls []))
    (fun q hq H locs ls hW hl => k_X12_turned_b2 C hK (fun x2 H locs ls hW hl hI => hI H locs ls hW hl) hW hl hq)
  exact key _ _ _ hW hl
theorem k_X12_turned_0 {Q : Int32 → Prop} {x1 : Int32} {h : hp} (C : kC p s m args meth c cX12_turned 3 (some .int) RX12 wUX12_turned) (hK : kK G s) {H : Heap} {locs : List Loc} {ls : Array Slot} (hW : kW SM G h (aS SM G) s H locs) (hl : lv_has ls 3 [(0, .ref (G.2.2 0)), (1, .int x1)]) (hq : w_X12_turned_0 Q x1 h) : W p l e rmX12_turned s m args below meth c H locs 0 0 (MQ below (va_Qi (fun r9 h9 => h9 = h ∧ Q r9) (kB SM G) (aS SM G)) args s 0 0 (aS SM G)) (F0 m 0 ls []) := by
  have hx := C.1
  have hb := C.2.1
  unfold w_X12_turned_0 at hq
  refine lv_iconst (v := 1) hx hb dX12_turned_0 (by decide) ?_
  refine lv_istore_n (lv' := [(2, .int 1), (0, .ref (G.2.2 0)), (1, .int x1)]) hx hb dX12_turned_1 rfl hl (by decide) rfl (fun ls hl => ?_)
  exact k_X12_turned_2 C hK hW (lv_sub hl [1, 2, 0] rfl) hq
theorem c_X12_turned (l : Launch) (G : wG) (h : hp) (x1 : Int32) (Q : Int32 → Prop) (hq : w_X12_turned h x1 Q) : ctI l SM G yX12_turned wUX12_turned rmX12_turned h [.ref (G.2.2 0), .int x1] (fun r9 h9 => h9 = h ∧ Q r9) := by
  refine k_start (cc := cX12_turned) (maxL := 3) (rt := (some .int)) (own := RX12) (by decide +kernel) rfl rfl (Nat.le_of_ble_eq_true rfl) ?_
  intro p e s m below meth c ls C hK hW hl
  exact k_X12_turned_0 C hK hW hl hq
theorem k_X12_rowComes_b55 {Q : Int32 → Prop} {X5 : Int32 × Int32 → Prop} {X55 : Int32 × Int32 → Prop} {x1 : Int32} {x2 : Int32} {x3 : Int32} {x4 : Int32} {h : hp} (C : kC p s m args meth c cX12_rowComes 7 (some .int) RX12 wUX12_rowComes) (hK : kK G s) (hX5 : ∀ (x3 : Int32) (x4 : Int32) (H : Heap) (locs : List Loc) (ls : Array Slot), kW SM G h (aS SM G) s H locs → lv_has ls 7 [(0, .ref (G.2.2 0)), (1, .int x1), (2, .int x2), (3, .int x3), (4, .int x4)] → X5 (x3, x4) → W p l e rmX12_rowComes s m args below meth c H locs 0 0 (MQ below (va_Qi (fun r9 h9 => h9 = h ∧ Q r9) (kB SM G) (aS SM G)) args s 0 0 (aS SM G)) (F0 m 5 ls [])) (hX55 : ∀ (x5 : Int32) (x6 : Int32) (H : Heap) (locs : List Loc) (ls : Array Slot), kW SM G h (aS SM G) s H locs → lv_has ls 7 [(0, .ref (G.2.2 0)), (1, .int x1), (2, .int x2), (3, .int x3), (4, .int x4), (5, .int x5), (6, .int x6)] → X55 (x5, x6) → W p l e rmX12_rowComes s m args below meth c H locs 0 0 (MQ below (va_Qi (fun r9 h9 => h9 = h ∧ Q r9) (kB SM G) (aS SM G)) args s 0 0 (aS SM G)) (F0 m 55 ls [])) {x5 : Int32} {x6 : Int32} {H : Heap} {locs : List Loc} {ls : Array Slot} (hW : kW SM G h (aS SM G) s H locs) (hl : lv_has ls 7 [(0, .ref (G.2.2 0)), (1, .int x1), (2, .int x2), (3, .int x3), (4, .int x4), (5, .int x5), (6, .int x6)]) (hq : w_X12_rowComes_b55 Q X5 x1 x2 x3 x4 h X55 x5 x6) : W p l e rmX12_rowComes s m args below meth c H locs 0 0 (MQ below (va_Qi (fun r9 h9 => h9 = h ∧ Q r9) (kB SM G) (aS SM G)) args s 0 0 (aS SM G)) (F0 m 55 ls []) := by
  have hx := C.1
  have hb := C.2.1
  unfold w_X12_rowComes_b55 at hq
  refine lv_iload hx hb dX12_rowComes_55 (lv_at hl 6 rfl) ?_
  refine lv_aload_n hx hb dX12_rowComes_57 rfl (lv_at hl 0 rfl) ?_
  refine gt12_26 C hK hW (rfl : shM 0 = 12) (List.mem_cons_of_mem _ mw276) (fun _ h9 => List.mem_cons_of_mem _ (inU_wsX120 _ h9)) dX12_rowComes_58 ?_
  refine lv_aload_n hx hb dX12_rowComes_61 rfl (lv_at hl 0 rfl) ?_
  refine gt12_18 C hK hW (rfl : shM 0 = 12) (List.mem_cons_of_mem _ mw610) (fun _ h9 => List.mem_cons_of_mem _ (inU_wsX120 _ h9)) dX12_rowComes_62 ?_
  refine k_iald C hK hW (shM_lt (rfl : shM 13 = 14) (by decide)) (ceM_14 (rfl : shM 13 = 14) (rfl : lnM 13 = 2)) hq.1 dX12_rowComes_65 ?_
  have hq := hq.2
  refine lv_icmp_ge (tgt := 172) hx hb dX12_rowComes_66 (by decide) (fun c6 => ?_) (fun c6 => ?_)
  · have hq := hq.1 c6
    refine lv_aload_n hx hb dX12_rowComes_172 rfl (lv_at hl 0 rfl) ?_
    refine lv_iload_n hx hb dX12_rowComes_173 rfl (lv_at hl 3 rfl) ?_
    refine lv_iload hx hb dX12_rowComes_174 (lv_at hl 5 rfl) ?_
    refine lv_iadd hx hb dX12_rowComes_176 ?_
    refine k_ci hW (va_runV (As := [.int (x3 + x5)]) (rest := []) (k_fix C) (c_X12_restOf l G h (x3 + x5) _ hq) (cwV 1 C.2.2.2.2.2.1 (gU_V mw1277 mw1278 mw1279 mw5 mw1280) rfl rfl rfl (by decide +kernel) ⟨Nat.le_of_ble_eq_true rfl, Nat.le_of_ble_eq_true rfl⟩) (k_preV hK hW (shM_lt (rfl : shM 0 = 12) (by decide)) (ceM_12 (rfl : shM 0 = 12)) (q := (RX12, TX12, 73)) rfl) rfl rfl hl.1 rfl (lv_room (Nat.le_of_ble_eq_true rfl)) dX12_rowComes_177 ⟨Nat.le_refl 0, Nat.le_refl 0⟩) (fun r7 h8 H locs hq hW => ?_)
    rw [hq.1] at hW
    have hq := hq.2
    refine lv_istore_n (lv' := [(3, .int r7), (0, .ref (G.2.2 0)), (1, .int x1), (2, .int x2), (4, .int x4), (5, .int x5), (6, .int x6)]) hx hb dX12_rowComes_180 rfl hl (by decide) rfl (fun ls hl => ?_)
    obtain ⟨x4_9, ex4_9⟩ : ∃ y : Int32, y = x4 + 1 := ⟨_, rfl⟩
    have hq := hq x4_9 ex4_9
    refine lv_iinc (v := x4_9) (lv' := [(4, .int x4_9), (3, .int r7), (0, .ref (G.2.2 0)), (1, .int x1), (2, .int x2), (5, .int x5), (6, .int x6)]) hx hb dX12_rowComes_181 hl (k := 4) rfl (by rw [ex4_9]; rfl) (by decide) rfl (fun ls hl => ?_)
    refine lv_goto (tgt := 5) hx hb dX12_rowComes_184 (by decide) ?_
    exact hX5 _ _ _ _ _ hW (lv_sub hl [2, 3, 4, 1, 0] rfl) hq
  · have hq := hq.2 c6
    refine lv_iload hx hb dX12_rowComes_69 (lv_at hl 6 rfl) ?_
    refine lv_iload hx hb dX12_rowComes_71 (lv_at hl 4 rfl) ?_
    refine lv_icmp_eq (tgt := 166) hx hb dX12_rowComes_73 (by decide) (fun c10 => ?_) (fun c10 => ?_)
    · have hq := hq.1 c10
      obtain ⟨x6_11, ex6_11⟩ : ∃ y : Int32, y = x6 + 1 := ⟨_, rfl⟩
      have hq := hq x6_11 ex6_11
      refine lv_iinc (v := x6_11) (lv' := [(6, .int x6_11), (0, .ref (G.2.2 0)), (1, .int x1), (2, .int x2), (3, .int x3), (4, .int x4), (5, .int x5)]) hx hb dX12_rowComes_166 hl (k := 6) rfl (by rw [ex6_11]; rfl) (by decide) rfl (fun ls hl => ?_)
      refine lv_goto (tgt := 55) hx hb dX12_rowComes_169 (by decide) ?_
      exact hX55 _ _ _ _ _ hW (lv_sub hl [1, 2, 3, 4, 5, 6, 0] rfl) hq
    · have hq := hq.2 c10
      refine lv_iload_n hx hb dX12_rowComes_76 rfl (lv_at hl 1 rfl) ?_
      refine lv_iload hx hb dX12_rowComes_77 (lv_at hl 6 rfl) ?_
      refine k_ishr hx hb dX12_rowComes_79 ?_
      refine lv_iconst (v := 1) hx hb dX12_rowComes_80 (by decide) ?_
      refine lv_iand hx hb dX12_rowComes_81 ?_
      refine lv_if_ne (tgt := 88) hx hb dX12_rowComes_82 (by decide) (fun c12 => ?_) (fun c12 => ?_)
      · have hq := hq.1 c12
        refine lv_aload_n hx hb dX12_rowComes_88 rfl (lv_at hl 0 rfl) ?_
        refine lv_iload hx hb dX12_rowComes_89 (lv_at hl 5 rfl) ?_
        refine lv_aload_n hx hb dX12_rowComes_91 rfl (lv_at hl 0 rfl) ?_
        refine lv_iload_n hx hb dX12_rowComes_92 rfl (lv_at hl 2 rfl) ?_
        refine lv_aload_n hx hb dX12_rowComes_93 rfl (lv_at hl 0 rfl) ?_
        refine gt12_27 C hK hW (rfl : shM 0 = 12) (List.mem_cons_of_mem _ mw277) (fun _ h9 => List.mem_cons_of_mem _ (inU_wsX120 _ h9)) dX12_rowComes_94 ?_
        refine lv_bipush (v := 8) hx hb dX12_rowComes_97 (by decide) ?_
        refine lv_aload_n hx hb dX12_rowComes_99 rfl (lv_at hl 0 rfl) ?_
        refine gt12_18 C hK hW (rfl : shM 0 = 12) (List.mem_cons_of_mem _ mw610) (fun _ h9 => List.mem_cons_of_mem _ (inU_wsX120 _ h9)) dX12_rowComes_100 ?_
        refine lv_imul hx hb dX12_rowComes_103 ?_
        refine lv_iload hx hb dX12_rowComes_104 (lv_at hl 6 rfl) ?_
        refine lv_iadd hx hb dX12_rowComes_106 ?_
        refine k_iald C hK hW (shM_lt (rfl : shM 14 = 14) (by decide)) (ceM_14 (rfl : shM 14 = 14) (rfl : lnM 14 = 16)) hq.1 dX12_rowComes_107 ?_
        have hq := hq.2
        refine lv_isub hx hb dX12_rowComes_108 ?_
        refine k_ci hW (va_runV (As := [.int (x2 - (gI h 14 (ix ((8 * (gI h 0 18)) + x6))))]) (rest := [.int x5, .ref (G.2.2 0)]) (k_fix C) (c_X12_restOf l G h (x2 - (gI h 14 (ix ((8 * (gI h 0 18)) + x6)))) _ hq) (cwV 1 C.2.2.2.2.2.1 (gU_V mw1277 mw1278 mw1279 mw5 mw1280) rfl rfl rfl (by decide +kernel) ⟨Nat.le_of_ble_eq_true rfl, Nat.le_of_ble_eq_true rfl⟩) (k_preV hK hW (shM_lt (rfl : shM 0 = 12) (by decide)) (ceM_12 (rfl : shM 0 = 12)) (q := (RX12, TX12, 73)) rfl) rfl rfl hl.1 rfl (lv_room (Nat.le_of_ble_eq_true rfl)) dX12_rowComes_109 ⟨Nat.le_refl 0, Nat.le_refl 0⟩) (fun r13 h14 H locs hq hW => ?_)
        rw [hq.1] at hW
        have hq := hq.2
        refine lv_imul hx hb dX12_rowComes_112 ?_
        refine k_ci hW (va_runV (As := [.int (x5 * r13)]) (rest := []) (k_fix C) (c_X12_restOf l G h (x5 * r13) _ hq) (cwV 1 C.2.2.2.2.2.1 (gU_V mw1277 mw1278 mw1279 mw5 mw1280) rfl rfl rfl (by decide +kernel) ⟨Nat.le_of_ble_eq_true rfl, Nat.le_of_ble_eq_true rfl⟩) (k_preV hK hW (shM_lt (rfl : shM 0 = 12) (by decide)) (ceM_12 (rfl : shM 0 = 12)) (q := (RX12, TX12, 73)) rfl) rfl rfl hl.1 rfl (lv_room (Nat.le_of_ble_eq_true rfl)) dX12_rowComes_113 ⟨Nat.le_refl 0, Nat.le_refl 0⟩) (fun r15 h16 H locs hq hW => ?_)
        rw [hq.1] at hW
        have hq := hq.2
        refine lv_istore (lv' := [(5, .int r15), (0, .ref (G.2.2 0)), (1, .int x1), (2, .int x2), (3, .int x3), (4, .int x4), (6, .int x6)]) hx hb dX12_rowComes_116 hl (by decide) rfl (fun ls hl => ?_)
        refine lv_aload_n hx hb dX12_rowComes_118 rfl (lv_at hl 1 rfl) ?_
        refine lv_iload hx hb dX12_rowComes_119 (lv_at hl 0 rfl) ?_
        refine lv_aload_n hx hb dX12_rowComes_121 rfl (lv_at hl 1 rfl) ?_
        refine lv_aload_n hx hb dX12_rowComes_122 rfl (lv_at hl 1 rfl) ?_
        refine lv_aload_n hx hb dX12_rowComes_123 rfl (lv_at hl 1 rfl) ?_
        refine gt12_27 C hK hW (rfl : shM 0 = 12) (List.mem_cons_of_mem _ mw277) (fun _ h9 => List.mem_cons_of_mem _ (inU_wsX120 _ h9)) dX12_rowComes_124 ?_
        refine lv_bipush (v := 8) hx hb dX12_rowComes_127 (by decide) ?_
        refine lv_aload_n hx hb dX12_rowComes_129 rfl (lv_at hl 1 rfl) ?_
        refine gt12_18 C hK hW (rfl : shM 0 = 12) (List.mem_cons_of_mem _ mw610) (fun _ h9 => List.mem_cons_of_mem _ (inU_wsX120 _ h9)) dX12_rowComes_130 ?_
        refine lv_imul hx hb dX12_rowComes_133 ?_
        refine lv_iload hx hb dX12_rowComes_134 (lv_at hl 5 rfl) ?_
        refine lv_iadd hx hb dX12_rowComes_136 ?_
        refine k_iald C hK hW (shM_lt (rfl : shM 14 = 14) (by decide)) (ceM_14 (rfl : shM 14 = 14) (rfl : lnM 14 = 16)) hq.1 dX12_rowComes_137 ?_
        have hq := hq.2
        refine lv_aload_n hx hb dX12_rowComes_138 rfl (lv_at hl 1 rfl) ?_
        refine gt12_27 C hK hW (rfl : shM 0 = 12) (List.mem_cons_of_mem _ mw277) (fun _ h9 => List.mem_cons_of_mem _ (inU_wsX120 _ h9)) dX12_rowComes_139 ?_
        refine lv_bipush (v := 8) hx hb dX12_rowComes_142 (by decide) ?_
        refine lv_aload_n hx hb dX12_rowComes_144 rfl (lv_at hl 1 rfl) ?_
        refine gt12_18 C hK hW (rfl : shM 0 = 12) (List.mem_cons_of_mem _ mw610) (fun _ h9 => List.mem_cons_of_mem _ (inU_wsX120 _ h9)) dX12_rowComes_145 ?_
        refine lv_imul hx hb dX12_rowComes_148 ?_
        refine lv_iload hx hb dX12_rowComes_149 (lv_at hl 6 rfl) ?_
        refine lv_iadd hx hb dX12_rowComes_151 ?_
        refine k_iald C hK hW (shM_lt (rfl : shM 14 = 14) (by decide)) (ceM_14 (rfl : shM 14 = 14) (rfl : lnM 14 = 16)) hq.1 dX12_rowComes_152 ?_
        have hq := hq.2
        refine lv_isub hx hb dX12_rowComes_153 ?_
        refine k_ci hW (va_runV (As := [.int ((gI h 14 (ix ((8 * (gI h 0 18)) + x4))) - (gI h 14 (ix ((8 * (gI h 0 18)) + x6))))]) (rest := [.ref (G.2.2 0), .int r15, .ref (G.2.2 0)]) (k_fix C) (c_X12_restOf l G h ((gI h 14 (ix ((8 * (gI h 0 18)) + x4))) - (gI h 14 (ix ((8 * (gI h 0 18)) + x6)))) _ hq) (cwV 1 C.2.2.2.2.2.1 (gU_V mw1277 mw1278 mw1279 mw5 mw1280) rfl rfl rfl (by decide +kernel) ⟨Nat.le_of_ble_eq_true rfl, Nat.le_of_ble_eq_true rfl⟩) (k_preV hK hW (shM_lt (rfl : shM 0 = 12) (by decide)) (ceM_12 (rfl : shM 0 = 12)) (q := (RX12, TX12, 73)) rfl) rfl rfl hl.1 rfl (lv_room (Nat.le_of_ble_eq_true rfl)) dX12_rowComes_154 ⟨Nat.le_refl 0, Nat.le_refl 0⟩) (fun r17 h18 H locs hq hW => ?_)
        rw [hq.1] at hW
        have hq := hq.2
        refine k_ci hW (va_runV (As := [.int r17]) (rest := [.int r15, .ref (G.2.2 0)]) (k_fix C) (c_X12_turned l G h r17 _ hq) (cwV 1 C.2.2.2.2.2.1 (gU_V mw1281 mw1282 mw1283 mw5 mw1284) rfl rfl rfl (by decide +kernel) ⟨Nat.le_of_ble_eq_true rfl, Nat.le_of_ble_eq_true rfl⟩) (k_preV hK hW (shM_lt (rfl : shM 0 = 12) (by decide)) (ceM_12 (rfl : shM 0 = 12)) (q := (RX12, TX12, 73)) rfl) rfl rfl hl.1 rfl (lv_room (Nat.le_of_ble_eq_true rfl)) dX12_rowComes_157 ⟨Nat.le_refl 0, Nat.le_refl 0⟩) (fun r19 h20 H locs hq hW => ?_)
        rw [hq.1] at hW
        have hq := hq.2
        refine lv_imul hx hb dX12_rowComes_160 ?_
        refine k_ci hW (va_runV (As := [.int (r15 * r19)]) (rest := []) (k_fix C) (c_X12_restOf l G h (r15 * r19) _ hq) (cwV 1 C.2.2.2.2.2.1 (gU_V mw1277 mw1278 mw1279 mw5 mw1280) rfl rfl rfl (by decide +kernel) ⟨Nat.le_of_ble_eq_true rfl, Nat.le_of_ble_eq_true rfl⟩) (k_preV hK hW (shM_lt (rfl : shM 0 = 12) (by decide)) (ceM_12 (rfl : shM 0 = 12)) (q := (RX12, TX12, 73)) rfl) rfl rfl hl.1 rfl (lv_room (Nat.le_of_ble_eq_true rfl)) dX12_rowComes_161 ⟨Nat.le_refl 0, Nat.le_refl 0⟩) (fun r21 h22 H locs hq hW => ?_)
        rw [hq.1] at hW
        have hq := hq.2
        refine lv_istore (lv' := [(5, .int r21), (0, .ref (G.2.2 0)), (1, .int x1), (2, .int x2), (3, .int x3), (4, .int x4), (6, .int x6)]) hx hb dX12_rowComes_164 hl (by decide) rfl (fun ls hl => ?_)
        obtain ⟨x6_23, ex6_23⟩ : ∃ y : Int32, y = x6 + 1 := ⟨_, rfl⟩
        have hq := hq x6_23 ex6_23
        refine lv_iinc (v := x6_23) (lv' := [(6, .int x6_23), (5, .int r21), (0, .ref (G.2.2 0)), (1, .int x1), (2, .int x2), (3, .int x3), (4, .int x4)]) hx hb dX12_rowComes_166 hl (k := 6) rfl (by rw [ex6_23]; rfl) (by decide) rfl (fun ls hl => ?_)
        refine lv_goto (tgt := 55) hx hb dX12_rowComes_169 (by decide) ?_
        exact hX55 _ _ _ _ _ hW (lv_sub hl [2, 3, 4, 5, 6, 1, 0] rfl) hq
      · have hq := hq.2 c12
        refine lv_goto (tgt := 166) hx hb dX12_rowComes_85 (by decide) ?_
        obtain ⟨x6_24, ex6_24⟩ : ∃ y : Int32, y = x6 + 1 := ⟨_, rfl⟩
        have hq := hq x6_24 ex6_24
        refine lv_iinc (v := x6_24) (lv' := [(6, .int x6_24), (0, .ref (G.2.2 0)), (1, .int x1), (2, .int x2), (3, .int x3), (4, .int x4), (5, .int x5)]) hx hb dX12_rowComes_166 hl (k := 6) rfl (by rw [ex6_24]; rfl) (by decide) rfl (fun ls hl => ?_)
        refine lv_goto (tgt := 55) hx hb dX12_rowComes_169 (by decide) ?_
        exact hX55 _ _ _ _ _ hW (lv_sub hl [1, 2, 3, 4, 5, 6, 0] rfl) hq
theorem k_X12_rowComes_55 {Q : Int32 → Prop} {X5 : Int32 × Int32 → Prop} {x1 : Int32} {x2 : Int32} {x3 : Int32} {x4 : Int32} {h : hp} (C : kC p s m args meth c cX12_rowComes 7 (some .int) RX12 wUX12_rowComes) (hK : kK G s) (hX5 : ∀ (x3 : Int32) (x4 : Int32) (H : Heap) (locs : List Loc) (ls : Array Slot), kW SM G h (aS SM G) s H locs → lv_has ls 7 [(0, .ref (G.2.2 0)), (1, .int x1), (2, .int x2), (3, .int x3), (4, .int x4)] → X5 (x3, x4) → W p l e rmX12_rowComes s m args below meth c H locs 0 0 (MQ below (va_Qi (fun r9 h9 => h9 = h ∧ Q r9) (kB SM G) (aS SM G)) args s 0 0 (aS SM G)) (F0 m 5 ls [])) {x5 : Int32} {x6 : Int32} {H : Heap} {locs : List Loc} {ls : Array Slot} (hW : kW SM G h (aS SM G) s H locs) (hl : lv_has ls 7 [(0, .ref (G.2.2 0)), (1, .int x1), (2, .int x2), (3, .int x3), (4, .int x4), (5, .int x5), (6, .int x6)]) (hq : w_X12_rowComes_55 Q X5 x1 x2 x3 x4 h x5 x6) : W p l e rmX12_rowComes s m args below meth c H locs 0 0 (MQ below (va_Qi (fun r9 h9 => h9 = h ∧ Q r9) (kB SM G) (aS SM G)) args s 0 0 (aS SM G)) (F0 m 55 ls []) := by
  have key := hq (fun (q : Int32 × Int32) => ∀ (H : Heap) (locs : List Loc) (ls : Array Slot), kW SM G h (aS SM G) s H locs → lv_has ls 7 [(0, .ref (G.2.2 0)), (1, .int x1), (2, .int x2), (3, .int x3), (4, .int x4), (5, .int q.1), (6, .int q.2)] → W p l e rmX12_rowComes s m args below meth c H locs 0 0 (MQ below (va_Qi (fun r9 h9 => h9 = h ∧ Q r9) (kB SM G) (aS SM G)) args s 0 0 (aS SM G)) (F0 m 55 ls []))
    (fun q hq H locs ls hW hl => k_X12_rowComes_b55 C hK hX5 (fun x5 x6 H locs ls hW hl hI => hI H locs ls hW hl) hW hl hq)
  exact key _ _ _ hW hl
theorem k_X12_rowComes_b5 {Q : Int32 → Prop} {X5 : Int32 × Int32 → Prop} {x1 : Int32} {x2 : Int32} {h : hp} (C : kC p s m args meth c cX12_rowComes 7 (some .int) RX12 wUX12_rowComes) (hK : kK G s) (hX5 : ∀ (x3 : Int32) (x4 : Int32) (H : Heap) (locs : List Loc) (ls : Array Slot), kW SM G h (aS SM G) s H locs → lv_has ls 7 [(0, .ref (G.2.2 0)), (1, .int x1), (2, .int x2), (3, .int x3), (4, .int x4)] → X5 (x3, x4) → W p l e rmX12_rowComes s m args below meth c H locs 0 0 (MQ below (va_Qi (fun r9 h9 => h9 = h ∧ Q r9) (kB SM G) (aS SM G)) args s 0 0 (aS SM G)) (F0 m 5 ls [])) {x3 : Int32} {x4 : Int32} {H : Heap} {locs : List Loc} {ls : Array Slot} (hW : kW SM G h (aS SM G) s H locs) (hl : lv_has ls 7 [(0, .ref (G.2.2 0)), (1, .int x1), (2, .int x2), (3, .int x3), (4, .int x4)]) (hq : w_X12_rowComes_b5 Q x1 x2 h X5 x3 x4) : W p l e rmX12_rowComes s m args below meth c H locs 0 0 (MQ below (va_Qi (fun r9 h9 => h9 = h ∧ Q r9) (kB SM G) (aS SM G)) args s 0 0 (aS SM G)) (F0 m 5 ls []) := by
  have hx := C.1
  have hb := C.2.1
  unfold w_X12_rowComes_b5 at hq
  refine lv_iload hx hb dX12_rowComes_5 (lv_at hl 4 rfl) ?_
  refine lv_aload_n hx hb dX12_rowComes_7 rfl (lv_at hl 0 rfl) ?_
  refine gt12_26 C hK hW (rfl : shM 0 = 12) (List.mem_cons_of_mem _ mw276) (fun _ h9 => List.mem_cons_of_mem _ (inU_wsX120 _ h9)) dX12_rowComes_8 ?_
  refine lv_aload_n hx hb dX12_rowComes_11 rfl (lv_at hl 0 rfl) ?_
  refine gt12_18 C hK hW (rfl : shM 0 = 12) (List.mem_cons_of_mem _ mw610) (fun _ h9 => List.mem_cons_of_mem _ (inU_wsX120 _ h9)) dX12_rowComes_12 ?_
  refine k_iald C hK hW (shM_lt (rfl : shM 13 = 14) (by decide)) (ceM_14 (rfl : shM 13 = 14) (rfl : lnM 13 = 2)) hq.1 dX12_rowComes_15 ?_
  have hq := hq.2
  refine lv_icmp_ge (tgt := 187) hx hb dX12_rowComes_16 (by decide) (fun c1 => ?_) (fun c1 => ?_)
  · have hq := hq.1 c1
    refine lv_iload_n hx hb dX12_rowComes_187 rfl (lv_at hl 3 rfl) ?_
    exact k_iret rfl C hW dX12_rowComes_188 ⟨rfl, hq⟩
  · have hq := hq.2 c1
    refine lv_iload_n hx hb dX12_rowComes_19 rfl (lv_at hl 1 rfl) ?_
    refine lv_iload hx hb dX12_rowComes_20 (lv_at hl 4 rfl) ?_
    refine k_ishr hx hb dX12_rowComes_22 ?_
    refine lv_iconst (v := 1) hx hb dX12_rowComes_23 (by decide) ?_
    refine lv_iand hx hb dX12_rowComes_24 ?_
    refine lv_if_ne (tgt := 31) hx hb dX12_rowComes_25 (by decide) (fun c2 => ?_) (fun c2 => ?_)
    · have hq := hq.1 c2
      refine lv_aload_n hx hb dX12_rowComes_31 rfl (lv_at hl 0 rfl) ?_
      refine lv_aload_n hx hb dX12_rowComes_32 rfl (lv_at hl 0 rfl) ?_
      refine gt12_28 C hK hW (rfl : shM 0 = 12) (List.mem_cons_of_mem _ mw278) (fun _ h9 => List.mem_cons_of_mem _ (inU_wsX120 _ h9)) dX12_rowComes_33 ?_
      refine lv_bipush (v := 8) hx hb dX12_rowComes_36 (by decide) ?_
      refine lv_aload_n hx hb dX12_rowComes_38 rfl (lv_at hl 0 rfl) ?_
      refine gt12_18 C hK hW (rfl : shM 0 = 12) (List.mem_cons_of_mem _ mw610) (fun _ h9 => List.mem_cons_of_mem _ (inU_wsX120 _ h9)) dX12_rowComes_39 ?_
      refine lv_imul hx hb dX12_rowComes_42 ?_
      refine lv_iload hx hb dX12_rowComes_43 (lv_at hl 4 rfl) ?_
      refine lv_iadd hx hb dX12_rowComes_45 ?_
      refine k_iald C hK hW (shM_lt (rfl : shM 15 = 14) (by decide)) (ceM_14 (rfl : shM 15 = 14) (rfl : lnM 15 = 16)) hq.1 dX12_rowComes_46 ?_
      have hq := hq.2
      refine k_ci hW (va_runV (As := [.int (gI h 15 (ix ((8 * (gI h 0 18)) + x4)))]) (rest := []) (k_fix C) (c_X12_restOf l G h (gI h 15 (ix ((8 * (gI h 0 18)) + x4))) _ hq) (cwV 1 C.2.2.2.2.2.1 (gU_V mw1277 mw1278 mw1279 mw5 mw1280) rfl rfl rfl (by decide +kernel) ⟨Nat.le_of_ble_eq_true rfl, Nat.le_of_ble_eq_true rfl⟩) (k_preV hK hW (shM_lt (rfl : shM 0 = 12) (by decide)) (ceM_12 (rfl : shM 0 = 12)) (q := (RX12, TX12, 73)) rfl) rfl rfl hl.1 rfl (lv_room (Nat.le_of_ble_eq_true rfl)) dX12_rowComes_47 ⟨Nat.le_refl 0, Nat.le_refl 0⟩) (fun r3 h4 H locs hq hW => ?_)
      rw [hq.1] at hW
      have hq := hq.2
      refine lv_istore (lv' := [(5, .int r3), (0, .ref (G.2.2 0)), (1, .int x1), (2, .int x2), (3, .int x3), (4, .int x4)]) hx hb dX12_rowComes_50 hl (by decide) rfl (fun ls hl => ?_)
      refine lv_iconst (v := 0) hx hb dX12_rowComes_52 (by decide) ?_
      refine lv_istore (lv' := [(6, .int 0), (5, .int r3), (0, .ref (G.2.2 0)), (1, .int x1), (2, .int x2), (3, .int x3), (4, .int x4)]) hx hb dX12_rowComes_53 hl (by decide) rfl (fun ls hl => ?_)
      exact k_X12_rowComes_55 C hK hX5 hW (lv_sub hl [2, 3, 4, 5, 6, 1, 0] rfl) hq
    · have hq := hq.2 c2
      refine lv_goto (tgt := 181) hx hb dX12_rowComes_28 (by decide) ?_
      obtain ⟨x4_5, ex4_5⟩ : ∃ y : Int32, y = x4 + 1 := ⟨_, rfl⟩
      have hq := hq x4_5 ex4_5
      refine lv_iinc (v := x4_5) (lv' := [(4, .int x4_5), (0, .ref (G.2.2 0)), (1, .int x1), (2, .int x2), (3, .int x3)]) hx hb dX12_rowComes_181 hl (k := 4) rfl (by rw [ex4_5]; rfl) (by decide) rfl (fun ls hl => ?_)
      refine lv_goto (tgt := 5) hx hb dX12_rowComes_184 (by decide) ?_
      exact hX5 _ _ _ _ _ hW (lv_sub hl [1, 2, 3, 4, 0] rfl) hq
theorem k_X12_rowComes_5 {Q : Int32 → Prop} {x1 : Int32} {x2 : Int32} {h : hp} (C : kC p s m args meth c cX12_rowComes 7 (some .int) RX12 wUX12_rowComes) (hK : kK G s) {x3 : Int32} {x4 : Int32} {H : Heap} {locs : List Loc} {ls : Array Slot} (hW : kW SM G h (aS SM G) s H locs) (hl : lv_has ls 7 [(0, .ref (G.2.2 0)), (1, .int x1), (2, .int x2), (3, .int x3), (4, .int x4)]) (hq : w_X12_rowComes_5 Q x1 x2 h x3 x4) : W p l e rmX12_rowComes s m args below meth c H locs 0 0 (MQ below (va_Qi (fun r9 h9 => h9 = h ∧ Q r9) (kB SM G) (aS SM G)) args s 0 0 (aS SM G)) (F0 m 5 ls []) := by
  have key := hq (fun (q : Int32 × Int32) => ∀ (H : Heap) (locs : List Loc) (ls : Array Slot), kW SM G h (aS SM G) s H locs → lv_has ls 7 [(0, .ref (G.2.2 0)), (1, .int x1), (2, .int x2), (3, .int q.1), (4, .int q.2)] → W p l e rmX12_rowComes s m args below meth c H locs 0 0 (MQ below (va_Qi (fun r9 h9 => h9 = h ∧ Q r9) (kB SM G) (aS SM G)) args s 0 0 (aS SM G)) (F0 m 5 ls []))
    (fun q hq H locs ls hW hl => k_X12_rowComes_b5 C hK (fun x3 x4 H locs ls hW hl hI => hI H locs ls hW hl) hW hl hq)
  exact key _ _ _ hW hl
theorem k_X12_rowComes_0 {Q : Int32 → Prop} {x1 : Int32} {x2 : Int32} {h : hp} (C : kC p s m args meth c cX12_rowComes 7 (some .int) RX12 wUX12_rowComes) (hK : kK G s) {H : Heap} {locs : List Loc} {ls : Array Slot} (hW : kW SM G h (aS SM G) s H locs) (hl : lv_has ls 7 [(0, .ref (G.2.2 0)), (1, .int x1), (2, .int x2)]) (hq : w_X12_rowComes_0 Q x1 x2 h) : W p l e rmX12_rowComes s m args below meth c H locs 0 0 (MQ below (va_Qi (fun r9 h9 => h9 = h ∧ Q r9) (kB SM G) (aS SM G)) args s 0 0 (aS SM G)) (F0 m 0 ls []) := by
  have hx := C.1
  have hb := C.2.1
  unfold w_X12_rowComes_0 at hq
  refine lv_iconst (v := 0) hx hb dX12_rowComes_0 (by decide) ?_
  refine lv_istore_n (lv' := [(3, .int 0), (0, .ref (G.2.2 0)), (1, .int x1), (2, .int x2)]) hx hb dX12_rowComes_1 rfl hl (by decide) rfl (fun ls hl => ?_)
  refine lv_iconst (v := 0) hx hb dX12_rowComes_2 (by decide) ?_
  refine lv_istore (lv' := [(4, .int 0), (3, .int 0), (0, .ref (G.2.2 0)), (1, .int x1), (2, .int x2)]) hx hb dX12_rowComes_3 hl (by decide) rfl (fun ls hl => ?_)
  exact k_X12_rowComes_5 C hK hW (lv_sub hl [2, 3, 4, 1, 0] rfl) hq
theorem c_X12_rowComes (l : Launch) (G : wG) (h : hp) (x1 : Int32) (x2 : Int32) (Q : Int32 → Prop) (hq : w_X12_rowComes h x1 x2 Q) : ctI l SM G yX12_rowComes wUX12_rowComes rmX12_rowComes h [.ref (G.2.2 0), .int x1, .int x2] (fun r9 h9 => h9 = h ∧ Q r9) := by
  refine k_start (cc := cX12_rowComes) (maxL := 7) (rt := (some .int)) (own := RX12) (by decide +kernel) rfl rfl (Nat.le_of_ble_eq_true rfl) ?_
  intro p e s m below meth c ls C hK hW hl
  exact k_X12_rowComes_0 C hK hW hl hq
theorem k_X12_isSet_0 {Q : Int32 → Prop} {x1 : Int32} {h : hp} (C : kC p s m args meth c cX12_isSet 2 (some .boolean) RX12 wUX12_isSet) (hK : kK G s) {H : Heap} {locs : List Loc} {ls : Array Slot} (hW : kW SM G h (aS SM G) s H locs) (hl : lv_has ls 2 [(0, .ref (G.2.2 0)), (1, .int x1)]) (hq : w_X12_isSet_0 Q x1 h) : W p l e rmX12_isSet s m args below meth c H locs 0 0 (MQ below (va_Qi (fun r9 h9 => h9 = h ∧ Q r9) (kB SM G) (aS SM G)) args s 0 0 (aS SM G)) (F0 m 0 ls []) := by
  have hx := C.1
  have hb := C.2.1
  unfold w_X12_isSet_0 at hq
  refine lv_iload_n hx hb dX12_isSet_0 rfl (lv_at hl 1 rfl) ?_
  refine lv_i2l (v := x1.toInt64) hx hb dX12_isSet_1 rfl ?_
  refine lv_lconst (v := 1) hx hb dX12_isSet_2 (by decide) ?_
  refine lv_iconst (v := 1) hx hb dX12_isSet_3 (by decide) ?_
  refine lv_aload_n hx hb dX12_isSet_4 rfl (lv_at hl 0 rfl) ?_
  refine gt12_26 C hK hW (rfl : shM 0 = 12) (List.mem_cons_of_mem _ mw276) (fun _ h9 => List.mem_cons_of_mem _ (inU_wsX120 _ h9)) dX12_isSet_5 ?_
  refine lv_aload_n hx hb dX12_isSet_8 rfl (lv_at hl 0 rfl) ?_
  refine gt12_18 C hK hW (rfl : shM 0 = 12) (List.mem_cons_of_mem _ mw610) (fun _ h9 => List.mem_cons_of_mem _ (inU_wsX120 _ h9)) dX12_isSet_9 ?_
  refine k_iald C hK hW (shM_lt (rfl : shM 13 = 14) (by decide)) (ceM_14 (rfl : shM 13 = 14) (rfl : lnM 13 = 2)) hq.1 dX12_isSet_12 ?_
  have hq := hq.2
  refine k_ishl hx hb dX12_isSet_13 ?_
  refine lv_iconst (v := 1) hx hb dX12_isSet_14 (by decide) ?_
  refine lv_isub hx hb dX12_isSet_15 ?_
  refine lv_i2l (v := ((jshl 1 (gI h 13 (ix (gI h 0 18)))) - 1).toInt64) hx hb dX12_isSet_16 rfl ?_
  refine k_ci hW (va_runS (As := [.long (x1.toInt64), .long 1, .long (((jshl 1 (gI h 13 (ix (gI h 0 18)))) - 1).toInt64)]) (rest := []) (k_fix C) (c_X12_in l G h (x1.toInt64) 1 (((jshl 1 (gI h 13 (ix (gI h 0 18)))) - 1).toInt64) _ hq) (va_cwS 3 C.2.2.2.2.2.1 (gU_S mw762 mw763 mw5 mw764) rfl rfl rfl (by decide +kernel) ⟨Nat.le_of_ble_eq_true rfl, Nat.le_of_ble_eq_true rfl⟩) (k_preS hK hW) rfl rfl hl.1 rfl (lv_room (Nat.le_of_ble_eq_true rfl)) dX12_isSet_17 ⟨Nat.le_refl 0, Nat.le_refl 0⟩) (fun r1 h2 H locs hq hW => ?_)
  rw [hq.1] at hW
  have hq := hq.2
  refine lv_if_eq (tgt := 36) hx hb dX12_isSet_20 (by decide) (fun c3 => ?_) (fun c3 => ?_)
  · have hq := hq.1 c3
    refine lv_iconst (v := 0) hx hb dX12_isSet_36 (by decide) ?_
    exact k_zret rfl isZ_0.1 C hW dX12_isSet_37 ⟨rfl, hq⟩
  · have hq := hq.2 c3
    refine lv_iload_n hx hb dX12_isSet_23 rfl (lv_at hl 1 rfl) ?_
    refine k_ci hW (va_runS (As := [.int x1]) (rest := []) (k_fix C) (c_X12_bits l G h x1 _ hq) (va_cwS 1 C.2.2.2.2.2.1 (gU_S mw1270 mw1271 mw5 mw1272) rfl rfl rfl (by decide +kernel) ⟨Nat.le_of_ble_eq_true rfl, Nat.le_of_ble_eq_true rfl⟩) (k_preS hK hW) rfl rfl hl.1 rfl (lv_room (Nat.le_of_ble_eq_true rfl)) dX12_isSet_24 ⟨Nat.le_refl 0, Nat.le_refl 0⟩) (fun r4 h5 H locs hq hW => ?_)
    rw [hq.1] at hW
    have hq := hq.2
    refine lv_bipush (v := 7) hx hb dX12_isSet_27 (by decide) ?_
    refine lv_icmp_ge (tgt := 36) hx hb dX12_isSet_29 (by decide) (fun c6 => ?_) (fun c6 => ?_)
    · have hq := hq.1 c6
      refine lv_iconst (v := 0) hx hb dX12_isSet_36 (by decide) ?_
      exact k_zret rfl isZ_0.1 C hW dX12_isSet_37 ⟨rfl, hq⟩
    · have hq := hq.2 c6
      refine lv_iconst (v := 1) hx hb dX12_isSet_32 (by decide) ?_
      refine lv_goto (tgt := 37) hx hb dX12_isSet_33 (by decide) ?_
      exact k_zret rfl isZ_1.1 C hW dX12_isSet_37 ⟨rfl, hq⟩
theorem c_X12_isSet (l : Launch) (G : wG) (h : hp) (x1 : Int32) (Q : Int32 → Prop) (hq : w_X12_isSet h x1 Q) : ctI l SM G yX12_isSet wUX12_isSet rmX12_isSet h [.ref (G.2.2 0), .int x1] (fun r9 h9 => h9 = h ∧ Q r9) := by
  refine k_start (cc := cX12_isSet) (maxL := 2) (rt := (some .boolean)) (own := RX12) (by decide +kernel) rfl rfl (Nat.le_of_ble_eq_true rfl) ?_
  intro p e s m below meth c ls C hK hW hl
  exact k_X12_isSet_0 C hK hW hl hq
theorem k_X12_secret_0 {Q : Int32 → Prop} {x1 : Int32} {h : hp} (C : kC p s m args meth c cX12_secret 2 (some .int) RX12 wUX12_secret) (hK : kK G s) {H : Heap} {locs : List Loc} {ls : Array Slot} (hW : kW SM G h (aS SM G) s H locs) (hl : lv_has ls 2 [(0, .ref (G.2.2 0)), (1, .int x1)]) (hq : w_X12_secret_0 Q x1 h) : W p l e rmX12_secret s m args below meth c H locs 0 0 (MQ below (va_Qi (fun r9 h9 => h9 = h ∧ Q r9) (kB SM G) (aS SM G)) args s 0 0 (aS SM G)) (F0 m 0 ls []) := by
  have hx := C.1
  have hb := C.2.1
  unfold w_X12_secret_0 at hq
  refine lv_aload_n hx hb dX12_secret_0 rfl (lv_at hl 0 rfl) ?_
  refine lv_iload_n hx hb dX12_secret_1 rfl (lv_at hl 1 rfl) ?_
  refine k_ci hW (va_runV (As := [.int x1]) (rest := []) (k_fix C) (c_X12_isSet l G h x1 _ hq) (cwV 1 C.2.2.2.2.2.1 (gU_V mw1266 mw1267 mw1268 mw5 mw1269) rfl rfl rfl (by decide +kernel) ⟨Nat.le_of_ble_eq_true rfl, Nat.le_of_ble_eq_true rfl⟩) (k_preV hK hW (shM_lt (rfl : shM 0 = 12) (by decide)) (ceM_12 (rfl : shM 0 = 12)) (q := (RX12, TX12, 73)) rfl) rfl rfl hl.1 rfl (lv_room (Nat.le_of_ble_eq_true rfl)) dX12_secret_2 ⟨Nat.le_refl 0, Nat.le_refl 0⟩) (fun r1 h2 H locs hq hW => ?_)
  rw [hq.1] at hW
  have hq := hq.2
  refine lv_if_eq (tgt := 17) hx hb dX12_secret_5 (by decide) (fun c3 => ?_) (fun c3 => ?_)
  · have hq := hq.1 c3
    refine lv_iconst (v := (-1)) hx hb dX12_secret_17 (by decide) ?_
    exact k_iret rfl C hW dX12_secret_18 ⟨rfl, hq⟩
  · have hq := hq.2 c3
    refine lv_aload_n hx hb dX12_secret_8 rfl (lv_at hl 0 rfl) ?_
    refine lv_iload_n hx hb dX12_secret_9 rfl (lv_at hl 1 rfl) ?_
    refine lv_iconst (v := 0) hx hb dX12_secret_10 (by decide) ?_
    refine k_ci hW (va_runV (As := [.int x1, .int 0]) (rest := []) (k_fix C) (c_X12_rowComes l G h x1 0 _ hq) (cwV 2 C.2.2.2.2.2.1 (gU_V mw1273 mw1274 mw1275 mw5 mw1276) rfl rfl rfl (by decide +kernel) ⟨Nat.le_of_ble_eq_true rfl, Nat.le_of_ble_eq_true rfl⟩) (k_preV hK hW (shM_lt (rfl : shM 0 = 12) (by decide)) (ceM_12 (rfl : shM 0 = 12)) (q := (RX12, TX12, 73)) rfl) rfl rfl hl.1 rfl (lv_room (Nat.le_of_ble_eq_true rfl)) dX12_secret_11 ⟨Nat.le_refl 0, Nat.le_refl 0⟩) (fun r4 h5 H locs hq hW => ?_)
    rw [hq.1] at hW
    have hq := hq.2
    refine lv_goto (tgt := 18) hx hb dX12_secret_14 (by decide) ?_
    exact k_iret rfl C hW dX12_secret_18 ⟨rfl, hq⟩
theorem c_X12_secret (l : Launch) (G : wG) (h : hp) (x1 : Int32) (Q : Int32 → Prop) (hq : w_X12_secret h x1 Q) : ctI l SM G yX12_secret wUX12_secret rmX12_secret h [.ref (G.2.2 0), .int x1] (fun r9 h9 => h9 = h ∧ Q r9) := by
  refine k_start (cc := cX12_secret) (maxL := 2) (rt := (some .int)) (own := RX12) (by decide +kernel) rfl rfl (Nat.le_of_ble_eq_true rfl) ?_
  intro p e s m below meth c ls C hK hW hl
  exact k_X12_secret_0 C hK hW hl hq
end LINKS
