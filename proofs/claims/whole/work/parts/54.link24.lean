section LINKS
variable {p : Program} {l : Launch} {e : Env} {s : State} {m : MethodId} {args : Array Value} {below : List Frame} {meth : Method} {c : Code} {G : wG}
theorem k_X12_number_b52 {Q : Int64 → Prop} {X52 : Int64 × Int32 → Prop} {x1 : Int32} {h : hp} (C : kC p s m args meth c cX12_number 5 (some .long) RX12 wUX12_number) (hK : kK G s) (hX52 : ∀ (x2 : Int64) (x4 : Int32) (H : Heap) (locs : List Loc) (ls : Array Slot), kW SM G h (aS SM G) s H locs → lv_has ls 5 [(0, .ref (G.2.2 0)), (1, .int x1), (2, .long x2), (4, .int x4)] → X52 (x2, x4) → W p l e rmX12_number s m args below meth c H locs 0 0 (MQ below (va_Ql (fun r9 h9 => h9 = h ∧ Q r9) (kB SM G) (aS SM G)) args s 0 0 (aS SM G)) (F0 m 52 ls [])) {x2 : Int64} {x4 : Int32} {H : Heap} {locs : List Loc} {ls : Array Slot} (hW : kW SM G h (aS SM G) s H locs) (hl : lv_has ls 5 [(0, .ref (G.2.2 0)), (1, .int x1), (2, .long x2), (4, .int x4)]) (hq : w_X12_number_b52 Q x1 h X52 x2 x4) : W p l e rmX12_number s m args below meth c H locs 0 0 (MQ below (va_Ql (fun r9 h9 => h9 = h ∧ Q r9) (kB SM G) (aS SM G)) args s 0 0 (aS SM G)) (F0 m 52 ls []) := by
  have hx := C.1
  have hb := C.2.1
  unfold w_X12_number_b52 at hq
  refine lv_iload hx hb dX12_number_52 (lv_at hl 3 rfl) ?_
  refine lv_aload_n hx hb dX12_number_54 rfl (lv_at hl 0 rfl) ?_
  refine lv_iload_n hx hb dX12_number_55 rfl (lv_at hl 1 rfl) ?_
  refine k_ci hW (va_runV (As := [.int x1]) (rest := [.int x4]) (k_fix C) (c_X12_longAt l G h x1 _ hq) (cwV 1 C.2.2.2.2.2.1 (gU_V mw765 mw766 mw767 mw5 mw768) rfl rfl rfl (by decide +kernel) ⟨Nat.le_of_ble_eq_true rfl, Nat.le_of_ble_eq_true rfl⟩) (k_preV hK hW (shM_lt (rfl : shM 0 = 12) (by decide)) (ceM_12 (rfl : shM 0 = 12)) (q := (RX12, TX12, 73)) rfl) rfl rfl hl.1 rfl (lv_room (Nat.le_of_ble_eq_true rfl)) dX12_number_56 ⟨Nat.le_refl 0, Nat.le_refl 0⟩) (fun r16 h17 H locs hq hW => ?_)
  rw [hq.1] at hW
  have hq := hq.2
  refine lv_icmp_ge (tgt := 81) hx hb dX12_number_59 (by decide) (fun c18 => ?_) (fun c18 => ?_)
  · have hq := hq.1 c18
    refine lv_lload_n hx hb dX12_number_81 rfl (lv_at hl 2 rfl) ?_
    exact k_lret rfl C hW dX12_number_82 ⟨rfl, hq⟩
  · have hq := hq.2 c18
    refine lv_lload_n hx hb dX12_number_62 rfl (lv_at hl 2 rfl) ?_
    refine lv_aload_n hx hb dX12_number_63 rfl (lv_at hl 0 rfl) ?_
    refine lv_iload_n hx hb dX12_number_64 rfl (lv_at hl 1 rfl) ?_
    refine lv_iload hx hb dX12_number_65 (lv_at hl 3 rfl) ?_
    refine k_ci hW (va_runV (As := [.int x1, .int x4]) (rest := [.long x2]) (k_fix C) (c_X12_at l G h x1 x4 _ hq) (cwV 2 C.2.2.2.2.2.1 (gU_V mw769 mw770 mw771 mw5 mw772) rfl rfl rfl (by decide +kernel) ⟨Nat.le_of_ble_eq_true rfl, Nat.le_of_ble_eq_true rfl⟩) (k_preV hK hW (shM_lt (rfl : shM 0 = 12) (by decide)) (ceM_12 (rfl : shM 0 = 12)) (q := (RX12, TX12, 73)) rfl) rfl rfl hl.1 rfl (lv_room (Nat.le_of_ble_eq_true rfl)) dX12_number_67 ⟨Nat.le_refl 0, Nat.le_refl 0⟩) (fun r19 h20 H locs hq hW => ?_)
    rw [hq.1] at hW
    have hq := hq.2
    refine lv_i2l (v := r19.toInt64) hx hb dX12_number_70 rfl ?_
    refine k_cl hW (va_runS (As := [.long x2, .long (r19.toInt64)]) (rest := []) (k_fix C) (c_X12_paired l G h x2 (r19.toInt64) _ hq) (va_cwS 2 C.2.2.2.2.2.1 (gU_S mw1499 mw1500 mw5 mw1501) rfl rfl rfl (by decide +kernel) ⟨Nat.le_of_ble_eq_true rfl, Nat.le_of_ble_eq_true rfl⟩) (k_preS hK hW) rfl rfl hl.1 rfl (lv_room (Nat.le_of_ble_eq_true rfl)) dX12_number_71 ⟨Nat.le_refl 0, Nat.le_refl 0⟩) (fun r21 h22 H locs hq hW => ?_)
    rw [hq.1] at hW
    have hq := hq.2
    refine lv_lstore_n (lv' := [(2, .long r21), (0, .ref (G.2.2 0)), (1, .int x1), (4, .int x4)]) hx hb dX12_number_74 rfl hl (by decide) rfl (fun ls hl => ?_)
    obtain ⟨x4_23, ex4_23⟩ : ∃ y : Int32, y = x4 + 1 := ⟨_, rfl⟩
    have hq := hq x4_23 ex4_23
    refine lv_iinc (v := x4_23) (lv' := [(4, .int x4_23), (2, .long r21), (0, .ref (G.2.2 0)), (1, .int x1)]) hx hb dX12_number_75 hl (k := 3) rfl (by rw [ex4_23]; rfl) (by decide) rfl (fun ls hl => ?_)
    refine lv_goto (tgt := 52) hx hb dX12_number_78 (by decide) ?_
    exact hX52 _ _ _ _ _ hW (lv_sub hl [2, 3, 1, 0] rfl) hq
theorem k_X12_number_52 {Q : Int64 → Prop} {x1 : Int32} {h : hp} (C : kC p s m args meth c cX12_number 5 (some .long) RX12 wUX12_number) (hK : kK G s) {x2 : Int64} {x4 : Int32} {H : Heap} {locs : List Loc} {ls : Array Slot} (hW : kW SM G h (aS SM G) s H locs) (hl : lv_has ls 5 [(0, .ref (G.2.2 0)), (1, .int x1), (2, .long x2), (4, .int x4)]) (hq : w_X12_number_52 Q x1 h x2 x4) : W p l e rmX12_number s m args below meth c H locs 0 0 (MQ below (va_Ql (fun r9 h9 => h9 = h ∧ Q r9) (kB SM G) (aS SM G)) args s 0 0 (aS SM G)) (F0 m 52 ls []) := by
  have key := hq (fun (q : Int64 × Int32) => ∀ (H : Heap) (locs : List Loc) (ls : Array Slot), kW SM G h (aS SM G) s H locs → lv_has ls 5 [(0, .ref (G.2.2 0)), (1, .int x1), (2, .long q.1), (4, .int q.2)] → W p l e rmX12_number s m args below meth c H locs 0 0 (MQ below (va_Ql (fun r9 h9 => h9 = h ∧ Q r9) (kB SM G) (aS SM G)) args s 0 0 (aS SM G)) (F0 m 52 ls []))
    (fun q hq H locs ls hW hl => k_X12_number_b52 C hK (fun x2 x4 H locs ls hW hl hI => hI H locs ls hW hl) hW hl hq)
  exact key _ _ _ hW hl
theorem k_X12_number_0 {Q : Int64 → Prop} {x1 : Int32} {h : hp} (C : kC p s m args meth c cX12_number 5 (some .long) RX12 wUX12_number) (hK : kK G s) {H : Heap} {locs : List Loc} {ls : Array Slot} (hW : kW SM G h (aS SM G) s H locs) (hl : lv_has ls 5 [(0, .ref (G.2.2 0)), (1, .int x1)]) (hq : w_X12_number_0 Q x1 h) : W p l e rmX12_number s m args below meth c H locs 0 0 (MQ below (va_Ql (fun r9 h9 => h9 = h ∧ Q r9) (kB SM G) (aS SM G)) args s 0 0 (aS SM G)) (F0 m 0 ls []) := by
  have hx := C.1
  have hb := C.2.1
  unfold w_X12_number_0 at hq
  refine lv_aload_n hx hb dX12_number_0 rfl (lv_at hl 0 rfl) ?_
  refine lv_iload_n hx hb dX12_number_1 rfl (lv_at hl 1 rfl) ?_
  refine k_ci hW (va_runV (As := [.int x1]) (rest := []) (k_fix C) (c_X12_isRow l G h x1 _ hq) (cwV 1 C.2.2.2.2.2.1 (gU_V mw758 mw759 mw760 mw5 mw761) rfl rfl rfl (by decide +kernel) ⟨Nat.le_of_ble_eq_true rfl, Nat.le_of_ble_eq_true rfl⟩) (k_preV hK hW (shM_lt (rfl : shM 0 = 12) (by decide)) (ceM_12 (rfl : shM 0 = 12)) (q := (RX12, TX12, 73)) rfl) rfl rfl hl.1 rfl (lv_room (Nat.le_of_ble_eq_true rfl)) dX12_number_2 ⟨Nat.le_refl 0, Nat.le_refl 0⟩) (fun r1 h2 H locs hq hW => ?_)
  rw [hq.1] at hW
  have hq := hq.2
  refine lv_if_ne (tgt := 12) hx hb dX12_number_5 (by decide) (fun c3 => ?_) (fun c3 => ?_)
  · have hq := hq.1 c3
    refine lv_aload_n hx hb dX12_number_12 rfl (lv_at hl 0 rfl) ?_
    refine lv_iload_n hx hb dX12_number_13 rfl (lv_at hl 1 rfl) ?_
    refine k_ci hW (va_runV (As := [.int x1]) (rest := []) (k_fix C) (c_X12_longAt l G h x1 _ hq) (cwV 1 C.2.2.2.2.2.1 (gU_V mw765 mw766 mw767 mw5 mw768) rfl rfl rfl (by decide +kernel) ⟨Nat.le_of_ble_eq_true rfl, Nat.le_of_ble_eq_true rfl⟩) (k_preV hK hW (shM_lt (rfl : shM 0 = 12) (by decide)) (ceM_12 (rfl : shM 0 = 12)) (q := (RX12, TX12, 73)) rfl) rfl rfl hl.1 rfl (lv_room (Nat.le_of_ble_eq_true rfl)) dX12_number_14 ⟨Nat.le_refl 0, Nat.le_refl 0⟩) (fun r4 h5 H locs hq hW => ?_)
    rw [hq.1] at hW
    have hq := hq.2
    refine lv_iconst (v := 4) hx hb dX12_number_17 (by decide) ?_
    refine lv_icmp_gt (tgt := 37) hx hb dX12_number_18 (by decide) (fun c6 => ?_) (fun c6 => ?_)
    · have hq := hq.1 c6
      refine lv_ldc2 (v := (-2)) hx hb C.2.2.2.2.1 (C.2.2.2.2.2.1 _ (List.mem_cons_of_mem _ mw821)) dX12_number_37 ?_
      exact k_lret rfl C hW dX12_number_40 ⟨rfl, hq⟩
    · have hq := hq.2 c6
      refine lv_aload_n hx hb dX12_number_21 rfl (lv_at hl 0 rfl) ?_
      refine lv_iload_n hx hb dX12_number_22 rfl (lv_at hl 1 rfl) ?_
      refine k_ci hW (va_runV (As := [.int x1]) (rest := []) (k_fix C) (c_X12_longAt l G h x1 _ hq) (cwV 1 C.2.2.2.2.2.1 (gU_V mw765 mw766 mw767 mw5 mw768) rfl rfl rfl (by decide +kernel) ⟨Nat.le_of_ble_eq_true rfl, Nat.le_of_ble_eq_true rfl⟩) (k_preV hK hW (shM_lt (rfl : shM 0 = 12) (by decide)) (ceM_12 (rfl : shM 0 = 12)) (q := (RX12, TX12, 73)) rfl) rfl rfl hl.1 rfl (lv_room (Nat.le_of_ble_eq_true rfl)) dX12_number_23 ⟨Nat.le_refl 0, Nat.le_refl 0⟩) (fun r7 h8 H locs hq hW => ?_)
      rw [hq.1] at hW
      have hq := hq.2
      refine lv_if_eq (tgt := 37) hx hb dX12_number_26 (by decide) (fun c9 => ?_) (fun c9 => ?_)
      · have hq := hq.1 c9
        refine lv_ldc2 (v := (-2)) hx hb C.2.2.2.2.1 (C.2.2.2.2.2.1 _ (List.mem_cons_of_mem _ mw821)) dX12_number_37 ?_
        exact k_lret rfl C hW dX12_number_40 ⟨rfl, hq⟩
      · have hq := hq.2 c9
        refine lv_aload_n hx hb dX12_number_29 rfl (lv_at hl 0 rfl) ?_
        refine lv_iload_n hx hb dX12_number_30 rfl (lv_at hl 1 rfl) ?_
        refine k_ci hW (va_runV (As := [.int x1]) (rest := []) (k_fix C) (c_X12_isBelow l G h x1 _ hq) (cwV 1 C.2.2.2.2.2.1 (gU_V mw822 mw823 mw824 mw5 mw825) rfl rfl rfl (by decide +kernel) ⟨Nat.le_of_ble_eq_true rfl, Nat.le_of_ble_eq_true rfl⟩) (k_preV hK hW (shM_lt (rfl : shM 0 = 12) (by decide)) (ceM_12 (rfl : shM 0 = 12)) (q := (RX12, TX12, 73)) rfl) rfl rfl hl.1 rfl (lv_room (Nat.le_of_ble_eq_true rfl)) dX12_number_31 ⟨Nat.le_refl 0, Nat.le_refl 0⟩) (fun r10 h11 H locs hq hW => ?_)
        rw [hq.1] at hW
        have hq := hq.2
        refine lv_if_eq (tgt := 41) hx hb dX12_number_34 (by decide) (fun c12 => ?_) (fun c12 => ?_)
        · have hq := hq.1 c12
          refine lv_aload_n hx hb dX12_number_41 rfl (lv_at hl 0 rfl) ?_
          refine lv_iload_n hx hb dX12_number_42 rfl (lv_at hl 1 rfl) ?_
          refine lv_iconst (v := 0) hx hb dX12_number_43 (by decide) ?_
          refine k_ci hW (va_runV (As := [.int x1, .int 0]) (rest := []) (k_fix C) (c_X12_at l G h x1 0 _ hq) (cwV 2 C.2.2.2.2.2.1 (gU_V mw769 mw770 mw771 mw5 mw772) rfl rfl rfl (by decide +kernel) ⟨Nat.le_of_ble_eq_true rfl, Nat.le_of_ble_eq_true rfl⟩) (k_preV hK hW (shM_lt (rfl : shM 0 = 12) (by decide)) (ceM_12 (rfl : shM 0 = 12)) (q := (RX12, TX12, 73)) rfl) rfl rfl hl.1 rfl (lv_room (Nat.le_of_ble_eq_true rfl)) dX12_number_44 ⟨Nat.le_refl 0, Nat.le_refl 0⟩) (fun r13 h14 H locs hq hW => ?_)
          rw [hq.1] at hW
          have hq := hq.2
          refine lv_i2l (v := r13.toInt64) hx hb dX12_number_47 rfl ?_
          refine lv_topl (fun x2_15 ex2_15 => ?_)
          have hq := hq x2_15 ex2_15
          refine lv_lstore_n (lv' := [(2, .long x2_15), (0, .ref (G.2.2 0)), (1, .int x1)]) hx hb dX12_number_48 rfl hl (by decide) rfl (fun ls hl => ?_)
          refine lv_iconst (v := 1) hx hb dX12_number_49 (by decide) ?_
          refine lv_istore (lv' := [(4, .int 1), (2, .long x2_15), (0, .ref (G.2.2 0)), (1, .int x1)]) hx hb dX12_number_50 hl (by decide) rfl (fun ls hl => ?_)
          exact k_X12_number_52 C hK hW (lv_sub hl [2, 3, 1, 0] rfl) hq
        · have hq := hq.2 c12
          refine lv_ldc2 (v := (-2)) hx hb C.2.2.2.2.1 (C.2.2.2.2.2.1 _ (List.mem_cons_of_mem _ mw821)) dX12_number_37 ?_
          exact k_lret rfl C hW dX12_number_40 ⟨rfl, hq⟩
  · have hq := hq.2 c3
    refine lv_ldc2 (v := (-1)) hx hb C.2.2.2.2.1 (C.2.2.2.2.2.1 _ (List.mem_cons_of_mem _ mw820)) dX12_number_8 ?_
    exact k_lret rfl C hW dX12_number_11 ⟨rfl, hq⟩
theorem c_X12_number (l : Launch) (G : wG) (h : hp) (x1 : Int32) (Q : Int64 → Prop) (hq : w_X12_number h x1 Q) : ctL l SM G yX12_number wUX12_number rmX12_number h [.ref (G.2.2 0), .int x1] (fun r9 h9 => h9 = h ∧ Q r9) := by
  refine k_start (cc := cX12_number) (maxL := 5) (rt := (some .long)) (own := RX12) (by decide +kernel) rfl rfl (Nat.le_of_ble_eq_true rfl) ?_
  intro p e s m below meth c ls C hK hW hl
  exact k_X12_number_0 C hK hW hl hq
theorem k_X12_hold_b33 {Q : Int32 → hp → Prop} {X33 : Int32 × hp → Prop} {x1 : Int32} (C : kC p s m args meth c cX12_hold 3 (some .boolean) RX12 wUX12_hold) (hK : kK G s) (hX33 : ∀ (x2 : Int32) (h : hp) (H : Heap) (locs : List Loc) (ls : Array Slot), kW SM G h (aS SM G) s H locs → lv_has ls 3 [(0, .ref (G.2.2 0)), (1, .int x1), (2, .int x2)] → X33 (x2, h) → W p l e rmX12_hold s m args below meth c H locs 0 0 (MQ below (va_Qi Q (kB SM G) (aS SM G)) args s 0 0 (aS SM G)) (F0 m 33 ls [])) {x2 : Int32} {h : hp} {H : Heap} {locs : List Loc} {ls : Array Slot} (hW : kW SM G h (aS SM G) s H locs) (hl : lv_has ls 3 [(0, .ref (G.2.2 0)), (1, .int x1), (2, .int x2)]) (hq : w_X12_hold_b33 Q x1 X33 x2 h) : W p l e rmX12_hold s m args below meth c H locs 0 0 (MQ below (va_Qi Q (kB SM G) (aS SM G)) args s 0 0 (aS SM G)) (F0 m 33 ls []) := by
  have hx := C.1
  have hb := C.2.1
  unfold w_X12_hold_b33 at hq
  refine lv_iload_n hx hb dX12_hold_33 rfl (lv_at hl 2 rfl) ?_
  refine lv_bipush (v := 20) hx hb dX12_hold_34 (by decide) ?_
  refine lv_icmp_ge (tgt := 79) hx hb dX12_hold_36 (by decide) (fun c6 => ?_) (fun c6 => ?_)
  · have hq := hq.1 c6
    refine lv_iconst (v := 1) hx hb dX12_hold_79 (by decide) ?_
    exact k_zret rfl isZ_1.1 C hW dX12_hold_80 hq
  · have hq := hq.2 c6
    refine lv_aload_n hx hb dX12_hold_39 rfl (lv_at hl 0 rfl) ?_
    refine gt12_71 C hK hW (rfl : shM 0 = 12) (List.mem_cons_of_mem _ mw313) (fun _ h9 => List.mem_cons_of_mem _ (inU_wsX120 _ h9)) dX12_hold_40 ?_
    refine lv_bipush (v := 20) hx hb dX12_hold_43 (by decide) ?_
    refine lv_iload_n hx hb dX12_hold_45 rfl (lv_at hl 1 rfl) ?_
    refine lv_imul hx hb dX12_hold_46 ?_
    refine lv_iload_n hx hb dX12_hold_47 rfl (lv_at hl 2 rfl) ?_
    refine lv_iadd hx hb dX12_hold_48 ?_
    refine lv_aload_n hx hb dX12_hold_49 rfl (lv_at hl 0 rfl) ?_
    refine gt12_58 C hK hW (rfl : shM 0 = 12) (List.mem_cons_of_mem _ mw303) (fun _ h9 => List.mem_cons_of_mem _ (inU_wsX120 _ h9)) dX12_hold_50 ?_
    refine lv_iload_n hx hb dX12_hold_53 rfl (lv_at hl 2 rfl) ?_
    refine k_iald C hK hW (shM_lt (rfl : shM 38 = 14) (by decide)) (ceM_14 (rfl : shM 38 = 14) (rfl : lnM 38 = 20)) hq.1 dX12_hold_54 ?_
    have hq := hq.2
    refine k_iast okM C hK hW (shM_lt (rfl : shM 47 = 14) (by decide)) (fun g9 => ceM_14 (rfl : shM 47 = 14) (rfl : lnM 47 = 60)) hq.1 dX12_hold_55 (fun H locs hW => ?_)
    have hq := hq.2
    obtain ⟨h7, eh7⟩ : ∃ z : hp, z = sI h 47 (ix ((20 * x1) + x2)) (gI h 38 (ix x2)) := ⟨_, rfl⟩
    rw [← eh7] at hW
    have hq := hq h7 eh7
    refine lv_aload_n hx hb dX12_hold_56 rfl (lv_at hl 0 rfl) ?_
    refine gt12_72 C hK hW (rfl : shM 0 = 12) (List.mem_cons_of_mem _ mw314) (fun _ h9 => List.mem_cons_of_mem _ (inU_wsX120 _ h9)) dX12_hold_57 ?_
    refine lv_bipush (v := 20) hx hb dX12_hold_60 (by decide) ?_
    refine lv_iload_n hx hb dX12_hold_62 rfl (lv_at hl 1 rfl) ?_
    refine lv_imul hx hb dX12_hold_63 ?_
    refine lv_iload_n hx hb dX12_hold_64 rfl (lv_at hl 2 rfl) ?_
    refine lv_iadd hx hb dX12_hold_65 ?_
    refine lv_aload_n hx hb dX12_hold_66 rfl (lv_at hl 0 rfl) ?_
    refine gt12_59 C hK hW (rfl : shM 0 = 12) (List.mem_cons_of_mem _ mw304) (fun _ h9 => List.mem_cons_of_mem _ (inU_wsX120 _ h9)) dX12_hold_67 ?_
    refine lv_iload_n hx hb dX12_hold_70 rfl (lv_at hl 2 rfl) ?_
    refine k_lald C hK hW (shM_lt (rfl : shM 39 = 15) (by decide)) (ceM_15 (rfl : shM 39 = 15) (rfl : lnM 39 = 20)) hq.1 dX12_hold_71 ?_
    have hq := hq.2
    refine k_last okM C hK hW (shM_lt (rfl : shM 48 = 15) (by decide)) (fun g9 => ceM_15 (rfl : shM 48 = 15) (rfl : lnM 48 = 60)) hq.1 dX12_hold_72 (fun H locs hW => ?_)
    have hq := hq.2
    obtain ⟨h8, eh8⟩ : ∃ z : hp, z = sL h7 48 (ix ((20 * x1) + x2)) (gL h7 39 (ix x2)) := ⟨_, rfl⟩
    rw [← eh8] at hW
    have hq := hq h8 eh8
    obtain ⟨x2_9, ex2_9⟩ : ∃ y : Int32, y = x2 + 1 := ⟨_, rfl⟩
    have hq := hq x2_9 ex2_9
    refine lv_iinc (v := x2_9) (lv' := [(2, .int x2_9), (0, .ref (G.2.2 0)), (1, .int x1)]) hx hb dX12_hold_73 hl (k := 2) rfl (by rw [ex2_9]; rfl) (by decide) rfl (fun ls hl => ?_)
    refine lv_goto (tgt := 33) hx hb dX12_hold_76 (by decide) ?_
    exact hX33 _ _ _ _ _ hW (lv_sub hl [1, 2, 0] rfl) hq
theorem k_X12_hold_33 {Q : Int32 → hp → Prop} {x1 : Int32} (C : kC p s m args meth c cX12_hold 3 (some .boolean) RX12 wUX12_hold) (hK : kK G s) {x2 : Int32} {h : hp} {H : Heap} {locs : List Loc} {ls : Array Slot} (hW : kW SM G h (aS SM G) s H locs) (hl : lv_has ls 3 [(0, .ref (G.2.2 0)), (1, .int x1), (2, .int x2)]) (hq : w_X12_hold_33 Q x1 x2 h) : W p l e rmX12_hold s m args below meth c H locs 0 0 (MQ below (va_Qi Q (kB SM G) (aS SM G)) args s 0 0 (aS SM G)) (F0 m 33 ls []) := by
  have key := hq (fun (q : Int32 × hp) => ∀ (H : Heap) (locs : List Loc) (ls : Array Slot), kW SM G q.2 (aS SM G) s H locs → lv_has ls 3 [(0, .ref (G.2.2 0)), (1, .int x1), (2, .int q.1)] → W p l e rmX12_hold s m args below meth c H locs 0 0 (MQ below (va_Qi Q (kB SM G) (aS SM G)) args s 0 0 (aS SM G)) (F0 m 33 ls []))
    (fun q hq H locs ls hW hl => k_X12_hold_b33 C hK (fun x2 h H locs ls hW hl hI => hI H locs ls hW hl) hW hl hq)
  exact key _ _ _ hW hl
theorem k_X12_hold_0 {Q : Int32 → hp → Prop} {x1 : Int32} {h : hp} (C : kC p s m args meth c cX12_hold 3 (some .boolean) RX12 wUX12_hold) (hK : kK G s) {H : Heap} {locs : List Loc} {ls : Array Slot} (hW : kW SM G h (aS SM G) s H locs) (hl : lv_has ls 3 [(0, .ref (G.2.2 0)), (1, .int x1)]) (hq : w_X12_hold_0 Q x1 h) : W p l e rmX12_hold s m args below meth c H locs 0 0 (MQ below (va_Qi Q (kB SM G) (aS SM G)) args s 0 0 (aS SM G)) (F0 m 0 ls []) := by
  have hx := C.1
  have hb := C.2.1
  unfold w_X12_hold_0 at hq
  refine lv_iload_n hx hb dX12_hold_0 rfl (lv_at hl 1 rfl) ?_
  refine lv_i2l (v := x1.toInt64) hx hb dX12_hold_1 rfl ?_
  refine lv_lconst (v := 0) hx hb dX12_hold_2 (by decide) ?_
  refine lv_ldc2 (v := 2) hx hb C.2.2.2.2.1 (C.2.2.2.2.2.1 _ (List.mem_cons_of_mem _ mw843)) dX12_hold_3 ?_
  refine k_ci hW (va_runS (As := [.long (x1.toInt64), .long 0, .long 2]) (rest := []) (k_fix C) (c_X12_in l G h (x1.toInt64) 0 2 _ hq) (va_cwS 3 C.2.2.2.2.2.1 (gU_S mw762 mw763 mw5 mw764) rfl rfl rfl (by decide +kernel) ⟨Nat.le_of_ble_eq_true rfl, Nat.le_of_ble_eq_true rfl⟩) (k_preS hK hW) rfl rfl hl.1 rfl (lv_room (Nat.le_of_ble_eq_true rfl)) dX12_hold_6 ⟨Nat.le_refl 0, Nat.le_refl 0⟩) (fun r1 h2 H locs hq hW => ?_)
  rw [hq.1] at hW
  have hq := hq.2
  refine lv_if_ne (tgt := 14) hx hb dX12_hold_9 (by decide) (fun c3 => ?_) (fun c3 => ?_)
  · have hq := hq.1 c3
    refine lv_aload_n hx hb dX12_hold_14 rfl (lv_at hl 0 rfl) ?_
    refine gt12_69 C hK hW (rfl : shM 0 = 12) (List.mem_cons_of_mem _ mw311) (fun _ h9 => List.mem_cons_of_mem _ (inU_wsX120 _ h9)) dX12_hold_15 ?_
    refine lv_iload_n hx hb dX12_hold_18 rfl (lv_at hl 1 rfl) ?_
    refine lv_iconst (v := 1) hx hb dX12_hold_19 (by decide) ?_
    refine k_zast okM C hK hW (shM_lt (rfl : shM 45 = 16) (by decide)) (fun g9 => ceM_16 (rfl : shM 45 = 16) (rfl : lnM 45 = 3)) hq.1 dX12_hold_20 (fun H locs hW => ?_)
    have hq := hq.2
    obtain ⟨h4, eh4⟩ : ∃ z : hp, z = sI h 45 (ix x1) (jz 1) := ⟨_, rfl⟩
    rw [← eh4] at hW
    have hq := hq h4 eh4
    refine lv_aload_n hx hb dX12_hold_21 rfl (lv_at hl 0 rfl) ?_
    refine gt12_70 C hK hW (rfl : shM 0 = 12) (List.mem_cons_of_mem _ mw312) (fun _ h9 => List.mem_cons_of_mem _ (inU_wsX120 _ h9)) dX12_hold_22 ?_
    refine lv_iload_n hx hb dX12_hold_25 rfl (lv_at hl 1 rfl) ?_
    refine lv_aload_n hx hb dX12_hold_26 rfl (lv_at hl 0 rfl) ?_
    refine gt12_57 C hK hW (rfl : shM 0 = 12) (List.mem_cons_of_mem _ mw617) (fun _ h9 => List.mem_cons_of_mem _ (inU_wsX120 _ h9)) dX12_hold_27 ?_
    refine k_iast okM C hK hW (shM_lt (rfl : shM 46 = 14) (by decide)) (fun g9 => ceM_14 (rfl : shM 46 = 14) (rfl : lnM 46 = 3)) hq.1 dX12_hold_30 (fun H locs hW => ?_)
    have hq := hq.2
    obtain ⟨h5, eh5⟩ : ∃ z : hp, z = sI h4 46 (ix x1) (gI h4 0 57) := ⟨_, rfl⟩
    rw [← eh5] at hW
    have hq := hq h5 eh5
    refine lv_iconst (v := 0) hx hb dX12_hold_31 (by decide) ?_
    refine lv_istore_n (lv' := [(2, .int 0), (0, .ref (G.2.2 0)), (1, .int x1)]) hx hb dX12_hold_32 rfl hl (by decide) rfl (fun ls hl => ?_)
    exact k_X12_hold_33 C hK hW (lv_sub hl [1, 2, 0] rfl) hq
  · have hq := hq.2 c3
    refine lv_iconst (v := 0) hx hb dX12_hold_12 (by decide) ?_
    exact k_zret rfl isZ_0.1 C hW dX12_hold_13 hq
theorem c_X12_hold (l : Launch) (G : wG) (h : hp) (x1 : Int32) (Q : Int32 → hp → Prop) (hq : w_X12_hold h x1 Q) : ctI l SM G yX12_hold wUX12_hold rmX12_hold h [.ref (G.2.2 0), .int x1] Q := by
  refine k_start (cc := cX12_hold) (maxL := 3) (rt := (some .boolean)) (own := RX12) (by decide +kernel) rfl rfl (Nat.le_of_ble_eq_true rfl) ?_
  intro p e s m below meth c ls C hK hW hl
  exact k_X12_hold_0 C hK hW hl hq
theorem k_X12_restore_b35 {Q : Int32 → hp → Prop} {X35 : Int32 × hp → Prop} {x1 : Int32} (C : kC p s m args meth c cX12_restore 3 (some .boolean) RX12 wUX12_restore) (hK : kK G s) (hX35 : ∀ (x2 : Int32) (h : hp) (H : Heap) (locs : List Loc) (ls : Array Slot), kW SM G h (aS SM G) s H locs → lv_has ls 3 [(0, .ref (G.2.2 0)), (1, .int x1), (2, .int x2)] → X35 (x2, h) → W p l e rmX12_restore s m args below meth c H locs 0 0 (MQ below (va_Qi Q (kB SM G) (aS SM G)) args s 0 0 (aS SM G)) (F0 m 35 ls [])) {x2 : Int32} {h : hp} {H : Heap} {locs : List Loc} {ls : Array Slot} (hW : kW SM G h (aS SM G) s H locs) (hl : lv_has ls 3 [(0, .ref (G.2.2 0)), (1, .int x1), (2, .int x2)]) (hq : w_X12_restore_b35 Q x1 X35 x2 h) : W p l e rmX12_restore s m args below meth c H locs 0 0 (MQ below (va_Qi Q (kB SM G) (aS SM G)) args s 0 0 (aS SM G)) (F0 m 35 ls []) := by
  have hx := C.1
  have hb := C.2.1
  unfold w_X12_restore_b35 at hq
  refine lv_iload_n hx hb dX12_restore_35 rfl (lv_at hl 2 rfl) ?_
  refine lv_bipush (v := 20) hx hb dX12_restore_36 (by decide) ?_
  refine lv_icmp_ge (tgt := 81) hx hb dX12_restore_38 (by decide) (fun c6 => ?_) (fun c6 => ?_)
  · have hq := hq.1 c6
    refine lv_iconst (v := 1) hx hb dX12_restore_81 (by decide) ?_
    exact k_zret rfl isZ_1.1 C hW dX12_restore_82 hq
  · have hq := hq.2 c6
    refine lv_aload_n hx hb dX12_restore_41 rfl (lv_at hl 0 rfl) ?_
    refine gt12_58 C hK hW (rfl : shM 0 = 12) (List.mem_cons_of_mem _ mw303) (fun _ h9 => List.mem_cons_of_mem _ (inU_wsX120 _ h9)) dX12_restore_42 ?_
    refine lv_iload_n hx hb dX12_restore_45 rfl (lv_at hl 2 rfl) ?_
    refine lv_aload_n hx hb dX12_restore_46 rfl (lv_at hl 0 rfl) ?_
    refine gt12_71 C hK hW (rfl : shM 0 = 12) (List.mem_cons_of_mem _ mw313) (fun _ h9 => List.mem_cons_of_mem _ (inU_wsX120 _ h9)) dX12_restore_47 ?_
    refine lv_bipush (v := 20) hx hb dX12_restore_50 (by decide) ?_
    refine lv_iload_n hx hb dX12_restore_52 rfl (lv_at hl 1 rfl) ?_
    refine lv_imul hx hb dX12_restore_53 ?_
    refine lv_iload_n hx hb dX12_restore_54 rfl (lv_at hl 2 rfl) ?_
    refine lv_iadd hx hb dX12_restore_55 ?_
    refine k_iald C hK hW (shM_lt (rfl : shM 47 = 14) (by decide)) (ceM_14 (rfl : shM 47 = 14) (rfl : lnM 47 = 60)) hq.1 dX12_restore_56 ?_
    have hq := hq.2
    refine k_iast okM C hK hW (shM_lt (rfl : shM 38 = 14) (by decide)) (fun g9 => ceM_14 (rfl : shM 38 = 14) (rfl : lnM 38 = 20)) hq.1 dX12_restore_57 (fun H locs hW => ?_)
    have hq := hq.2
    obtain ⟨h7, eh7⟩ : ∃ z : hp, z = sI h 38 (ix x2) (gI h 47 (ix ((20 * x1) + x2))) := ⟨_, rfl⟩
    rw [← eh7] at hW
    have hq := hq h7 eh7
    refine lv_aload_n hx hb dX12_restore_58 rfl (lv_at hl 0 rfl) ?_
    refine gt12_59 C hK hW (rfl : shM 0 = 12) (List.mem_cons_of_mem _ mw304) (fun _ h9 => List.mem_cons_of_mem _ (inU_wsX120 _ h9)) dX12_restore_59 ?_
    refine lv_iload_n hx hb dX12_restore_62 rfl (lv_at hl 2 rfl) ?_
    refine lv_aload_n hx hb dX12_restore_63 rfl (lv_at hl 0 rfl) ?_
    refine gt12_72 C hK hW (rfl : shM 0 = 12) (List.mem_cons_of_mem _ mw314) (fun _ h9 => List.mem_cons_of_mem _ (inU_wsX120 _ h9)) dX12_restore_64 ?_
    refine lv_bipush (v := 20) hx hb dX12_restore_67 (by decide) ?_
    refine lv_iload_n hx hb dX12_restore_69 rfl (lv_at hl 1 rfl) ?_
    refine lv_imul hx hb dX12_restore_70 ?_
    refine lv_iload_n hx hb dX12_restore_71 rfl (lv_at hl 2 rfl) ?_
    refine lv_iadd hx hb dX12_restore_72 ?_
    refine k_lald C hK hW (shM_lt (rfl : shM 48 = 15) (by decide)) (ceM_15 (rfl : shM 48 = 15) (rfl : lnM 48 = 60)) hq.1 dX12_restore_73 ?_
    have hq := hq.2
    refine k_last okM C hK hW (shM_lt (rfl : shM 39 = 15) (by decide)) (fun g9 => ceM_15 (rfl : shM 39 = 15) (rfl : lnM 39 = 20)) hq.1 dX12_restore_74 (fun H locs hW => ?_)
    have hq := hq.2
    obtain ⟨h8, eh8⟩ : ∃ z : hp, z = sL h7 39 (ix x2) (gL h7 48 (ix ((20 * x1) + x2))) := ⟨_, rfl⟩
    rw [← eh8] at hW
    have hq := hq h8 eh8
    obtain ⟨x2_9, ex2_9⟩ : ∃ y : Int32, y = x2 + 1 := ⟨_, rfl⟩
    have hq := hq x2_9 ex2_9
    refine lv_iinc (v := x2_9) (lv' := [(2, .int x2_9), (0, .ref (G.2.2 0)), (1, .int x1)]) hx hb dX12_restore_75 hl (k := 2) rfl (by rw [ex2_9]; rfl) (by decide) rfl (fun ls hl => ?_)
    refine lv_goto (tgt := 35) hx hb dX12_restore_78 (by decide) ?_
    exact hX35 _ _ _ _ _ hW (lv_sub hl [1, 2, 0] rfl) hq
theorem k_X12_restore_35 {Q : Int32 → hp → Prop} {x1 : Int32} (C : kC p s m args meth c cX12_restore 3 (some .boolean) RX12 wUX12_restore) (hK : kK G s) {x2 : Int32} {h : hp} {H : Heap} {locs : List Loc} {ls : Array Slot} (hW : kW SM G h (aS SM G) s H locs) (hl : lv_has ls 3 [(0, .ref (G.2.2 0)), (1, .int x1), (2, .int x2)]) (hq : w_X12_restore_35 Q x1 x2 h) : W p l e rmX12_restore s m args below meth c H locs 0 0 (MQ below (va_Qi Q (kB SM G) (aS SM G)) args s 0 0 (aS SM G)) (F0 m 35 ls []) := by
  have key := hq (fun (q : Int32 × hp) => ∀ (H : Heap) (locs : List Loc) (ls : Array Slot), kW SM G q.2 (aS SM G) s H locs → lv_has ls 3 [(0, .ref (G.2.2 0)), (1, .int x1), (2, .int q.1)] → W p l e rmX12_restore s m args below meth c H locs 0 0 (MQ below (va_Qi Q (kB SM G) (aS SM G)) args s 0 0 (aS SM G)) (F0 m 35 ls []))
    (fun q hq H locs ls hW hl => k_X12_restore_b35 C hK (fun x2 h H locs ls hW hl hI => hI H locs ls hW hl) hW hl hq)
  exact key _ _ _ hW hl
theorem k_X12_restore_0 {Q : Int32 → hp → Prop} {x1 : Int32} {h : hp} (C : kC p s m args meth c cX12_restore 3 (some .boolean) RX12 wUX12_restore) (hK : kK G s) {H : Heap} {locs : List Loc} {ls : Array Slot} (hW : kW SM G h (aS SM G) s H locs) (hl : lv_has ls 3 [(0, .ref (G.2.2 0)), (1, .int x1)]) (hq : w_X12_restore_0 Q x1 h) : W p l e rmX12_restore s m args below meth c H locs 0 0 (MQ below (va_Qi Q (kB SM G) (aS SM G)) args s 0 0 (aS SM G)) (F0 m 0 ls []) := by
  have hx := C.1
  have hb := C.2.1
  unfold w_X12_restore_0 at hq
  refine lv_iload_n hx hb dX12_restore_0 rfl (lv_at hl 1 rfl) ?_
  refine lv_i2l (v := x1.toInt64) hx hb dX12_restore_1 rfl ?_
  refine lv_lconst (v := 0) hx hb dX12_restore_2 (by decide) ?_
  refine lv_ldc2 (v := 2) hx hb C.2.2.2.2.1 (C.2.2.2.2.2.1 _ (List.mem_cons_of_mem _ mw843)) dX12_restore_3 ?_
  refine k_ci hW (va_runS (As := [.long (x1.toInt64), .long 0, .long 2]) (rest := []) (k_fix C) (c_X12_in l G h (x1.toInt64) 0 2 _ hq) (va_cwS 3 C.2.2.2.2.2.1 (gU_S mw762 mw763 mw5 mw764) rfl rfl rfl (by decide +kernel) ⟨Nat.le_of_ble_eq_true rfl, Nat.le_of_ble_eq_true rfl⟩) (k_preS hK hW) rfl rfl hl.1 rfl (lv_room (Nat.le_of_ble_eq_true rfl)) dX12_restore_6 ⟨Nat.le_refl 0, Nat.le_refl 0⟩) (fun r1 h2 H locs hq hW => ?_)
  rw [hq.1] at hW
  have hq := hq.2
  refine lv_if_eq (tgt := 21) hx hb dX12_restore_9 (by decide) (fun c3 => ?_) (fun c3 => ?_)
  · have hq := hq.1 c3
    refine lv_iconst (v := 0) hx hb dX12_restore_21 (by decide) ?_
    exact k_zret rfl isZ_0.1 C hW dX12_restore_22 hq
  · have hq := hq.2 c3
    refine lv_aload_n hx hb dX12_restore_12 rfl (lv_at hl 0 rfl) ?_
    refine gt12_69 C hK hW (rfl : shM 0 = 12) (List.mem_cons_of_mem _ mw311) (fun _ h9 => List.mem_cons_of_mem _ (inU_wsX120 _ h9)) dX12_restore_13 ?_
    refine lv_iload_n hx hb dX12_restore_16 rfl (lv_at hl 1 rfl) ?_
    refine k_zald C hK hW (shM_lt (rfl : shM 45 = 16) (by decide)) (ceM_16 (rfl : shM 45 = 16) (rfl : lnM 45 = 3)) hq.1 dX12_restore_17 ?_
    have hq := hq.2
    refine lv_if_ne (tgt := 23) hx hb dX12_restore_18 (by decide) (fun c4 => ?_) (fun c4 => ?_)
    · have hq := hq.1 c4
      refine lv_aload_n hx hb dX12_restore_23 rfl (lv_at hl 0 rfl) ?_
      refine lv_aload_n hx hb dX12_restore_24 rfl (lv_at hl 0 rfl) ?_
      refine gt12_70 C hK hW (rfl : shM 0 = 12) (List.mem_cons_of_mem _ mw312) (fun _ h9 => List.mem_cons_of_mem _ (inU_wsX120 _ h9)) dX12_restore_25 ?_
      refine lv_iload_n hx hb dX12_restore_28 rfl (lv_at hl 1 rfl) ?_
      refine k_iald C hK hW (shM_lt (rfl : shM 46 = 14) (by decide)) (ceM_14 (rfl : shM 46 = 14) (rfl : lnM 46 = 3)) hq.1 dX12_restore_29 ?_
      have hq := hq.2
      refine pt12_57 C hK hW (rfl : shM 0 = 12) (List.mem_cons_of_mem _ mw617) (fun _ h9 => List.mem_cons_of_mem _ (inU_wsX120 _ h9)) dX12_restore_30 (fun h5 H locs eh5 hW => ?_)
      have hq := hq h5 eh5
      refine lv_iconst (v := 0) hx hb dX12_restore_33 (by decide) ?_
      refine lv_istore_n (lv' := [(2, .int 0), (0, .ref (G.2.2 0)), (1, .int x1)]) hx hb dX12_restore_34 rfl hl (by decide) rfl (fun ls hl => ?_)
      exact k_X12_restore_35 C hK hW (lv_sub hl [1, 2, 0] rfl) hq
    · have hq := hq.2 c4
      refine lv_iconst (v := 0) hx hb dX12_restore_21 (by decide) ?_
      exact k_zret rfl isZ_0.1 C hW dX12_restore_22 hq
theorem c_X12_restore (l : Launch) (G : wG) (h : hp) (x1 : Int32) (Q : Int32 → hp → Prop) (hq : w_X12_restore h x1 Q) : ctI l SM G yX12_restore wUX12_restore rmX12_restore h [.ref (G.2.2 0), .int x1] Q := by
  refine k_start (cc := cX12_restore) (maxL := 3) (rt := (some .boolean)) (own := RX12) (by decide +kernel) rfl rfl (Nat.le_of_ble_eq_true rfl) ?_
  intro p e s m below meth c ls C hK hW hl
  exact k_X12_restore_0 C hK hW hl hq
theorem k_X12_count_162 {Q : Int32 → Prop} {h : hp} {s0 : Int32} {s1 : Int32} (C : kC p s m args meth c cX12_count 2 (some .int) RX12 wUX12_count) (hK : kK G s) {H : Heap} {locs : List Loc} {ls : Array Slot} (hW : kW SM G h (aS SM G) s H locs) (hl : lv_has ls 2 [(0, .ref (G.2.2 0))]) (hq : w_X12_count_162 Q h s0 s1) : W p l e rmX12_count s m args below meth c H locs 0 0 (MQ below (va_Qi (fun r9 h9 => h9 = h ∧ Q r9) (kB SM G) (aS SM G)) args s 0 0 (aS SM G)) (F0 m 162 ls [.int s0, .int s1]) := by
  have hx := C.1
  have hb := C.2.1
  unfold w_X12_count_162 at hq
  refine lv_iadd hx hb dX12_count_162 ?_
  refine lv_aload_n hx hb dX12_count_163 rfl (lv_at hl 0 rfl) ?_
  refine gt12_69 C hK hW (rfl : shM 0 = 12) (List.mem_cons_of_mem _ mw311) (fun _ h9 => List.mem_cons_of_mem _ (inU_wsX120 _ h9)) dX12_count_164 ?_
  refine lv_iconst (v := 2) hx hb dX12_count_167 (by decide) ?_
  refine k_zald C hK hW (shM_lt (rfl : shM 45 = 16) (by decide)) (ceM_16 (rfl : shM 45 = 16) (rfl : lnM 45 = 3)) hq.1 dX12_count_168 ?_
  have hq := hq.2
  refine lv_if_eq (tgt := 176) hx hb dX12_count_169 (by decide) (fun c18 => ?_) (fun c18 => ?_)
  · have hq := hq.1 c18
    refine lv_iconst (v := 0) hx hb dX12_count_176 (by decide) ?_
    refine lv_iadd hx hb dX12_count_177 ?_
    exact k_iret rfl C hW dX12_count_178 ⟨rfl, hq⟩
  · have hq := hq.2 c18
    refine lv_iconst (v := 1) hx hb dX12_count_172 (by decide) ?_
    refine lv_goto (tgt := 177) hx hb dX12_count_173 (by decide) ?_
    refine lv_iadd hx hb dX12_count_177 ?_
    exact k_iret rfl C hW dX12_count_178 ⟨rfl, hq⟩
theorem k_X12_count_148 {Q : Int32 → Prop} {h : hp} {s0 : Int32} (C : kC p s m args meth c cX12_count 2 (some .int) RX12 wUX12_count) (hK : kK G s) {H : Heap} {locs : List Loc} {ls : Array Slot} (hW : kW SM G h (aS SM G) s H locs) (hl : lv_has ls 2 [(0, .ref (G.2.2 0))]) (hq : w_X12_count_148 Q h s0) : W p l e rmX12_count s m args below meth c H locs 0 0 (MQ below (va_Qi (fun r9 h9 => h9 = h ∧ Q r9) (kB SM G) (aS SM G)) args s 0 0 (aS SM G)) (F0 m 148 ls [.int s0]) := by
  have hx := C.1
  have hb := C.2.1
  unfold w_X12_count_148 at hq
  refine lv_aload_n hx hb dX12_count_148 rfl (lv_at hl 0 rfl) ?_
  refine gt12_69 C hK hW (rfl : shM 0 = 12) (List.mem_cons_of_mem _ mw311) (fun _ h9 => List.mem_cons_of_mem _ (inU_wsX120 _ h9)) dX12_count_149 ?_
  refine lv_iconst (v := 1) hx hb dX12_count_152 (by decide) ?_
  refine k_zald C hK hW (shM_lt (rfl : shM 45 = 16) (by decide)) (ceM_16 (rfl : shM 45 = 16) (rfl : lnM 45 = 3)) hq.1 dX12_count_153 ?_
  have hq := hq.2
  refine lv_if_eq (tgt := 161) hx hb dX12_count_154 (by decide) (fun c17 => ?_) (fun c17 => ?_)
  · have hq := hq.1 c17
    refine lv_iconst (v := 0) hx hb dX12_count_161 (by decide) ?_
    exact k_X12_count_162 C hK hW (lv_sub hl [0] rfl) hq
  · have hq := hq.2 c17
    refine lv_iconst (v := 1) hx hb dX12_count_157 (by decide) ?_
    refine lv_goto (tgt := 162) hx hb dX12_count_158 (by decide) ?_
    exact k_X12_count_162 C hK hW (lv_sub hl [0] rfl) hq
theorem k_X12_count_0 {Q : Int32 → Prop} {x1 : Int32} {h : hp} (C : kC p s m args meth c cX12_count 2 (some .int) RX12 wUX12_count) (hK : kK G s) {H : Heap} {locs : List Loc} {ls : Array Slot} (hW : kW SM G h (aS SM G) s H locs) (hl : lv_has ls 2 [(0, .ref (G.2.2 0)), (1, .int x1)]) (hq : w_X12_count_0 Q x1 h) : W p l e rmX12_count s m args below meth c H locs 0 0 (MQ below (va_Qi (fun r9 h9 => h9 = h ∧ Q r9) (kB SM G) (aS SM G)) args s 0 0 (aS SM G)) (F0 m 0 ls []) := by
  have hx := C.1
  have hb := C.2.1
  unfold w_X12_count_0 at hq
  refine lv_iload_n hx hb dX12_count_0 rfl (lv_at hl 1 rfl) ?_
  refine lv_topi (fun sw1 esw1 => ?_)
  have hq := hq sw1 esw1
  by_cases c2 : sw1 = 0
  · have hq := hq.1 c2
    refine k_top c2 ?_
    refine lv_tableIn (tgt := 64) (off := 63) hx hb dX12_count_1 (by decide) (by decide) (by decide) (by decide) ?_
    refine lv_aload_n hx hb dX12_count_64 rfl (lv_at hl 0 rfl) ?_
    refine gt12_22 C hK hW (rfl : shM 0 = 12) (List.mem_cons_of_mem _ mw272) (fun _ h9 => List.mem_cons_of_mem _ (inU_wsX120 _ h9)) dX12_count_65 ?_
    refine lv_aload_n hx hb dX12_count_68 rfl (lv_at hl 0 rfl) ?_
    refine gt12_18 C hK hW (rfl : shM 0 = 12) (List.mem_cons_of_mem _ mw610) (fun _ h9 => List.mem_cons_of_mem _ (inU_wsX120 _ h9)) dX12_count_69 ?_
    refine k_iald C hK hW (shM_lt (rfl : shM 9 = 14) (by decide)) (ceM_14 (rfl : shM 9 = 14) (rfl : lnM 9 = 2)) hq.1 dX12_count_72 ?_
    have hq := hq.2
    exact k_iret rfl C hW dX12_count_73 ⟨rfl, hq⟩
  have hq := hq.2
  by_cases c3 : sw1 = 1
  · have hq := hq.1 c3
    refine k_top c3 ?_
    refine lv_tableIn (tgt := 74) (off := 73) hx hb dX12_count_1 (by decide) (by decide) (by decide) (by decide) ?_
    refine lv_aload_n hx hb dX12_count_74 rfl (lv_at hl 0 rfl) ?_
    refine gt12_26 C hK hW (rfl : shM 0 = 12) (List.mem_cons_of_mem _ mw276) (fun _ h9 => List.mem_cons_of_mem _ (inU_wsX120 _ h9)) dX12_count_75 ?_
    refine lv_aload_n hx hb dX12_count_78 rfl (lv_at hl 0 rfl) ?_
    refine gt12_18 C hK hW (rfl : shM 0 = 12) (List.mem_cons_of_mem _ mw610) (fun _ h9 => List.mem_cons_of_mem _ (inU_wsX120 _ h9)) dX12_count_79 ?_
    refine k_iald C hK hW (shM_lt (rfl : shM 13 = 14) (by decide)) (ceM_14 (rfl : shM 13 = 14) (rfl : lnM 13 = 2)) hq.1 dX12_count_82 ?_
    have hq := hq.2
    exact k_iret rfl C hW dX12_count_83 ⟨rfl, hq⟩
  have hq := hq.2
  by_cases c4 : sw1 = 2
  · have hq := hq.1 c4
    refine k_top c4 ?_
    refine lv_tableIn (tgt := 84) (off := 83) hx hb dX12_count_1 (by decide) (by decide) (by decide) (by decide) ?_
    refine lv_aload_n hx hb dX12_count_84 rfl (lv_at hl 0 rfl) ?_
    refine gt12_30 C hK hW (rfl : shM 0 = 12) (List.mem_cons_of_mem _ mw280) (fun _ h9 => List.mem_cons_of_mem _ (inU_wsX120 _ h9)) dX12_count_85 ?_
    refine lv_aload_n hx hb dX12_count_88 rfl (lv_at hl 0 rfl) ?_
    refine gt12_18 C hK hW (rfl : shM 0 = 12) (List.mem_cons_of_mem _ mw610) (fun _ h9 => List.mem_cons_of_mem _ (inU_wsX120 _ h9)) dX12_count_89 ?_
    refine k_iald C hK hW (shM_lt (rfl : shM 17 = 14) (by decide)) (ceM_14 (rfl : shM 17 = 14) (rfl : lnM 17 = 2)) hq.1 dX12_count_92 ?_
    have hq := hq.2
    exact k_iret rfl C hW dX12_count_93 ⟨rfl, hq⟩
  have hq := hq.2
  by_cases c5 : sw1 = 3
  · have hq := hq.1 c5
    refine k_top c5 ?_
    refine lv_tableIn (tgt := 94) (off := 93) hx hb dX12_count_1 (by decide) (by decide) (by decide) (by decide) ?_
    refine lv_aload_n hx hb dX12_count_94 rfl (lv_at hl 0 rfl) ?_
    refine gt12_25 C hK hW (rfl : shM 0 = 12) (List.mem_cons_of_mem _ mw275) (fun _ h9 => List.mem_cons_of_mem _ (inU_wsX120 _ h9)) dX12_count_95 ?_
    refine lv_aload_n hx hb dX12_count_98 rfl (lv_at hl 0 rfl) ?_
    refine gt12_18 C hK hW (rfl : shM 0 = 12) (List.mem_cons_of_mem _ mw610) (fun _ h9 => List.mem_cons_of_mem _ (inU_wsX120 _ h9)) dX12_count_99 ?_
    refine k_iald C hK hW (shM_lt (rfl : shM 12 = 14) (by decide)) (ceM_14 (rfl : shM 12 = 14) (rfl : lnM 12 = 2)) hq.1 dX12_count_102 ?_
    have hq := hq.2
    exact k_iret rfl C hW dX12_count_103 ⟨rfl, hq⟩
  have hq := hq.2
  by_cases c6 : sw1 = 4
  · have hq := hq.1 c6
    refine k_top c6 ?_
    refine lv_tableIn (tgt := 104) (off := 103) hx hb dX12_count_1 (by decide) (by decide) (by decide) (by decide) ?_
    refine lv_aload_n hx hb dX12_count_104 rfl (lv_at hl 0 rfl) ?_
    refine gt12_32 C hK hW (rfl : shM 0 = 12) (List.mem_cons_of_mem _ mw282) (fun _ h9 => List.mem_cons_of_mem _ (inU_wsX120 _ h9)) dX12_count_105 ?_
    refine lv_aload_n hx hb dX12_count_108 rfl (lv_at hl 0 rfl) ?_
    refine gt12_18 C hK hW (rfl : shM 0 = 12) (List.mem_cons_of_mem _ mw610) (fun _ h9 => List.mem_cons_of_mem _ (inU_wsX120 _ h9)) dX12_count_109 ?_
    refine k_iald C hK hW (shM_lt (rfl : shM 19 = 14) (by decide)) (ceM_14 (rfl : shM 19 = 14) (rfl : lnM 19 = 2)) hq.1 dX12_count_112 ?_
    have hq := hq.2
    exact k_iret rfl C hW dX12_count_113 ⟨rfl, hq⟩
  have hq := hq.2
  by_cases c7 : sw1 = 5
  · have hq := hq.1 c7
    refine k_top c7 ?_
    refine lv_tableIn (tgt := 114) (off := 113) hx hb dX12_count_1 (by decide) (by decide) (by decide) (by decide) ?_
    refine lv_aload_n hx hb dX12_count_114 rfl (lv_at hl 0 rfl) ?_
    refine gt12_33 C hK hW (rfl : shM 0 = 12) (List.mem_cons_of_mem _ mw283) (fun _ h9 => List.mem_cons_of_mem _ (inU_wsX120 _ h9)) dX12_count_115 ?_
    refine lv_aload_n hx hb dX12_count_118 rfl (lv_at hl 0 rfl) ?_
    refine gt12_18 C hK hW (rfl : shM 0 = 12) (List.mem_cons_of_mem _ mw610) (fun _ h9 => List.mem_cons_of_mem _ (inU_wsX120 _ h9)) dX12_count_119 ?_
    refine k_iald C hK hW (shM_lt (rfl : shM 20 = 14) (by decide)) (ceM_14 (rfl : shM 20 = 14) (rfl : lnM 20 = 2)) hq.1 dX12_count_122 ?_
    have hq := hq.2
    exact k_iret rfl C hW dX12_count_123 ⟨rfl, hq⟩
  have hq := hq.2
  by_cases c8 : sw1 = 6
  · have hq := hq.1 c8
    refine k_top c8 ?_
    refine lv_tableIn (tgt := 124) (off := 123) hx hb dX12_count_1 (by decide) (by decide) (by decide) (by decide) ?_
    refine lv_aload_n hx hb dX12_count_124 rfl (lv_at hl 0 rfl) ?_
    refine gt12_2 C hK hW (rfl : shM 0 = 12) (List.mem_cons_of_mem _ mw338) (fun _ h9 => List.mem_cons_of_mem _ (inU_wsX120 _ h9)) dX12_count_125 ?_
    exact k_iret rfl C hW dX12_count_128 ⟨rfl, hq⟩
  have hq := hq.2
  by_cases c9 : sw1 = 7
  · have hq := hq.1 c9
    refine k_top c9 ?_
    refine lv_tableIn (tgt := 129) (off := 128) hx hb dX12_count_1 (by decide) (by decide) (by decide) (by decide) ?_
    refine lv_aload_n hx hb dX12_count_129 rfl (lv_at hl 0 rfl) ?_
    refine gt12_57 C hK hW (rfl : shM 0 = 12) (List.mem_cons_of_mem _ mw617) (fun _ h9 => List.mem_cons_of_mem _ (inU_wsX120 _ h9)) dX12_count_130 ?_
    exact k_iret rfl C hW dX12_count_133 ⟨rfl, hq⟩
  have hq := hq.2
  by_cases c10 : sw1 = 8
  · have hq := hq.1 c10
    refine k_top c10 ?_
    refine lv_tableIn (tgt := 134) (off := 133) hx hb dX12_count_1 (by decide) (by decide) (by decide) (by decide) ?_
    refine lv_aload_n hx hb dX12_count_134 rfl (lv_at hl 0 rfl) ?_
    refine gt12_69 C hK hW (rfl : shM 0 = 12) (List.mem_cons_of_mem _ mw311) (fun _ h9 => List.mem_cons_of_mem _ (inU_wsX120 _ h9)) dX12_count_135 ?_
    refine lv_iconst (v := 0) hx hb dX12_count_138 (by decide) ?_
    refine k_zald C hK hW (shM_lt (rfl : shM 45 = 16) (by decide)) (ceM_16 (rfl : shM 45 = 16) (rfl : lnM 45 = 3)) hq.1 dX12_count_139 ?_
    have hq := hq.2
    refine lv_if_eq (tgt := 147) hx hb dX12_count_140 (by decide) (fun c11 => ?_) (fun c11 => ?_)
    · have hq := hq.1 c11
      refine lv_iconst (v := 0) hx hb dX12_count_147 (by decide) ?_
      exact k_X12_count_148 C hK hW (lv_sub hl [0] rfl) hq
    · have hq := hq.2 c11
      refine lv_iconst (v := 1) hx hb dX12_count_143 (by decide) ?_
      refine lv_goto (tgt := 148) hx hb dX12_count_144 (by decide) ?_
      exact k_X12_count_148 C hK hW (lv_sub hl [0] rfl) hq
  have hq := hq.2
  by_cases c12 : sw1 = 9
  · have hq := hq.1 c12
    refine k_top c12 ?_
    refine lv_tableIn (tgt := 179) (off := 178) hx hb dX12_count_1 (by decide) (by decide) (by decide) (by decide) ?_
    refine lv_aload_n hx hb dX12_count_179 rfl (lv_at hl 0 rfl) ?_
    refine gt12_34 C hK hW (rfl : shM 0 = 12) (List.mem_cons_of_mem _ mw284) (fun _ h9 => List.mem_cons_of_mem _ (inU_wsX120 _ h9)) dX12_count_180 ?_
    refine lv_aload_n hx hb dX12_count_183 rfl (lv_at hl 0 rfl) ?_
    refine gt12_18 C hK hW (rfl : shM 0 = 12) (List.mem_cons_of_mem _ mw610) (fun _ h9 => List.mem_cons_of_mem _ (inU_wsX120 _ h9)) dX12_count_184 ?_
    refine k_iald C hK hW (shM_lt (rfl : shM 21 = 14) (by decide)) (ceM_14 (rfl : shM 21 = 14) (rfl : lnM 21 = 2)) hq.1 dX12_count_187 ?_
    have hq := hq.2
    exact k_iret rfl C hW dX12_count_188 ⟨rfl, hq⟩
  have hq := hq.2
  by_cases c13 : sw1 = 10
  · have hq := hq.1 c13
    refine k_top c13 ?_
    refine lv_tableIn (tgt := 189) (off := 188) hx hb dX12_count_1 (by decide) (by decide) (by decide) (by decide) ?_
    refine lv_aload_n hx hb dX12_count_189 rfl (lv_at hl 0 rfl) ?_
    refine gt12_61 C hK hW (rfl : shM 0 = 12) (List.mem_cons_of_mem _ mw306) (fun _ h9 => List.mem_cons_of_mem _ (inU_wsX120 _ h9)) dX12_count_190 ?_
    refine lv_if_ge (tgt := 201) hx hb dX12_count_193 (by decide) (fun c14 => ?_) (fun c14 => ?_)
    · have hq := hq.1 c14
      refine lv_aload_n hx hb dX12_count_201 rfl (lv_at hl 0 rfl) ?_
      refine gt12_61 C hK hW (rfl : shM 0 = 12) (List.mem_cons_of_mem _ mw306) (fun _ h9 => List.mem_cons_of_mem _ (inU_wsX120 _ h9)) dX12_count_202 ?_
      exact k_iret rfl C hW dX12_count_205 ⟨rfl, hq⟩
    · have hq := hq.2 c14
      refine lv_bipush (v := (-2)) hx hb dX12_count_196 (by decide) ?_
      refine lv_goto (tgt := 205) hx hb dX12_count_198 (by decide) ?_
      exact k_iret rfl C hW dX12_count_205 ⟨rfl, hq⟩
  have hq := hq.2
  by_cases c15 : sw1 = 11
  · have hq := hq.1 c15
    refine k_top c15 ?_
    refine lv_tableIn (tgt := 206) (off := 205) hx hb dX12_count_1 (by decide) (by decide) (by decide) (by decide) ?_
    refine lv_aload_n hx hb dX12_count_206 rfl (lv_at hl 0 rfl) ?_
    refine gt12_62 C hK hW (rfl : shM 0 = 12) (List.mem_cons_of_mem _ mw618) (fun _ h9 => List.mem_cons_of_mem _ (inU_wsX120 _ h9)) dX12_count_207 ?_
    exact k_iret rfl C hW dX12_count_210 ⟨rfl, hq⟩
  have hq := hq.2
  have c16 : sw1.toInt < 0 ∨ 11 < sw1.toInt := by
    rcases Int.lt_or_le sw1.toInt 0 with q | q
    · exact Or.inl q
    · refine Or.inr (Int.not_le.mp fun q2 => ?_)
      have q3 : sw1 = Int32.ofInt sw1.toInt := (Int32.ofInt_toInt sw1).symm
      have q4 : sw1.toInt = 0 ∨ sw1.toInt = 1 ∨ sw1.toInt = 2 ∨ sw1.toInt = 3 ∨ sw1.toInt = 4 ∨ sw1.toInt = 5 ∨ sw1.toInt = 6 ∨ sw1.toInt = 7 ∨ sw1.toInt = 8 ∨ sw1.toInt = 9 ∨ sw1.toInt = 10 ∨ sw1.toInt = 11 := by omega
      rcases q4 with q4 | q4 | q4 | q4 | q4 | q4 | q4 | q4 | q4 | q4 | q4 | q4 <;> rw [q4] at q3 <;> simp_all
  refine lv_tableOut (tgt := 211) hx hb dX12_count_1 c16 (by decide) ?_
  have hq := hq c16
  refine lv_iconst (v := (-1)) hx hb dX12_count_211 (by decide) ?_
  exact k_iret rfl C hW dX12_count_212 ⟨rfl, hq⟩
theorem c_X12_count (l : Launch) (G : wG) (h : hp) (x1 : Int32) (Q : Int32 → Prop) (hq : w_X12_count h x1 Q) : ctI l SM G yX12_count wUX12_count rmX12_count h [.ref (G.2.2 0), .int x1] (fun r9 h9 => h9 = h ∧ Q r9) := by
  refine k_start (cc := cX12_count) (maxL := 2) (rt := (some .int)) (own := RX12) (by decide +kernel) rfl rfl (Nat.le_of_ble_eq_true rfl) ?_
  intro p e s m below meth c ls C hK hW hl
  exact k_X12_count_0 C hK hW hl hq
end LINKS
