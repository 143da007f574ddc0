section LINKS
variable {p : Program} {l : Launch} {e : Env} {s : State} {m : MethodId} {args : Array Value} {below : List Frame} {meth : Method} {c : Code} {G : wG}
theorem k_X12_unit_88 {Q : hp → Prop} {h : hp} (C : kC p s m args meth c cX12_unit 1 none RX12 wUX12_unit) (hK : kK G s) {H : Heap} {locs : List Loc} {ls : Array Slot} (hW : kW SM G h (aS SM G) s H locs) (hl : lv_has ls 1 [(0, .ref (G.2.2 0))]) (hq : w_X12_unit_88 Q h) : W p l e rmX12_unit s m args below meth c H locs 0 0 (MQ below (va_Qv Q (kB SM G) (aS SM G)) args s 0 0 (aS SM G)) (F0 m 88 ls []) := by
  have hx := C.1
  have hb := C.2.1
  unfold w_X12_unit_88 at hq
  refine lv_aload_n hx hb dX12_unit_88 rfl (lv_at hl 0 rfl) ?_
  refine lv_iconst (v := 1) hx hb dX12_unit_89 (by decide) ?_
  refine k_cv hW (va_runV (As := [.int 1]) (rest := []) (k_fix C) (c_X12_fail l G h 1 _ hq) (cwV 1 C.2.2.2.2.2.1 (gU_V mw654 mw655 mw656 mw5 mw657) rfl rfl rfl (by decide +kernel) ⟨Nat.le_of_ble_eq_true rfl, Nat.le_of_ble_eq_true rfl⟩) (k_preV hK hW (shM_lt (rfl : shM 0 = 12) (by decide)) (ceM_12 (rfl : shM 0 = 12)) (q := (RX12, TX12, 73)) rfl) rfl rfl hl.1 rfl (lv_room (Nat.le_of_ble_eq_true rfl)) dX12_unit_90 ⟨Nat.le_refl 0, Nat.le_refl 0⟩) (fun h11 H locs hq hW => ?_)
  exact k_vret rfl C hW dX12_unit_93 hq
theorem k_X12_unit_0 {Q : hp → Prop} {h : hp} (C : kC p s m args meth c cX12_unit 1 none RX12 wUX12_unit) (hK : kK G s) {H : Heap} {locs : List Loc} {ls : Array Slot} (hW : kW SM G h (aS SM G) s H locs) (hl : lv_has ls 1 [(0, .ref (G.2.2 0))]) (hq : w_X12_unit_0 Q h) : W p l e rmX12_unit s m args below meth c H locs 0 0 (MQ below (va_Qv Q (kB SM G) (aS SM G)) args s 0 0 (aS SM G)) (F0 m 0 ls []) := by
  have hx := C.1
  have hb := C.2.1
  unfold w_X12_unit_0 at hq
  refine lv_aload_n hx hb dX12_unit_0 rfl (lv_at hl 0 rfl) ?_
  refine lv_iconst (v := 2) hx hb dX12_unit_1 (by decide) ?_
  refine k_ci hW (va_runV (As := [.int 2]) (rest := []) (k_fix C) (c_X12_is l G h 2 _ hq) (cwV 1 C.2.2.2.2.2.1 (gU_V mw642 mw643 mw644 mw5 mw645) rfl rfl rfl (by decide +kernel) ⟨Nat.le_of_ble_eq_true rfl, Nat.le_of_ble_eq_true rfl⟩) (k_preV hK hW (shM_lt (rfl : shM 0 = 12) (by decide)) (ceM_12 (rfl : shM 0 = 12)) (q := (RX12, TX12, 73)) rfl) rfl rfl hl.1 rfl (lv_room (Nat.le_of_ble_eq_true rfl)) dX12_unit_2 ⟨Nat.le_refl 0, Nat.le_refl 0⟩) (fun r1 h2 H locs hq hW => ?_)
  rw [hq.1] at hW
  have hq := hq.2
  refine lv_if_eq (tgt := 29) hx hb dX12_unit_5 (by decide) (fun c3 => ?_) (fun c3 => ?_)
  · have hq := hq.1 c3
    refine lv_aload_n hx hb dX12_unit_29 rfl (lv_at hl 0 rfl) ?_
    refine gt12_13 C hK hW (rfl : shM 0 = 12) (List.mem_cons_of_mem _ mw608) (fun _ h9 => List.mem_cons_of_mem _ (inU_wsX120 _ h9)) dX12_unit_30 ?_
    refine lv_if_ne (tgt := 88) hx hb dX12_unit_33 (by decide) (fun c4 => ?_) (fun c4 => ?_)
    · have hq := hq.1 c4
      exact k_X12_unit_88 C hK hW (lv_sub hl [0] rfl) hq
    · have hq := hq.2 c4
      refine lv_aload_n hx hb dX12_unit_36 rfl (lv_at hl 0 rfl) ?_
      refine gt12_5 C hK hW (rfl : shM 0 = 12) (List.mem_cons_of_mem _ mw265) (fun _ h9 => List.mem_cons_of_mem _ (inU_wsX120 _ h9)) dX12_unit_37 ?_
      refine lv_aload_n hx hb dX12_unit_40 rfl (lv_at hl 0 rfl) ?_
      refine gt12_11 C hK hW (rfl : shM 0 = 12) (List.mem_cons_of_mem _ mw606) (fun _ h9 => List.mem_cons_of_mem _ (inU_wsX120 _ h9)) dX12_unit_41 ?_
      refine k_iald C hK hW (shM_lt (rfl : shM 3 = 14) (by decide)) (ceM_14 (rfl : shM 3 = 14) (rfl : lnM 3 = 403)) hq.1 dX12_unit_44 ?_
      have hq := hq.2
      refine lv_bipush (v := 31) hx hb dX12_unit_45 (by decide) ?_
      refine lv_icmp_lt (tgt := 88) hx hb dX12_unit_47 (by decide) (fun c5 => ?_) (fun c5 => ?_)
      · have hq := hq.1 c5
        exact k_X12_unit_88 C hK hW (lv_sub hl [0] rfl) hq
      · have hq := hq.2 c5
        refine lv_aload_n hx hb dX12_unit_50 rfl (lv_at hl 0 rfl) ?_
        refine gt12_5 C hK hW (rfl : shM 0 = 12) (List.mem_cons_of_mem _ mw265) (fun _ h9 => List.mem_cons_of_mem _ (inU_wsX120 _ h9)) dX12_unit_51 ?_
        refine lv_aload_n hx hb dX12_unit_54 rfl (lv_at hl 0 rfl) ?_
        refine gt12_11 C hK hW (rfl : shM 0 = 12) (List.mem_cons_of_mem _ mw606) (fun _ h9 => List.mem_cons_of_mem _ (inU_wsX120 _ h9)) dX12_unit_55 ?_
        refine k_iald C hK hW (shM_lt (rfl : shM 3 = 14) (by decide)) (ceM_14 (rfl : shM 3 = 14) (rfl : lnM 3 = 403)) hq.1 dX12_unit_58 ?_
        have hq := hq.2
        refine lv_bipush (v := 36) hx hb dX12_unit_59 (by decide) ?_
        refine lv_icmp_gt (tgt := 88) hx hb dX12_unit_61 (by decide) (fun c6 => ?_) (fun c6 => ?_)
        · have hq := hq.1 c6
          exact k_X12_unit_88 C hK hW (lv_sub hl [0] rfl) hq
        · have hq := hq.2 c6
          refine lv_aload_n hx hb dX12_unit_64 rfl (lv_at hl 0 rfl) ?_
          refine lv_iconst (v := 1) hx hb dX12_unit_65 (by decide) ?_
          refine lv_aload_n hx hb dX12_unit_66 rfl (lv_at hl 0 rfl) ?_
          refine gt12_5 C hK hW (rfl : shM 0 = 12) (List.mem_cons_of_mem _ mw265) (fun _ h9 => List.mem_cons_of_mem _ (inU_wsX120 _ h9)) dX12_unit_67 ?_
          refine lv_aload_n hx hb dX12_unit_70 rfl (lv_at hl 0 rfl) ?_
          refine gt12_11 C hK hW (rfl : shM 0 = 12) (List.mem_cons_of_mem _ mw606) (fun _ h9 => List.mem_cons_of_mem _ (inU_wsX120 _ h9)) dX12_unit_71 ?_
          refine k_iald C hK hW (shM_lt (rfl : shM 3 = 14) (by decide)) (ceM_14 (rfl : shM 3 = 14) (rfl : lnM 3 = 403)) hq.1 dX12_unit_74 ?_
          have hq := hq.2
          refine lv_bipush (v := 31) hx hb dX12_unit_75 (by decide) ?_
          refine lv_isub hx hb dX12_unit_77 ?_
          refine k_cv hW (va_runV (As := [.int 1, .int ((gI h 3 (ix (gI h 0 11))) - 31)]) (rest := []) (k_fix C) (c_X12_emit l G h 1 ((gI h 3 (ix (gI h 0 11))) - 31) _ hq) (cwV 2 C.2.2.2.2.2.1 (gU_V mw695 mw696 mw697 mw5 mw698) rfl rfl rfl (by decide +kernel) ⟨Nat.le_of_ble_eq_true rfl, Nat.le_of_ble_eq_true rfl⟩) (k_preV hK hW (shM_lt (rfl : shM 0 = 12) (by decide)) (ceM_12 (rfl : shM 0 = 12)) (q := (RX12, TX12, 73)) rfl) rfl rfl hl.1 rfl (lv_room (Nat.le_of_ble_eq_true rfl)) dX12_unit_78 ⟨Nat.le_refl 0, Nat.le_refl 0⟩) (fun h7 H locs hq hW => ?_)
          refine lv_aload_n hx hb dX12_unit_81 rfl (lv_at hl 0 rfl) ?_
          refine k_cv hW (va_runV (As := []) (rest := []) (k_fix C) (c_X12_goesOn l G h7 _ hq) (cwV 0 C.2.2.2.2.2.1 (gU_V mw658 mw659 mw660 mw5 mw661) rfl rfl rfl (by decide +kernel) ⟨Nat.le_of_ble_eq_true rfl, Nat.le_of_ble_eq_true rfl⟩) (k_preV hK hW (shM_lt (rfl : shM 0 = 12) (by decide)) (ceM_12 (rfl : shM 0 = 12)) (q := (RX12, TX12, 73)) rfl) rfl rfl hl.1 rfl (lv_room (Nat.le_of_ble_eq_true rfl)) dX12_unit_82 ⟨Nat.le_refl 0, Nat.le_refl 0⟩) (fun h8 H locs hq hW => ?_)
          refine lv_goto (tgt := 93) hx hb dX12_unit_85 (by decide) ?_
          exact k_vret rfl C hW dX12_unit_93 hq
  · have hq := hq.2 c3
    refine lv_aload_n hx hb dX12_unit_8 rfl (lv_at hl 0 rfl) ?_
    refine lv_iconst (v := 0) hx hb dX12_unit_9 (by decide) ?_
    refine lv_aload_n hx hb dX12_unit_10 rfl (lv_at hl 0 rfl) ?_
    refine gt12_7 C hK hW (rfl : shM 0 = 12) (List.mem_cons_of_mem _ mw267) (fun _ h9 => List.mem_cons_of_mem _ (inU_wsX120 _ h9)) dX12_unit_11 ?_
    refine lv_aload_n hx hb dX12_unit_14 rfl (lv_at hl 0 rfl) ?_
    refine gt12_11 C hK hW (rfl : shM 0 = 12) (List.mem_cons_of_mem _ mw606) (fun _ h9 => List.mem_cons_of_mem _ (inU_wsX120 _ h9)) dX12_unit_15 ?_
    refine k_iald C hK hW (shM_lt (rfl : shM 5 = 14) (by decide)) (ceM_14 (rfl : shM 5 = 14) (rfl : lnM 5 = 403)) hq.1 dX12_unit_18 ?_
    have hq := hq.2
    refine k_cv hW (va_runV (As := [.int 0, .int (gI h 5 (ix (gI h 0 11)))]) (rest := []) (k_fix C) (c_X12_emit l G h 0 (gI h 5 (ix (gI h 0 11))) _ hq) (cwV 2 C.2.2.2.2.2.1 (gU_V mw695 mw696 mw697 mw5 mw698) rfl rfl rfl (by decide +kernel) ⟨Nat.le_of_ble_eq_true rfl, Nat.le_of_ble_eq_true rfl⟩) (k_preV hK hW (shM_lt (rfl : shM 0 = 12) (by decide)) (ceM_12 (rfl : shM 0 = 12)) (q := (RX12, TX12, 73)) rfl) rfl rfl hl.1 rfl (lv_room (Nat.le_of_ble_eq_true rfl)) dX12_unit_19 ⟨Nat.le_refl 0, Nat.le_refl 0⟩) (fun h9 H locs hq hW => ?_)
    refine lv_aload_n hx hb dX12_unit_22 rfl (lv_at hl 0 rfl) ?_
    refine k_cv hW (va_runV (As := []) (rest := []) (k_fix C) (c_X12_goesOn l G h9 _ hq) (cwV 0 C.2.2.2.2.2.1 (gU_V mw658 mw659 mw660 mw5 mw661) rfl rfl rfl (by decide +kernel) ⟨Nat.le_of_ble_eq_true rfl, Nat.le_of_ble_eq_true rfl⟩) (k_preV hK hW (shM_lt (rfl : shM 0 = 12) (by decide)) (ceM_12 (rfl : shM 0 = 12)) (q := (RX12, TX12, 73)) rfl) rfl rfl hl.1 rfl (lv_room (Nat.le_of_ble_eq_true rfl)) dX12_unit_23 ⟨Nat.le_refl 0, Nat.le_refl 0⟩) (fun h10 H locs hq hW => ?_)
    refine lv_goto (tgt := 93) hx hb dX12_unit_26 (by decide) ?_
    exact k_vret rfl C hW dX12_unit_93 hq
theorem c_X12_unit (l : Launch) (G : wG) (h : hp) (Q : hp → Prop) (hq : w_X12_unit h Q) : ctV l SM G yX12_unit wUX12_unit rmX12_unit h [.ref (G.2.2 0)] Q := by
  refine k_start (cc := cX12_unit) (maxL := 1) (rt := none) (own := RX12) (by decide +kernel) rfl rfl (Nat.le_of_ble_eq_true rfl) ?_
  intro p e s m below meth c ls C hK hW hl
  exact k_X12_unit_0 C hK hW hl hq
theorem k_X12_comesOut_84 {Q : hp → Prop} {X0 : hp → Prop} {x1 : Int32} {h : hp} {s0 : Int32} (C : kC p s m args meth c cX12_comesOut 3 none RX12 wUX12_comesOut) (hK : kK G s) (hX0 : ∀ (h : hp) (H : Heap) (locs : List Loc) (ls : Array Slot), kW SM G h (aS SM G) s H locs → lv_has ls 3 [(0, .ref (G.2.2 0)), (1, .int x1)] → X0 h → W p l e rmX12_comesOut s m args below meth c H locs 0 0 (MQ below (va_Qv Q (kB SM G) (aS SM G)) args s 0 0 (aS SM G)) (F0 m 0 ls [])) {H : Heap} {locs : List Loc} {ls : Array Slot} (hW : kW SM G h (aS SM G) s H locs) (hl : lv_has ls 3 [(0, .ref (G.2.2 0)), (1, .int x1)]) (hq : w_X12_comesOut_84 Q X0 x1 h s0) : W p l e rmX12_comesOut s m args below meth c H locs 0 0 (MQ below (va_Qv Q (kB SM G) (aS SM G)) args s 0 0 (aS SM G)) (F0 m 84 ls [.int s0, .ref (G.2.2 0)]) := by
  have hx := C.1
  have hb := C.2.1
  unfold w_X12_comesOut_84 at hq
  refine lv_iconst (v := 0) hx hb dX12_comesOut_84 (by decide) ?_
  refine k_cv hW (va_runV (As := [.int s0, .int 0]) (rest := []) (k_fix C) (c_X12_emit l G h s0 0 _ hq) (cwV 2 C.2.2.2.2.2.1 (gU_V mw695 mw696 mw697 mw5 mw698) rfl rfl rfl (by decide +kernel) ⟨Nat.le_of_ble_eq_true rfl, Nat.le_of_ble_eq_true rfl⟩) (k_preV hK hW (shM_lt (rfl : shM 0 = 12) (by decide)) (ceM_12 (rfl : shM 0 = 12)) (q := (RX12, TX12, 73)) rfl) rfl rfl hl.1 rfl (lv_room (Nat.le_of_ble_eq_true rfl)) dX12_comesOut_85 ⟨Nat.le_refl 0, Nat.le_refl 0⟩) (fun h11 H locs hq hW => ?_)
  refine lv_goto (tgt := 0) hx hb dX12_comesOut_88 (by decide) ?_
  exact hX0 _ _ _ _ hW (lv_sub hl [0, 1] rfl) hq
theorem k_X12_comesOut_42 {Q : hp → Prop} {X0 : hp → Prop} {x1 : Int32} {x2 : Int32} {h : hp} (C : kC p s m args meth c cX12_comesOut 3 none RX12 wUX12_comesOut) (hK : kK G s) (hX0 : ∀ (h : hp) (H : Heap) (locs : List Loc) (ls : Array Slot), kW SM G h (aS SM G) s H locs → lv_has ls 3 [(0, .ref (G.2.2 0)), (1, .int x1)] → X0 h → W p l e rmX12_comesOut s m args below meth c H locs 0 0 (MQ below (va_Qv Q (kB SM G) (aS SM G)) args s 0 0 (aS SM G)) (F0 m 0 ls [])) {H : Heap} {locs : List Loc} {ls : Array Slot} (hW : kW SM G h (aS SM G) s H locs) (hl : lv_has ls 3 [(0, .ref (G.2.2 0)), (1, .int x1), (2, .int x2)]) (hq : w_X12_comesOut_42 Q X0 x1 x2 h) : W p l e rmX12_comesOut s m args below meth c H locs 0 0 (MQ below (va_Qv Q (kB SM G) (aS SM G)) args s 0 0 (aS SM G)) (F0 m 42 ls []) := by
  have hx := C.1
  have hb := C.2.1
  unfold w_X12_comesOut_42 at hq
  refine lv_aload_n hx hb dX12_comesOut_42 rfl (lv_at hl 0 rfl) ?_
  refine lv_dup hx hb dX12_comesOut_43 rfl ?_
  refine gt12_47 C hK hW (rfl : shM 0 = 12) (List.mem_cons_of_mem _ mw690) (fun _ h9 => List.mem_cons_of_mem _ (inU_wsX120 _ h9)) dX12_comesOut_44 ?_
  refine lv_iconst (v := 1) hx hb dX12_comesOut_47 (by decide) ?_
  refine lv_isub hx hb dX12_comesOut_48 ?_
  refine pt12_47 C hK hW (rfl : shM 0 = 12) (List.mem_cons_of_mem _ mw690) (fun _ h9 => List.mem_cons_of_mem _ (inU_wsX120 _ h9)) dX12_comesOut_49 (fun h7 H locs eh7 hW => ?_)
  have hq := hq h7 eh7
  refine lv_aload_n hx hb dX12_comesOut_52 rfl (lv_at hl 0 rfl) ?_
  refine lv_iload_n hx hb dX12_comesOut_53 rfl (lv_at hl 2 rfl) ?_
  refine lv_bipush (v := 8) hx hb dX12_comesOut_54 (by decide) ?_
  refine lv_icmp_ne (tgt := 63) hx hb dX12_comesOut_56 (by decide) (fun c8 => ?_) (fun c8 => ?_)
  · have hq := hq.1 c8
    refine lv_iload_n hx hb dX12_comesOut_63 rfl (lv_at hl 2 rfl) ?_
    refine lv_bipush (v := 9) hx hb dX12_comesOut_64 (by decide) ?_
    refine lv_icmp_ne (tgt := 73) hx hb dX12_comesOut_66 (by decide) (fun c9 => ?_) (fun c9 => ?_)
    · have hq := hq.1 c9
      refine lv_iload_n hx hb dX12_comesOut_73 rfl (lv_at hl 2 rfl) ?_
      refine lv_bipush (v := 10) hx hb dX12_comesOut_74 (by decide) ?_
      refine lv_icmp_ne (tgt := 83) hx hb dX12_comesOut_76 (by decide) (fun c10 => ?_) (fun c10 => ?_)
      · have hq := hq.1 c10
        refine lv_iconst (v := 5) hx hb dX12_comesOut_83 (by decide) ?_
        exact k_X12_comesOut_84 C hK hX0 hW (lv_sub hl [0, 1] rfl) hq
      · have hq := hq.2 c10
        refine lv_iconst (v := 4) hx hb dX12_comesOut_79 (by decide) ?_
        refine lv_goto (tgt := 84) hx hb dX12_comesOut_80 (by decide) ?_
        exact k_X12_comesOut_84 C hK hX0 hW (lv_sub hl [0, 1] rfl) hq
    · have hq := hq.2 c9
      refine lv_iconst (v := 3) hx hb dX12_comesOut_69 (by decide) ?_
      refine lv_goto (tgt := 84) hx hb dX12_comesOut_70 (by decide) ?_
      exact k_X12_comesOut_84 C hK hX0 hW (lv_sub hl [0, 1] rfl) hq
  · have hq := hq.2 c8
    refine lv_iconst (v := 2) hx hb dX12_comesOut_59 (by decide) ?_
    refine lv_goto (tgt := 84) hx hb dX12_comesOut_60 (by decide) ?_
    exact k_X12_comesOut_84 C hK hX0 hW (lv_sub hl [0, 1] rfl) hq
theorem k_X12_comesOut_b0 {Q : hp → Prop} {X0 : hp → Prop} {x1 : Int32} (C : kC p s m args meth c cX12_comesOut 3 none RX12 wUX12_comesOut) (hK : kK G s) (hX0 : ∀ (h : hp) (H : Heap) (locs : List Loc) (ls : Array Slot), kW SM G h (aS SM G) s H locs → lv_has ls 3 [(0, .ref (G.2.2 0)), (1, .int x1)] → X0 h → W p l e rmX12_comesOut s m args below meth c H locs 0 0 (MQ below (va_Qv Q (kB SM G) (aS SM G)) args s 0 0 (aS SM G)) (F0 m 0 ls [])) {h : hp} {H : Heap} {locs : List Loc} {ls : Array Slot} (hW : kW SM G h (aS SM G) s H locs) (hl : lv_has ls 3 [(0, .ref (G.2.2 0)), (1, .int x1)]) (hq : w_X12_comesOut_b0 Q x1 X0 h) : W p l e rmX12_comesOut s m args below meth c H locs 0 0 (MQ below (va_Qv Q (kB SM G) (aS SM G)) args s 0 0 (aS SM G)) (F0 m 0 ls []) := by
  have hx := C.1
  have hb := C.2.1
  unfold w_X12_comesOut_b0 at hq
  refine lv_aload_n hx hb dX12_comesOut_0 rfl (lv_at hl 0 rfl) ?_
  refine gt12_47 C hK hW (rfl : shM 0 = 12) (List.mem_cons_of_mem _ mw690) (fun _ h9 => List.mem_cons_of_mem _ (inU_wsX120 _ h9)) dX12_comesOut_1 ?_
  refine lv_if_le (tgt := 91) hx hb dX12_comesOut_4 (by decide) (fun c1 => ?_) (fun c1 => ?_)
  · have hq := hq.1 c1
    exact k_vret rfl C hW dX12_comesOut_91 hq
  · have hq := hq.2 c1
    refine lv_aload_n hx hb dX12_comesOut_7 rfl (lv_at hl 0 rfl) ?_
    refine gt12_46 C hK hW (rfl : shM 0 = 12) (List.mem_cons_of_mem _ mw295) (fun _ h9 => List.mem_cons_of_mem _ (inU_wsX120 _ h9)) dX12_comesOut_8 ?_
    refine lv_aload_n hx hb dX12_comesOut_11 rfl (lv_at hl 0 rfl) ?_
    refine gt12_47 C hK hW (rfl : shM 0 = 12) (List.mem_cons_of_mem _ mw690) (fun _ h9 => List.mem_cons_of_mem _ (inU_wsX120 _ h9)) dX12_comesOut_12 ?_
    refine lv_iconst (v := 1) hx hb dX12_comesOut_15 (by decide) ?_
    refine lv_isub hx hb dX12_comesOut_16 ?_
    refine k_iald C hK hW (shM_lt (rfl : shM 31 = 14) (by decide)) (ceM_14 (rfl : shM 31 = 14) (rfl : lnM 31 = 64)) hq.1 dX12_comesOut_17 ?_
    have hq := hq.2
    refine lv_topi (fun x2_2 ex2_2 => ?_)
    have hq := hq x2_2 ex2_2
    refine lv_istore_n (lv' := [(2, .int x2_2), (0, .ref (G.2.2 0)), (1, .int x1)]) hx hb dX12_comesOut_18 rfl hl (by decide) rfl (fun ls hl => ?_)
    refine lv_iload_n hx hb dX12_comesOut_19 rfl (lv_at hl 0 rfl) ?_
    refine lv_bipush (v := 6) hx hb dX12_comesOut_20 (by decide) ?_
    refine lv_icmp_eq (tgt := 41) hx hb dX12_comesOut_22 (by decide) (fun c3 => ?_) (fun c3 => ?_)
    · have hq := hq.1 c3
      exact k_vret rfl C hW dX12_comesOut_41 hq
    · have hq := hq.2 c3
      refine lv_iload_n hx hb dX12_comesOut_25 rfl (lv_at hl 2 rfl) ?_
      refine lv_if_eq (tgt := 42) hx hb dX12_comesOut_26 (by decide) (fun c4 => ?_) (fun c4 => ?_)
      · have hq := hq.1 c4
        exact k_X12_comesOut_42 C hK hX0 hW (lv_sub hl [1, 2, 0] rfl) hq
      · have hq := hq.2 c4
        refine lv_iload_n hx hb dX12_comesOut_29 rfl (lv_at hl 0 rfl) ?_
        refine lv_bipush (v := 8) hx hb dX12_comesOut_30 (by decide) ?_
        refine lv_icmp_eq (tgt := 41) hx hb dX12_comesOut_32 (by decide) (fun c5 => ?_) (fun c5 => ?_)
        · have hq := hq.1 c5
          exact k_vret rfl C hW dX12_comesOut_41 hq
        · have hq := hq.2 c5
          refine lv_iload_n hx hb dX12_comesOut_35 rfl (lv_at hl 0 rfl) ?_
          refine lv_bipush (v := 9) hx hb dX12_comesOut_36 (by decide) ?_
          refine lv_icmp_ne (tgt := 42) hx hb dX12_comesOut_38 (by decide) (fun c6 => ?_) (fun c6 => ?_)
          · have hq := hq.1 c6
            exact k_X12_comesOut_42 C hK hX0 hW (lv_sub hl [1, 2, 0] rfl) hq
          · have hq := hq.2 c6
            exact k_vret rfl C hW dX12_comesOut_41 hq
theorem k_X12_comesOut_0 {Q : hp → Prop} {x1 : Int32} (C : kC p s m args meth c cX12_comesOut 3 none RX12 wUX12_comesOut) (hK : kK G s) {h : hp} {H : Heap} {locs : List Loc} {ls : Array Slot} (hW : kW SM G h (aS SM G) s H locs) (hl : lv_has ls 3 [(0, .ref (G.2.2 0)), (1, .int x1)]) (hq : w_X12_comesOut_0 Q x1 h) : W p l e rmX12_comesOut s m args below meth c H locs 0 0 (MQ below (va_Qv Q (kB SM G) (aS SM G)) args s 0 0 (aS SM G)) (F0 m 0 ls []) := by
  have key := hq (fun (q : hp) => ∀ (H : Heap) (locs : List Loc) (ls : Array Slot), kW SM G q (aS SM G) s H locs → lv_has ls 3 [(0, .ref (G.2.2 0)), (1, .int x1)] → W p l e rmX12_comesOut s m args below meth c H locs 0 0 (MQ below (va_Qv Q (kB SM G) (aS SM G)) args s 0 0 (aS SM G)) (F0 m 0 ls []))
    (fun q hq H locs ls hW hl => k_X12_comesOut_b0 C hK (fun h H locs ls hW hl hI => hI H locs ls hW hl) hW hl hq)
  exact key _ _ _ hW hl
theorem c_X12_comesOut (l : Launch) (G : wG) (h : hp) (x1 : Int32) (Q : hp → Prop) (hq : w_X12_comesOut h x1 Q) : ctV l SM G yX12_comesOut wUX12_comesOut rmX12_comesOut h [.ref (G.2.2 0), .int x1] Q := by
  refine k_start (cc := cX12_comesOut) (maxL := 3) (rt := none) (own := RX12) (by decide +kernel) rfl rfl (Nat.le_of_ble_eq_true rfl) ?_
  intro p e s m below meth c ls C hK hW hl
  exact k_X12_comesOut_0 C hK hW hl hq
theorem k_X12_expression_46 {Q : hp → Prop} {X12 : Int32 × hp → Prop} {X23 : hp → Prop} {x1 : Int32} {h : hp} (C : kC p s m args meth c cX12_expression 3 none RX12 wUX12_expression) (hK : kK G s) (hX12 : ∀ (x2 : Int32) (h : hp) (H : Heap) (locs : List Loc) (ls : Array Slot), kW SM G h (aS SM G) s H locs → lv_has ls 3 [(0, .ref (G.2.2 0)), (1, .int x1), (2, .int x2)] → X12 (x2, h) → W p l e rmX12_expression s m args below meth c H locs 0 0 (MQ below (va_Qv Q (kB SM G) (aS SM G)) args s 0 0 (aS SM G)) (F0 m 12 ls [])) (hX23 : ∀ (h : hp) (H : Heap) (locs : List Loc) (ls : Array Slot), kW SM G h (aS SM G) s H locs → lv_has ls 3 [(0, .ref (G.2.2 0)), (1, .int x1)] → X23 h → W p l e rmX12_expression s m args below meth c H locs 0 0 (MQ below (va_Qv Q (kB SM G) (aS SM G)) args s 0 0 (aS SM G)) (F0 m 23 ls [])) {H : Heap} {locs : List Loc} {ls : Array Slot} (hW : kW SM G h (aS SM G) s H locs) (hl : lv_has ls 3 [(0, .ref (G.2.2 0)), (1, .int x1)]) (hq : w_X12_expression_46 Q X12 X23 x1 h) : W p l e rmX12_expression s m args below meth c H locs 0 0 (MQ below (va_Qv Q (kB SM G) (aS SM G)) args s 0 0 (aS SM G)) (F0 m 46 ls []) := by
  have hx := C.1
  have hb := C.2.1
  unfold w_X12_expression_46 at hq
  refine lv_aload_n hx hb dX12_expression_46 rfl (lv_at hl 0 rfl) ?_
  refine lv_dup hx hb dX12_expression_47 rfl ?_
  refine gt12_12 C hK hW (rfl : shM 0 = 12) (List.mem_cons_of_mem _ mw607) (fun _ h9 => List.mem_cons_of_mem _ (inU_wsX120 _ h9)) dX12_expression_48 ?_
  refine lv_iconst (v := 1) hx hb dX12_expression_51 (by decide) ?_
  refine lv_iadd hx hb dX12_expression_52 ?_
  refine pt12_12 C hK hW (rfl : shM 0 = 12) (List.mem_cons_of_mem _ mw607) (fun _ h9 => List.mem_cons_of_mem _ (inU_wsX120 _ h9)) dX12_expression_53 (fun h12 H locs eh12 hW => ?_)
  have hq := hq h12 eh12
  refine lv_aload_n hx hb dX12_expression_56 rfl (lv_at hl 0 rfl) ?_
  refine k_cv hW (va_runV (As := []) (rest := []) (k_fix C) (c_X12_goesOn l G h12 _ hq) (cwV 0 C.2.2.2.2.2.1 (gU_V mw658 mw659 mw660 mw5 mw661) rfl rfl rfl (by decide +kernel) ⟨Nat.le_of_ble_eq_true rfl, Nat.le_of_ble_eq_true rfl⟩) (k_preV hK hW (shM_lt (rfl : shM 0 = 12) (by decide)) (ceM_12 (rfl : shM 0 = 12)) (q := (RX12, TX12, 73)) rfl) rfl rfl hl.1 rfl (lv_room (Nat.le_of_ble_eq_true rfl)) dX12_expression_57 ⟨Nat.le_refl 0, Nat.le_refl 0⟩) (fun h13 H locs hq hW => ?_)
  refine lv_aload_n hx hb dX12_expression_60 rfl (lv_at hl 0 rfl) ?_
  refine gt12_46 C hK hW (rfl : shM 0 = 12) (List.mem_cons_of_mem _ mw295) (fun _ h9 => List.mem_cons_of_mem _ (inU_wsX120 _ h9)) dX12_expression_61 ?_
  refine lv_aload_n hx hb dX12_expression_64 rfl (lv_at hl 0 rfl) ?_
  refine gt12_47 C hK hW (rfl : shM 0 = 12) (List.mem_cons_of_mem _ mw690) (fun _ h9 => List.mem_cons_of_mem _ (inU_wsX120 _ h9)) dX12_expression_65 ?_
  refine lv_bipush (v := 6) hx hb dX12_expression_68 (by decide) ?_
  refine k_iast okM C hK hW (shM_lt (rfl : shM 31 = 14) (by decide)) (fun g9 => ceM_14 (rfl : shM 31 = 14) (rfl : lnM 31 = 64)) hq.1 dX12_expression_70 (fun H locs hW => ?_)
  have hq := hq.2
  obtain ⟨h14, eh14⟩ : ∃ z : hp, z = sI h13 31 (ix (gI h13 0 47)) 6 := ⟨_, rfl⟩
  rw [← eh14] at hW
  have hq := hq h14 eh14
  refine lv_aload_n hx hb dX12_expression_71 rfl (lv_at hl 0 rfl) ?_
  refine lv_dup hx hb dX12_expression_72 rfl ?_
  refine gt12_47 C hK hW (rfl : shM 0 = 12) (List.mem_cons_of_mem _ mw690) (fun _ h9 => List.mem_cons_of_mem _ (inU_wsX120 _ h9)) dX12_expression_73 ?_
  refine lv_iconst (v := 1) hx hb dX12_expression_76 (by decide) ?_
  refine lv_iadd hx hb dX12_expression_77 ?_
  refine pt12_47 C hK hW (rfl : shM 0 = 12) (List.mem_cons_of_mem _ mw690) (fun _ h9 => List.mem_cons_of_mem _ (inU_wsX120 _ h9)) dX12_expression_78 (fun h15 H locs eh15 hW => ?_)
  have hq := hq h15 eh15
  refine lv_goto (tgt := 23) hx hb dX12_expression_81 (by decide) ?_
  exact hX23 _ _ _ _ hW (lv_sub hl [0, 1] rfl) hq
theorem k_X12_expression_204 {Q : hp → Prop} {h : hp} (C : kC p s m args meth c cX12_expression 3 none RX12 wUX12_expression) (hK : kK G s) {H : Heap} {locs : List Loc} {ls : Array Slot} (hW : kW SM G h (aS SM G) s H locs) (hl : lv_has ls 3 [(0, .ref (G.2.2 0))]) (hq : w_X12_expression_204 Q h) : W p l e rmX12_expression s m args below meth c H locs 0 0 (MQ below (va_Qv Q (kB SM G) (aS SM G)) args s 0 0 (aS SM G)) (F0 m 204 ls []) := by
  have hx := C.1
  have hb := C.2.1
  unfold w_X12_expression_204 at hq
  refine lv_aload_n hx hb dX12_expression_204 rfl (lv_at hl 0 rfl) ?_
  refine lv_iconst (v := 0) hx hb dX12_expression_205 (by decide) ?_
  refine k_cv hW (va_runV (As := [.int 0]) (rest := []) (k_fix C) (c_X12_comesOut l G h 0 _ hq) (cwV 1 C.2.2.2.2.2.1 (gU_V mw699 mw700 mw701 mw5 mw702) rfl rfl rfl (by decide +kernel) ⟨Nat.le_of_ble_eq_true rfl, Nat.le_of_ble_eq_true rfl⟩) (k_preV hK hW (shM_lt (rfl : shM 0 = 12) (by decide)) (ceM_12 (rfl : shM 0 = 12)) (q := (RX12, TX12, 73)) rfl) rfl rfl hl.1 rfl (lv_room (Nat.le_of_ble_eq_true rfl)) dX12_expression_206 ⟨Nat.le_refl 0, Nat.le_refl 0⟩) (fun h45 H locs hq hW => ?_)
  exact k_vret rfl C hW dX12_expression_209 hq
theorem k_X12_expression_234 {Q : hp → Prop} {X12 : Int32 × hp → Prop} {x1 : Int32} {x2 : Int32} {h : hp} {s0 : Int32} (C : kC p s m args meth c cX12_expression 3 none RX12 wUX12_expression) (hK : kK G s) (hX12 : ∀ (x2 : Int32) (h : hp) (H : Heap) (locs : List Loc) (ls : Array Slot), kW SM G h (aS SM G) s H locs → lv_has ls 3 [(0, .ref (G.2.2 0)), (1, .int x1), (2, .int x2)] → X12 (x2, h) → W p l e rmX12_expression s m args below meth c H locs 0 0 (MQ below (va_Qv Q (kB SM G) (aS SM G)) args s 0 0 (aS SM G)) (F0 m 12 ls [])) {H : Heap} {locs : List Loc} {ls : Array Slot} (hW : kW SM G h (aS SM G) s H locs) (hl : lv_has ls 3 [(0, .ref (G.2.2 0)), (1, .int x1), (2, .int x2)]) (hq : w_X12_expression_234 Q X12 x1 x2 h s0) : W p l e rmX12_expression s m args below meth c H locs 0 0 (MQ below (va_Qv Q (kB SM G) (aS SM G)) args s 0 0 (aS SM G)) (F0 m 234 ls [.int s0, .ref (G.2.2 0)]) := by
  have hx := C.1
  have hb := C.2.1
  unfold w_X12_expression_234 at hq
  refine k_cv hW (va_runV (As := [.int s0]) (rest := []) (k_fix C) (c_X12_comesOut l G h s0 _ hq) (cwV 1 C.2.2.2.2.2.1 (gU_V mw699 mw700 mw701 mw5 mw702) rfl rfl rfl (by decide +kernel) ⟨Nat.le_of_ble_eq_true rfl, Nat.le_of_ble_eq_true rfl⟩) (k_preV hK hW (shM_lt (rfl : shM 0 = 12) (by decide)) (ceM_12 (rfl : shM 0 = 12)) (q := (RX12, TX12, 73)) rfl) rfl rfl hl.1 rfl (lv_room (Nat.le_of_ble_eq_true rfl)) dX12_expression_234 ⟨Nat.le_refl 0, Nat.le_refl 0⟩) (fun h46 H locs hq hW => ?_)
  refine lv_aload_n hx hb dX12_expression_237 rfl (lv_at hl 0 rfl) ?_
  refine gt12_46 C hK hW (rfl : shM 0 = 12) (List.mem_cons_of_mem _ mw295) (fun _ h9 => List.mem_cons_of_mem _ (inU_wsX120 _ h9)) dX12_expression_238 ?_
  refine lv_aload_n hx hb dX12_expression_241 rfl (lv_at hl 0 rfl) ?_
  refine gt12_47 C hK hW (rfl : shM 0 = 12) (List.mem_cons_of_mem _ mw690) (fun _ h9 => List.mem_cons_of_mem _ (inU_wsX120 _ h9)) dX12_expression_242 ?_
  refine lv_aload_n hx hb dX12_expression_245 rfl (lv_at hl 0 rfl) ?_
  refine gt12_5 C hK hW (rfl : shM 0 = 12) (List.mem_cons_of_mem _ mw265) (fun _ h9 => List.mem_cons_of_mem _ (inU_wsX120 _ h9)) dX12_expression_246 ?_
  refine lv_aload_n hx hb dX12_expression_249 rfl (lv_at hl 0 rfl) ?_
  refine gt12_11 C hK hW (rfl : shM 0 = 12) (List.mem_cons_of_mem _ mw606) (fun _ h9 => List.mem_cons_of_mem _ (inU_wsX120 _ h9)) dX12_expression_250 ?_
  refine k_iald C hK hW (shM_lt (rfl : shM 3 = 14) (by decide)) (ceM_14 (rfl : shM 3 = 14) (rfl : lnM 3 = 403)) hq.1 dX12_expression_253 ?_
  have hq := hq.2
  refine k_iast okM C hK hW (shM_lt (rfl : shM 31 = 14) (by decide)) (fun g9 => ceM_14 (rfl : shM 31 = 14) (rfl : lnM 31 = 64)) hq.1 dX12_expression_254 (fun H locs hW => ?_)
  have hq := hq.2
  obtain ⟨h47, eh47⟩ : ∃ z : hp, z = sI h46 31 (ix (gI h46 0 47)) (gI h46 3 (ix (gI h46 0 11))) := ⟨_, rfl⟩
  rw [← eh47] at hW
  have hq := hq h47 eh47
  refine lv_aload_n hx hb dX12_expression_255 rfl (lv_at hl 0 rfl) ?_
  refine lv_dup hx hb dX12_expression_256 rfl ?_
  refine gt12_47 C hK hW (rfl : shM 0 = 12) (List.mem_cons_of_mem _ mw690) (fun _ h9 => List.mem_cons_of_mem _ (inU_wsX120 _ h9)) dX12_expression_257 ?_
  refine lv_iconst (v := 1) hx hb dX12_expression_260 (by decide) ?_
  refine lv_iadd hx hb dX12_expression_261 ?_
  refine pt12_47 C hK hW (rfl : shM 0 = 12) (List.mem_cons_of_mem _ mw690) (fun _ h9 => List.mem_cons_of_mem _ (inU_wsX120 _ h9)) dX12_expression_262 (fun h48 H locs eh48 hW => ?_)
  have hq := hq h48 eh48
  refine lv_aload_n hx hb dX12_expression_265 rfl (lv_at hl 0 rfl) ?_
  refine k_cv hW (va_runV (As := []) (rest := []) (k_fix C) (c_X12_goesOn l G h48 _ hq) (cwV 0 C.2.2.2.2.2.1 (gU_V mw658 mw659 mw660 mw5 mw661) rfl rfl rfl (by decide +kernel) ⟨Nat.le_of_ble_eq_true rfl, Nat.le_of_ble_eq_true rfl⟩) (k_preV hK hW (shM_lt (rfl : shM 0 = 12) (by decide)) (ceM_12 (rfl : shM 0 = 12)) (q := (RX12, TX12, 73)) rfl) rfl rfl hl.1 rfl (lv_room (Nat.le_of_ble_eq_true rfl)) dX12_expression_266 ⟨Nat.le_refl 0, Nat.le_refl 0⟩) (fun h49 H locs hq hW => ?_)
  refine lv_goto (tgt := 12) hx hb dX12_expression_269 (by decide) ?_
  exact hX12 _ _ _ _ _ hW (lv_sub hl [0, 1, 2] rfl) hq
theorem k_X12_expression_186 {Q : hp → Prop} {X12 : Int32 × hp → Prop} {x1 : Int32} {h : hp} {s0 : Int32} (C : kC p s m args meth c cX12_expression 3 none RX12 wUX12_expression) (hK : kK G s) (hX12 : ∀ (x2 : Int32) (h : hp) (H : Heap) (locs : List Loc) (ls : Array Slot), kW SM G h (aS SM G) s H locs → lv_has ls 3 [(0, .ref (G.2.2 0)), (1, .int x1), (2, .int x2)] → X12 (x2, h) → W p l e rmX12_expression s m args below meth c H locs 0 0 (MQ below (va_Qv Q (kB SM G) (aS SM G)) args s 0 0 (aS SM G)) (F0 m 12 ls [])) {H : Heap} {locs : List Loc} {ls : Array Slot} (hW : kW SM G h (aS SM G) s H locs) (hl : lv_has ls 3 [(0, .ref (G.2.2 0)), (1, .int x1)]) (hq : w_X12_expression_186 Q X12 x1 h s0) : W p l e rmX12_expression s m args below meth c H locs 0 0 (MQ below (va_Qv Q (kB SM G) (aS SM G)) args s 0 0 (aS SM G)) (F0 m 186 ls [.int s0]) := by
  have hx := C.1
  have hb := C.2.1
  unfold w_X12_expression_186 at hq
  refine lv_istore_n (lv' := [(2, .int s0), (0, .ref (G.2.2 0)), (1, .int x1)]) hx hb dX12_expression_186 rfl hl (by decide) rfl (fun ls hl => ?_)
  refine lv_iload_n hx hb dX12_expression_187 rfl (lv_at hl 0 rfl) ?_
  refine lv_if_ne (tgt := 210) hx hb dX12_expression_188 (by decide) (fun c36 => ?_) (fun c36 => ?_)
  · have hq := hq.1 c36
    refine lv_aload_n hx hb dX12_expression_210 rfl (lv_at hl 1 rfl) ?_
    refine lv_aload_n hx hb dX12_expression_211 rfl (lv_at hl 1 rfl) ?_
    refine lv_bipush (v := 10) hx hb dX12_expression_212 (by decide) ?_
    refine k_ci hW (va_runV (As := [.int 10]) (rest := [.ref (G.2.2 0)]) (k_fix C) (c_X12_is l G h 10 _ hq) (cwV 1 C.2.2.2.2.2.1 (gU_V mw642 mw643 mw644 mw5 mw645) rfl rfl rfl (by decide +kernel) ⟨Nat.le_of_ble_eq_true rfl, Nat.le_of_ble_eq_true rfl⟩) (k_preV hK hW (shM_lt (rfl : shM 0 = 12) (by decide)) (ceM_12 (rfl : shM 0 = 12)) (q := (RX12, TX12, 73)) rfl) rfl rfl hl.1 rfl (lv_room (Nat.le_of_ble_eq_true rfl)) dX12_expression_214 ⟨Nat.le_refl 0, Nat.le_refl 0⟩) (fun r37 h38 H locs hq hW => ?_)
    rw [hq.1] at hW
    have hq := hq.2
    refine lv_if_ne (tgt := 229) hx hb dX12_expression_217 (by decide) (fun c39 => ?_) (fun c39 => ?_)
    · have hq := hq.1 c39
      refine lv_iconst (v := 1) hx hb dX12_expression_229 (by decide) ?_
      refine lv_goto (tgt := 234) hx hb dX12_expression_230 (by decide) ?_
      exact k_X12_expression_234 C hK hX12 hW (lv_sub hl [1, 2, 0] rfl) hq
    · have hq := hq.2 c39
      refine lv_aload_n hx hb dX12_expression_220 rfl (lv_at hl 1 rfl) ?_
      refine lv_bipush (v := 15) hx hb dX12_expression_221 (by decide) ?_
      refine k_ci hW (va_runV (As := [.int 15]) (rest := [.ref (G.2.2 0)]) (k_fix C) (c_X12_is l G h 15 _ hq) (cwV 1 C.2.2.2.2.2.1 (gU_V mw642 mw643 mw644 mw5 mw645) rfl rfl rfl (by decide +kernel) ⟨Nat.le_of_ble_eq_true rfl, Nat.le_of_ble_eq_true rfl⟩) (k_preV hK hW (shM_lt (rfl : shM 0 = 12) (by decide)) (ceM_12 (rfl : shM 0 = 12)) (q := (RX12, TX12, 73)) rfl) rfl rfl hl.1 rfl (lv_room (Nat.le_of_ble_eq_true rfl)) dX12_expression_223 ⟨Nat.le_refl 0, Nat.le_refl 0⟩) (fun r40 h41 H locs hq hW => ?_)
      rw [hq.1] at hW
      have hq := hq.2
      refine lv_if_eq (tgt := 233) hx hb dX12_expression_226 (by decide) (fun c42 => ?_) (fun c42 => ?_)
      · have hq := hq.1 c42
        refine lv_iconst (v := 0) hx hb dX12_expression_233 (by decide) ?_
        exact k_X12_expression_234 C hK hX12 hW (lv_sub hl [1, 2, 0] rfl) hq
      · have hq := hq.2 c42
        refine lv_iconst (v := 1) hx hb dX12_expression_229 (by decide) ?_
        refine lv_goto (tgt := 234) hx hb dX12_expression_230 (by decide) ?_
        exact k_X12_expression_234 C hK hX12 hW (lv_sub hl [1, 2, 0] rfl) hq
  · have hq := hq.2 c36
    refine lv_aload_n hx hb dX12_expression_191 rfl (lv_at hl 1 rfl) ?_
    refine gt12_12 C hK hW (rfl : shM 0 = 12) (List.mem_cons_of_mem _ mw607) (fun _ h9 => List.mem_cons_of_mem _ (inU_wsX120 _ h9)) dX12_expression_192 ?_
    refine lv_iload_n hx hb dX12_expression_195 rfl (lv_at hl 2 rfl) ?_
    refine lv_icmp_le (tgt := 204) hx hb dX12_expression_196 (by decide) (fun c43 => ?_) (fun c43 => ?_)
    · have hq := hq.1 c43
      exact k_X12_expression_204 C hK hW (lv_sub hl [1] rfl) hq
    · have hq := hq.2 c43
      refine lv_aload_n hx hb dX12_expression_199 rfl (lv_at hl 1 rfl) ?_
      refine lv_iconst (v := 1) hx hb dX12_expression_200 (by decide) ?_
      refine k_cv hW (va_runV (As := [.int 1]) (rest := []) (k_fix C) (c_X12_fail l G h 1 _ hq) (cwV 1 C.2.2.2.2.2.1 (gU_V mw654 mw655 mw656 mw5 mw657) rfl rfl rfl (by decide +kernel) ⟨Nat.le_of_ble_eq_true rfl, Nat.le_of_ble_eq_true rfl⟩) (k_preV hK hW (shM_lt (rfl : shM 0 = 12) (by decide)) (ceM_12 (rfl : shM 0 = 12)) (q := (RX12, TX12, 73)) rfl) rfl rfl hl.1 rfl (lv_room (Nat.le_of_ble_eq_true rfl)) dX12_expression_201 ⟨Nat.le_refl 0, Nat.le_refl 0⟩) (fun h44 H locs hq hW => ?_)
      exact k_X12_expression_204 C hK hW (lv_sub hl [1] rfl) hq
theorem k_X12_expression_145 {Q : hp → Prop} {X12 : Int32 × hp → Prop} {x1 : Int32} {h : hp} (C : kC p s m args meth c cX12_expression 3 none RX12 wUX12_expression) (hK : kK G s) (hX12 : ∀ (x2 : Int32) (h : hp) (H : Heap) (locs : List Loc) (ls : Array Slot), kW SM G h (aS SM G) s H locs → lv_has ls 3 [(0, .ref (G.2.2 0)), (1, .int x1), (2, .int x2)] → X12 (x2, h) → W p l e rmX12_expression s m args below meth c H locs 0 0 (MQ below (va_Qv Q (kB SM G) (aS SM G)) args s 0 0 (aS SM G)) (F0 m 12 ls [])) {H : Heap} {locs : List Loc} {ls : Array Slot} (hW : kW SM G h (aS SM G) s H locs) (hl : lv_has ls 3 [(0, .ref (G.2.2 0)), (1, .int x1)]) (hq : w_X12_expression_145 Q X12 x1 h) : W p l e rmX12_expression s m args below meth c H locs 0 0 (MQ below (va_Qv Q (kB SM G) (aS SM G)) args s 0 0 (aS SM G)) (F0 m 145 ls []) := by
  have hx := C.1
  have hb := C.2.1
  unfold w_X12_expression_145 at hq
  refine lv_aload_n hx hb dX12_expression_145 rfl (lv_at hl 0 rfl) ?_
  refine lv_bipush (v := 8) hx hb dX12_expression_146 (by decide) ?_
  refine k_ci hW (va_runV (As := [.int 8]) (rest := []) (k_fix C) (c_X12_is l G h 8 _ hq) (cwV 1 C.2.2.2.2.2.1 (gU_V mw642 mw643 mw644 mw5 mw645) rfl rfl rfl (by decide +kernel) ⟨Nat.le_of_ble_eq_true rfl, Nat.le_of_ble_eq_true rfl⟩) (k_preV hK hW (shM_lt (rfl : shM 0 = 12) (by decide)) (ceM_12 (rfl : shM 0 = 12)) (q := (RX12, TX12, 73)) rfl) rfl rfl hl.1 rfl (lv_room (Nat.le_of_ble_eq_true rfl)) dX12_expression_148 ⟨Nat.le_refl 0, Nat.le_refl 0⟩) (fun r24 h25 H locs hq hW => ?_)
  rw [hq.1] at hW
  have hq := hq.2
  refine lv_if_ne (tgt := 181) hx hb dX12_expression_151 (by decide) (fun c26 => ?_) (fun c26 => ?_)
  · have hq := hq.1 c26
    refine lv_iconst (v := 1) hx hb dX12_expression_181 (by decide) ?_
    refine lv_goto (tgt := 186) hx hb dX12_expression_182 (by decide) ?_
    exact k_X12_expression_186 C hK hX12 hW (lv_sub hl [0, 1] rfl) hq
  · have hq := hq.2 c26
    refine lv_aload_n hx hb dX12_expression_154 rfl (lv_at hl 0 rfl) ?_
    refine lv_bipush (v := 9) hx hb dX12_expression_155 (by decide) ?_
    refine k_ci hW (va_runV (As := [.int 9]) (rest := []) (k_fix C) (c_X12_is l G h 9 _ hq) (cwV 1 C.2.2.2.2.2.1 (gU_V mw642 mw643 mw644 mw5 mw645) rfl rfl rfl (by decide +kernel) ⟨Nat.le_of_ble_eq_true rfl, Nat.le_of_ble_eq_true rfl⟩) (k_preV hK hW (shM_lt (rfl : shM 0 = 12) (by decide)) (ceM_12 (rfl : shM 0 = 12)) (q := (RX12, TX12, 73)) rfl) rfl rfl hl.1 rfl (lv_room (Nat.le_of_ble_eq_true rfl)) dX12_expression_157 ⟨Nat.le_refl 0, Nat.le_refl 0⟩) (fun r27 h28 H locs hq hW => ?_)
    rw [hq.1] at hW
    have hq := hq.2
    refine lv_if_ne (tgt := 181) hx hb dX12_expression_160 (by decide) (fun c29 => ?_) (fun c29 => ?_)
    · have hq := hq.1 c29
      refine lv_iconst (v := 1) hx hb dX12_expression_181 (by decide) ?_
      refine lv_goto (tgt := 186) hx hb dX12_expression_182 (by decide) ?_
      exact k_X12_expression_186 C hK hX12 hW (lv_sub hl [0, 1] rfl) hq
    · have hq := hq.2 c29
      refine lv_aload_n hx hb dX12_expression_163 rfl (lv_at hl 0 rfl) ?_
      refine lv_bipush (v := 10) hx hb dX12_expression_164 (by decide) ?_
      refine k_ci hW (va_runV (As := [.int 10]) (rest := []) (k_fix C) (c_X12_is l G h 10 _ hq) (cwV 1 C.2.2.2.2.2.1 (gU_V mw642 mw643 mw644 mw5 mw645) rfl rfl rfl (by decide +kernel) ⟨Nat.le_of_ble_eq_true rfl, Nat.le_of_ble_eq_true rfl⟩) (k_preV hK hW (shM_lt (rfl : shM 0 = 12) (by decide)) (ceM_12 (rfl : shM 0 = 12)) (q := (RX12, TX12, 73)) rfl) rfl rfl hl.1 rfl (lv_room (Nat.le_of_ble_eq_true rfl)) dX12_expression_166 ⟨Nat.le_refl 0, Nat.le_refl 0⟩) (fun r30 h31 H locs hq hW => ?_)
      rw [hq.1] at hW
      have hq := hq.2
      refine lv_if_ne (tgt := 181) hx hb dX12_expression_169 (by decide) (fun c32 => ?_) (fun c32 => ?_)
      · have hq := hq.1 c32
        refine lv_iconst (v := 1) hx hb dX12_expression_181 (by decide) ?_
        refine lv_goto (tgt := 186) hx hb dX12_expression_182 (by decide) ?_
        exact k_X12_expression_186 C hK hX12 hW (lv_sub hl [0, 1] rfl) hq
      · have hq := hq.2 c32
        refine lv_aload_n hx hb dX12_expression_172 rfl (lv_at hl 0 rfl) ?_
        refine lv_bipush (v := 15) hx hb dX12_expression_173 (by decide) ?_
        refine k_ci hW (va_runV (As := [.int 15]) (rest := []) (k_fix C) (c_X12_is l G h 15 _ hq) (cwV 1 C.2.2.2.2.2.1 (gU_V mw642 mw643 mw644 mw5 mw645) rfl rfl rfl (by decide +kernel) ⟨Nat.le_of_ble_eq_true rfl, Nat.le_of_ble_eq_true rfl⟩) (k_preV hK hW (shM_lt (rfl : shM 0 = 12) (by decide)) (ceM_12 (rfl : shM 0 = 12)) (q := (RX12, TX12, 73)) rfl) rfl rfl hl.1 rfl (lv_room (Nat.le_of_ble_eq_true rfl)) dX12_expression_175 ⟨Nat.le_refl 0, Nat.le_refl 0⟩) (fun r33 h34 H locs hq hW => ?_)
        rw [hq.1] at hW
        have hq := hq.2
        refine lv_if_eq (tgt := 185) hx hb dX12_expression_178 (by decide) (fun c35 => ?_) (fun c35 => ?_)
        · have hq := hq.1 c35
          refine lv_iconst (v := 0) hx hb dX12_expression_185 (by decide) ?_
          exact k_X12_expression_186 C hK hX12 hW (lv_sub hl [0, 1] rfl) hq
        · have hq := hq.2 c35
          refine lv_iconst (v := 1) hx hb dX12_expression_181 (by decide) ?_
          refine lv_goto (tgt := 186) hx hb dX12_expression_182 (by decide) ?_
          exact k_X12_expression_186 C hK hX12 hW (lv_sub hl [0, 1] rfl) hq
theorem k_X12_expression_b96 {Q : hp → Prop} {X12 : Int32 × hp → Prop} {X96 : hp → Prop} {x1 : Int32} (C : kC p s m args meth c cX12_expression 3 none RX12 wUX12_expression) (hK : kK G s) (hX12 : ∀ (x2 : Int32) (h : hp) (H : Heap) (locs : List Loc) (ls : Array Slot), kW SM G h (aS SM G) s H locs → lv_has ls 3 [(0, .ref (G.2.2 0)), (1, .int x1), (2, .int x2)] → X12 (x2, h) → W p l e rmX12_expression s m args below meth c H locs 0 0 (MQ below (va_Qv Q (kB SM G) (aS SM G)) args s 0 0 (aS SM G)) (F0 m 12 ls [])) (hX96 : ∀ (h : hp) (H : Heap) (locs : List Loc) (ls : Array Slot), kW SM G h (aS SM G) s H locs → lv_has ls 3 [(0, .ref (G.2.2 0)), (1, .int x1)] → X96 h → W p l e rmX12_expression s m args below meth c H locs 0 0 (MQ below (va_Qv Q (kB SM G) (aS SM G)) args s 0 0 (aS SM G)) (F0 m 96 ls [])) {h : hp} {H : Heap} {locs : List Loc} {ls : Array Slot} (hW : kW SM G h (aS SM G) s H locs) (hl : lv_has ls 3 [(0, .ref (G.2.2 0)), (1, .int x1)]) (hq : w_X12_expression_b96 Q X12 x1 X96 h) : W p l e rmX12_expression s m args below meth c H locs 0 0 (MQ below (va_Qv Q (kB SM G) (aS SM G)) args s 0 0 (aS SM G)) (F0 m 96 ls []) := by
  have hx := C.1
  have hb := C.2.1
  unfold w_X12_expression_b96 at hq
  refine lv_aload_n hx hb dX12_expression_96 rfl (lv_at hl 0 rfl) ?_
  refine lv_bipush (v := 7) hx hb dX12_expression_97 (by decide) ?_
  refine k_ci hW (va_runV (As := [.int 7]) (rest := []) (k_fix C) (c_X12_is l G h 7 _ hq) (cwV 1 C.2.2.2.2.2.1 (gU_V mw642 mw643 mw644 mw5 mw645) rfl rfl rfl (by decide +kernel) ⟨Nat.le_of_ble_eq_true rfl, Nat.le_of_ble_eq_true rfl⟩) (k_preV hK hW (shM_lt (rfl : shM 0 = 12) (by decide)) (ceM_12 (rfl : shM 0 = 12)) (q := (RX12, TX12, 73)) rfl) rfl rfl hl.1 rfl (lv_room (Nat.le_of_ble_eq_true rfl)) dX12_expression_99 ⟨Nat.le_refl 0, Nat.le_refl 0⟩) (fun r16 h17 H locs hq hW => ?_)
  rw [hq.1] at hW
  have hq := hq.2
  refine lv_if_eq (tgt := 145) hx hb dX12_expression_102 (by decide) (fun c18 => ?_) (fun c18 => ?_)
  · have hq := hq.1 c18
    exact k_X12_expression_145 C hK hX12 hW (lv_sub hl [0, 1] rfl) hq
  · have hq := hq.2 c18
    refine lv_aload_n hx hb dX12_expression_105 rfl (lv_at hl 0 rfl) ?_
    refine gt12_12 C hK hW (rfl : shM 0 = 12) (List.mem_cons_of_mem _ mw607) (fun _ h9 => List.mem_cons_of_mem _ (inU_wsX120 _ h9)) dX12_expression_106 ?_
    refine lv_iload_n hx hb dX12_expression_109 rfl (lv_at hl 1 rfl) ?_
    refine lv_icmp_le (tgt := 145) hx hb dX12_expression_110 (by decide) (fun c19 => ?_) (fun c19 => ?_)
    · have hq := hq.1 c19
      exact k_X12_expression_145 C hK hX12 hW (lv_sub hl [0, 1] rfl) hq
    · have hq := hq.2 c19
      refine lv_aload_n hx hb dX12_expression_113 rfl (lv_at hl 0 rfl) ?_
      refine lv_iconst (v := 0) hx hb dX12_expression_114 (by decide) ?_
      refine k_cv hW (va_runV (As := [.int 0]) (rest := []) (k_fix C) (c_X12_comesOut l G h 0 _ hq) (cwV 1 C.2.2.2.2.2.1 (gU_V mw699 mw700 mw701 mw5 mw702) rfl rfl rfl (by decide +kernel) ⟨Nat.le_of_ble_eq_true rfl, Nat.le_of_ble_eq_true rfl⟩) (k_preV hK hW (shM_lt (rfl : shM 0 = 12) (by decide)) (ceM_12 (rfl : shM 0 = 12)) (q := (RX12, TX12, 73)) rfl) rfl rfl hl.1 rfl (lv_room (Nat.le_of_ble_eq_true rfl)) dX12_expression_115 ⟨Nat.le_refl 0, Nat.le_refl 0⟩) (fun h20 H locs hq hW => ?_)
      refine lv_aload_n hx hb dX12_expression_118 rfl (lv_at hl 0 rfl) ?_
      refine lv_dup hx hb dX12_expression_119 rfl ?_
      refine gt12_47 C hK hW (rfl : shM 0 = 12) (List.mem_cons_of_mem _ mw690) (fun _ h9 => List.mem_cons_of_mem _ (inU_wsX120 _ h9)) dX12_expression_120 ?_
      refine lv_iconst (v := 1) hx hb dX12_expression_123 (by decide) ?_
      refine lv_isub hx hb dX12_expression_124 ?_
      refine pt12_47 C hK hW (rfl : shM 0 = 12) (List.mem_cons_of_mem _ mw690) (fun _ h9 => List.mem_cons_of_mem _ (inU_wsX120 _ h9)) dX12_expression_125 (fun h21 H locs eh21 hW => ?_)
      have hq := hq h21 eh21
      refine lv_aload_n hx hb dX12_expression_128 rfl (lv_at hl 0 rfl) ?_
      refine lv_dup hx hb dX12_expression_129 rfl ?_
      refine gt12_12 C hK hW (rfl : shM 0 = 12) (List.mem_cons_of_mem _ mw607) (fun _ h9 => List.mem_cons_of_mem _ (inU_wsX120 _ h9)) dX12_expression_130 ?_
      refine lv_iconst (v := 1) hx hb dX12_expression_133 (by decide) ?_
      refine lv_isub hx hb dX12_expression_134 ?_
      refine pt12_12 C hK hW (rfl : shM 0 = 12) (List.mem_cons_of_mem _ mw607) (fun _ h9 => List.mem_cons_of_mem _ (inU_wsX120 _ h9)) dX12_expression_135 (fun h22 H locs eh22 hW => ?_)
      have hq := hq h22 eh22
      refine lv_aload_n hx hb dX12_expression_138 rfl (lv_at hl 0 rfl) ?_
      refine k_cv hW (va_runV (As := []) (rest := []) (k_fix C) (c_X12_goesOn l G h22 _ hq) (cwV 0 C.2.2.2.2.2.1 (gU_V mw658 mw659 mw660 mw5 mw661) rfl rfl rfl (by decide +kernel) ⟨Nat.le_of_ble_eq_true rfl, Nat.le_of_ble_eq_true rfl⟩) (k_preV hK hW (shM_lt (rfl : shM 0 = 12) (by decide)) (ceM_12 (rfl : shM 0 = 12)) (q := (RX12, TX12, 73)) rfl) rfl rfl hl.1 rfl (lv_room (Nat.le_of_ble_eq_true rfl)) dX12_expression_139 ⟨Nat.le_refl 0, Nat.le_refl 0⟩) (fun h23 H locs hq hW => ?_)
      refine lv_goto (tgt := 96) hx hb dX12_expression_142 (by decide) ?_
      exact hX96 _ _ _ _ hW (lv_sub hl [0, 1] rfl) hq
theorem k_X12_expression_96 {Q : hp → Prop} {X12 : Int32 × hp → Prop} {x1 : Int32} (C : kC p s m args meth c cX12_expression 3 none RX12 wUX12_expression) (hK : kK G s) (hX12 : ∀ (x2 : Int32) (h : hp) (H : Heap) (locs : List Loc) (ls : Array Slot), kW SM G h (aS SM G) s H locs → lv_has ls 3 [(0, .ref (G.2.2 0)), (1, .int x1), (2, .int x2)] → X12 (x2, h) → W p l e rmX12_expression s m args below meth c H locs 0 0 (MQ below (va_Qv Q (kB SM G) (aS SM G)) args s 0 0 (aS SM G)) (F0 m 12 ls [])) {h : hp} {H : Heap} {locs : List Loc} {ls : Array Slot} (hW : kW SM G h (aS SM G) s H locs) (hl : lv_has ls 3 [(0, .ref (G.2.2 0)), (1, .int x1)]) (hq : w_X12_expression_96 Q X12 x1 h) : W p l e rmX12_expression s m args below meth c H locs 0 0 (MQ below (va_Qv Q (kB SM G) (aS SM G)) args s 0 0 (aS SM G)) (F0 m 96 ls []) := by
  have key := hq (fun (q : hp) => ∀ (H : Heap) (locs : List Loc) (ls : Array Slot), kW SM G q (aS SM G) s H locs → lv_has ls 3 [(0, .ref (G.2.2 0)), (1, .int x1)] → W p l e rmX12_expression s m args below meth c H locs 0 0 (MQ below (va_Qv Q (kB SM G) (aS SM G)) args s 0 0 (aS SM G)) (F0 m 96 ls []))
    (fun q hq H locs ls hW hl => k_X12_expression_b96 C hK hX12 (fun h H locs ls hW hl hI => hI H locs ls hW hl) hW hl hq)
  exact key _ _ _ hW hl
theorem k_X12_expression_b23 {Q : hp → Prop} {X12 : Int32 × hp → Prop} {X23 : hp → Prop} {x1 : Int32} (C : kC p s m args meth c cX12_expression 3 none RX12 wUX12_expression) (hK : kK G s) (hX12 : ∀ (x2 : Int32) (h : hp) (H : Heap) (locs : List Loc) (ls : Array Slot), kW SM G h (aS SM G) s H locs → lv_has ls 3 [(0, .ref (G.2.2 0)), (1, .int x1), (2, .int x2)] → X12 (x2, h) → W p l e rmX12_expression s m args below meth c H locs 0 0 (MQ below (va_Qv Q (kB SM G) (aS SM G)) args s 0 0 (aS SM G)) (F0 m 12 ls [])) (hX23 : ∀ (h : hp) (H : Heap) (locs : List Loc) (ls : Array Slot), kW SM G h (aS SM G) s H locs → lv_has ls 3 [(0, .ref (G.2.2 0)), (1, .int x1)] → X23 h → W p l e rmX12_expression s m args below meth c H locs 0 0 (MQ below (va_Qv Q (kB SM G) (aS SM G)) args s 0 0 (aS SM G)) (F0 m 23 ls [])) {h : hp} {H : Heap} {locs : List Loc} {ls : Array Slot} (hW : kW SM G h (aS SM G) s H locs) (hl : lv_has ls 3 [(0, .ref (G.2.2 0)), (1, .int x1)]) (hq : w_X12_expression_b23 Q X12 x1 X23 h) : W p l e rmX12_expression s m args below meth c H locs 0 0 (MQ below (va_Qv Q (kB SM G) (aS SM G)) args s 0 0 (aS SM G)) (F0 m 23 ls []) := by
  have hx := C.1
  have hb := C.2.1
  unfold w_X12_expression_b23 at hq
  refine lv_aload_n hx hb dX12_expression_23 rfl (lv_at hl 0 rfl) ?_
  refine lv_bipush (v := 6) hx hb dX12_expression_24 (by decide) ?_
  refine k_ci hW (va_runV (As := [.int 6]) (rest := []) (k_fix C) (c_X12_is l G h 6 _ hq) (cwV 1 C.2.2.2.2.2.1 (gU_V mw642 mw643 mw644 mw5 mw645) rfl rfl rfl (by decide +kernel) ⟨Nat.le_of_ble_eq_true rfl, Nat.le_of_ble_eq_true rfl⟩) (k_preV hK hW (shM_lt (rfl : shM 0 = 12) (by decide)) (ceM_12 (rfl : shM 0 = 12)) (q := (RX12, TX12, 73)) rfl) rfl rfl hl.1 rfl (lv_room (Nat.le_of_ble_eq_true rfl)) dX12_expression_26 ⟨Nat.le_refl 0, Nat.le_refl 0⟩) (fun r5 h6 H locs hq hW => ?_)
  rw [hq.1] at hW
  have hq := hq.2
  refine lv_if_eq (tgt := 84) hx hb dX12_expression_29 (by decide) (fun c7 => ?_) (fun c7 => ?_)
  · have hq := hq.1 c7
    refine lv_aload_n hx hb dX12_expression_84 rfl (lv_at hl 0 rfl) ?_
    refine k_cv hW (va_runV (As := []) (rest := []) (k_fix C) (c_X12_unit l G h _ hq) (cwV 0 C.2.2.2.2.2.1 (gU_V mw691 mw692 mw693 mw5 mw694) rfl rfl rfl (by decide +kernel) ⟨Nat.le_of_ble_eq_true rfl, Nat.le_of_ble_eq_true rfl⟩) (k_preV hK hW (shM_lt (rfl : shM 0 = 12) (by decide)) (ceM_12 (rfl : shM 0 = 12)) (q := (RX12, TX12, 73)) rfl) rfl rfl hl.1 rfl (lv_room (Nat.le_of_ble_eq_true rfl)) dX12_expression_85 ⟨Nat.le_refl 0, Nat.le_refl 0⟩) (fun h8 H locs hq hW => ?_)
    refine lv_aload_n hx hb dX12_expression_88 rfl (lv_at hl 0 rfl) ?_
    refine gt12_13 C hK hW (rfl : shM 0 = 12) (List.mem_cons_of_mem _ mw608) (fun _ h9 => List.mem_cons_of_mem _ (inU_wsX120 _ h9)) dX12_expression_89 ?_
    refine lv_if_le (tgt := 96) hx hb dX12_expression_92 (by decide) (fun c9 => ?_) (fun c9 => ?_)
    · have hq := hq.1 c9
      exact k_X12_expression_96 C hK hX12 hW (lv_sub hl [0, 1] rfl) hq
    · have hq := hq.2 c9
      exact k_vret rfl C hW dX12_expression_95 hq
  · have hq := hq.2 c7
    refine lv_aload_n hx hb dX12_expression_32 rfl (lv_at hl 0 rfl) ?_
    refine gt12_12 C hK hW (rfl : shM 0 = 12) (List.mem_cons_of_mem _ mw607) (fun _ h9 => List.mem_cons_of_mem _ (inU_wsX120 _ h9)) dX12_expression_33 ?_
    refine lv_bipush (v := 6) hx hb dX12_expression_36 (by decide) ?_
    refine lv_icmp_ne (tgt := 46) hx hb dX12_expression_38 (by decide) (fun c10 => ?_) (fun c10 => ?_)
    · have hq := hq.1 c10
      exact k_X12_expression_46 C hK hX12 hX23 hW (lv_sub hl [0, 1] rfl) hq
    · have hq := hq.2 c10
      refine lv_aload_n hx hb dX12_expression_41 rfl (lv_at hl 0 rfl) ?_
      refine lv_iconst (v := 2) hx hb dX12_expression_42 (by decide) ?_
      refine k_cv hW (va_runV (As := [.int 2]) (rest := []) (k_fix C) (c_X12_fail l G h 2 _ hq) (cwV 1 C.2.2.2.2.2.1 (gU_V mw654 mw655 mw656 mw5 mw657) rfl rfl rfl (by decide +kernel) ⟨Nat.le_of_ble_eq_true rfl, Nat.le_of_ble_eq_true rfl⟩) (k_preV hK hW (shM_lt (rfl : shM 0 = 12) (by decide)) (ceM_12 (rfl : shM 0 = 12)) (q := (RX12, TX12, 73)) rfl) rfl rfl hl.1 rfl (lv_room (Nat.le_of_ble_eq_true rfl)) dX12_expression_43 ⟨Nat.le_refl 0, Nat.le_refl 0⟩) (fun h11 H locs hq hW => ?_)
      exact k_X12_expression_46 C hK hX12 hX23 hW (lv_sub hl [0, 1] rfl) hq
theorem k_X12_expression_23 {Q : hp → Prop} {X12 : Int32 × hp → Prop} {x1 : Int32} (C : kC p s m args meth c cX12_expression 3 none RX12 wUX12_expression) (hK : kK G s) (hX12 : ∀ (x2 : Int32) (h : hp) (H : Heap) (locs : List Loc) (ls : Array Slot), kW SM G h (aS SM G) s H locs → lv_has ls 3 [(0, .ref (G.2.2 0)), (1, .int x1), (2, .int x2)] → X12 (x2, h) → W p l e rmX12_expression s m args below meth c H locs 0 0 (MQ below (va_Qv Q (kB SM G) (aS SM G)) args s 0 0 (aS SM G)) (F0 m 12 ls [])) {h : hp} {H : Heap} {locs : List Loc} {ls : Array Slot} (hW : kW SM G h (aS SM G) s H locs) (hl : lv_has ls 3 [(0, .ref (G.2.2 0)), (1, .int x1)]) (hq : w_X12_expression_23 Q X12 x1 h) : W p l e rmX12_expression s m args below meth c H locs 0 0 (MQ below (va_Qv Q (kB SM G) (aS SM G)) args s 0 0 (aS SM G)) (F0 m 23 ls []) := by
  have key := hq (fun (q : hp) => ∀ (H : Heap) (locs : List Loc) (ls : Array Slot), kW SM G q (aS SM G) s H locs → lv_has ls 3 [(0, .ref (G.2.2 0)), (1, .int x1)] → W p l e rmX12_expression s m args below meth c H locs 0 0 (MQ below (va_Qv Q (kB SM G) (aS SM G)) args s 0 0 (aS SM G)) (F0 m 23 ls []))
    (fun q hq H locs ls hW hl => k_X12_expression_b23 C hK hX12 (fun h H locs ls hW hl hI => hI H locs ls hW hl) hW hl hq)
  exact key _ _ _ hW hl
theorem k_X12_expression_b12 {Q : hp → Prop} {X12 : Int32 × hp → Prop} {x1 : Int32} (C : kC p s m args meth c cX12_expression 3 none RX12 wUX12_expression) (hK : kK G s) (hX12 : ∀ (x2 : Int32) (h : hp) (H : Heap) (locs : List Loc) (ls : Array Slot), kW SM G h (aS SM G) s H locs → lv_has ls 3 [(0, .ref (G.2.2 0)), (1, .int x1), (2, .int x2)] → X12 (x2, h) → W p l e rmX12_expression s m args below meth c H locs 0 0 (MQ below (va_Qv Q (kB SM G) (aS SM G)) args s 0 0 (aS SM G)) (F0 m 12 ls [])) {x2 : Int32} {h : hp} {H : Heap} {locs : List Loc} {ls : Array Slot} (hW : kW SM G h (aS SM G) s H locs) (hl : lv_has ls 3 [(0, .ref (G.2.2 0)), (1, .int x1), (2, .int x2)]) (hq : w_X12_expression_b12 Q x1 X12 x2 h) : W p l e rmX12_expression s m args below meth c H locs 0 0 (MQ below (va_Qv Q (kB SM G) (aS SM G)) args s 0 0 (aS SM G)) (F0 m 12 ls []) := by
  have hx := C.1
  have hb := C.2.1
  unfold w_X12_expression_b12 at hq
  refine lv_iload_n hx hb dX12_expression_12 rfl (lv_at hl 2 rfl) ?_
  refine lv_if_eq (tgt := 272) hx hb dX12_expression_13 (by decide) (fun c3 => ?_) (fun c3 => ?_)
  · have hq := hq.1 c3
    exact k_vret rfl C hW dX12_expression_272 hq
  · have hq := hq.2 c3
    refine lv_aload_n hx hb dX12_expression_16 rfl (lv_at hl 0 rfl) ?_
    refine gt12_13 C hK hW (rfl : shM 0 = 12) (List.mem_cons_of_mem _ mw608) (fun _ h9 => List.mem_cons_of_mem _ (inU_wsX120 _ h9)) dX12_expression_17 ?_
    refine lv_if_ne (tgt := 272) hx hb dX12_expression_20 (by decide) (fun c4 => ?_) (fun c4 => ?_)
    · have hq := hq.1 c4
      exact k_vret rfl C hW dX12_expression_272 hq
    · have hq := hq.2 c4
      exact k_X12_expression_23 C hK hX12 hW (lv_sub hl [0, 1] rfl) hq
theorem k_X12_expression_12 {Q : hp → Prop} {x1 : Int32} (C : kC p s m args meth c cX12_expression 3 none RX12 wUX12_expression) (hK : kK G s) {x2 : Int32} {h : hp} {H : Heap} {locs : List Loc} {ls : Array Slot} (hW : kW SM G h (aS SM G) s H locs) (hl : lv_has ls 3 [(0, .ref (G.2.2 0)), (1, .int x1), (2, .int x2)]) (hq : w_X12_expression_12 Q x1 x2 h) : W p l e rmX12_expression s m args below meth c H locs 0 0 (MQ below (va_Qv Q (kB SM G) (aS SM G)) args s 0 0 (aS SM G)) (F0 m 12 ls []) := by
  have key := hq (fun (q : Int32 × hp) => ∀ (H : Heap) (locs : List Loc) (ls : Array Slot), kW SM G q.2 (aS SM G) s H locs → lv_has ls 3 [(0, .ref (G.2.2 0)), (1, .int x1), (2, .int q.1)] → W p l e rmX12_expression s m args below meth c H locs 0 0 (MQ below (va_Qv Q (kB SM G) (aS SM G)) args s 0 0 (aS SM G)) (F0 m 12 ls []))
    (fun q hq H locs ls hW hl => k_X12_expression_b12 C hK (fun x2 h H locs ls hW hl hI => hI H locs ls hW hl) hW hl hq)
  exact key _ _ _ hW hl
theorem k_X12_expression_0 {Q : hp → Prop} {h : hp} (C : kC p s m args meth c cX12_expression 3 none RX12 wUX12_expression) (hK : kK G s) {H : Heap} {locs : List Loc} {ls : Array Slot} (hW : kW SM G h (aS SM G) s H locs) (hl : lv_has ls 3 [(0, .ref (G.2.2 0))]) (hq : w_X12_expression_0 Q h) : W p l e rmX12_expression s m args below meth c H locs 0 0 (MQ below (va_Qv Q (kB SM G) (aS SM G)) args s 0 0 (aS SM G)) (F0 m 0 ls []) := by
  have hx := C.1
  have hb := C.2.1
  unfold w_X12_expression_0 at hq
  refine lv_aload_n hx hb dX12_expression_0 rfl (lv_at hl 0 rfl) ?_
  refine lv_iconst (v := 0) hx hb dX12_expression_1 (by decide) ?_
  refine pt12_47 C hK hW (rfl : shM 0 = 12) (List.mem_cons_of_mem _ mw690) (fun _ h9 => List.mem_cons_of_mem _ (inU_wsX120 _ h9)) dX12_expression_2 (fun h1 H locs eh1 hW => ?_)
  have hq := hq h1 eh1
  refine lv_aload_n hx hb dX12_expression_5 rfl (lv_at hl 0 rfl) ?_
  refine gt12_12 C hK hW (rfl : shM 0 = 12) (List.mem_cons_of_mem _ mw607) (fun _ h9 => List.mem_cons_of_mem _ (inU_wsX120 _ h9)) dX12_expression_6 ?_
  refine lv_topi (fun x1_2 ex1_2 => ?_)
  have hq := hq x1_2 ex1_2
  refine lv_istore_n (lv' := [(1, .int x1_2), (0, .ref (G.2.2 0))]) hx hb dX12_expression_9 rfl hl (by decide) rfl (fun ls hl => ?_)
  refine lv_iconst (v := 1) hx hb dX12_expression_10 (by decide) ?_
  refine lv_istore_n (lv' := [(2, .int 1), (1, .int x1_2), (0, .ref (G.2.2 0))]) hx hb dX12_expression_11 rfl hl (by decide) rfl (fun ls hl => ?_)
  exact k_X12_expression_12 C hK hW (lv_sub hl [2, 1, 0] rfl) hq
theorem c_X12_expression (l : Launch) (G : wG) (h : hp) (Q : hp → Prop) (hq : w_X12_expression h Q) : ctV l SM G yX12_expression wUX12_expression rmX12_expression h [.ref (G.2.2 0)] Q := by
  refine k_start (cc := cX12_expression) (maxL := 3) (rt := none) (own := RX12) (by decide +kernel) rfl rfl (Nat.le_of_ble_eq_true rfl) ?_
  intro p e s m below meth c ls C hK hW hl
  exact k_X12_expression_0 C hK hW hl hq
theorem k_X12_term_24 {Q : hp → Prop} {h : hp} (C : kC p s m args meth c cX12_term 1 none RX12 wUX12_term) (hK : kK G s) {H : Heap} {locs : List Loc} {ls : Array Slot} (hW : kW SM G h (aS SM G) s H locs) (hl : lv_has ls 1 [(0, .ref (G.2.2 0))]) (hq : w_X12_term_24 Q h) : W p l e rmX12_term s m args below meth c H locs 0 0 (MQ below (va_Qv Q (kB SM G) (aS SM G)) args s 0 0 (aS SM G)) (F0 m 24 ls []) := by
  have hx := C.1
  have hb := C.2.1
  unfold w_X12_term_24 at hq
  refine lv_aload_n hx hb dX12_term_24 rfl (lv_at hl 0 rfl) ?_
  refine gt12_42 C hK hW (rfl : shM 0 = 12) (List.mem_cons_of_mem _ mw292) (fun _ h9 => List.mem_cons_of_mem _ (inU_wsX120 _ h9)) dX12_term_25 ?_
  refine lv_aload_n hx hb dX12_term_28 rfl (lv_at hl 0 rfl) ?_
  refine gt12_37 C hK hW (rfl : shM 0 = 12) (List.mem_cons_of_mem _ mw613) (fun _ h9 => List.mem_cons_of_mem _ (inU_wsX120 _ h9)) dX12_term_29 ?_
  refine lv_aload_n hx hb dX12_term_32 rfl (lv_at hl 0 rfl) ?_
  refine gt12_43 C hK hW (rfl : shM 0 = 12) (List.mem_cons_of_mem _ mw614) (fun _ h9 => List.mem_cons_of_mem _ (inU_wsX120 _ h9)) dX12_term_33 ?_
  refine k_iast okM C hK hW (shM_lt (rfl : shM 28 = 14) (by decide)) (fun g9 => ceM_14 (rfl : shM 28 = 14) (rfl : lnM 28 = 260)) hq.1 dX12_term_36 (fun H locs hW => ?_)
  have hq := hq.2
  obtain ⟨h4, eh4⟩ : ∃ z : hp, z = sI h 28 (ix (gI h 0 37)) (gI h 0 43) := ⟨_, rfl⟩
  rw [← eh4] at hW
  have hq := hq h4 eh4
  refine lv_aload_n hx hb dX12_term_37 rfl (lv_at hl 0 rfl) ?_
  refine lv_dup hx hb dX12_term_38 rfl ?_
  refine gt12_37 C hK hW (rfl : shM 0 = 12) (List.mem_cons_of_mem _ mw613) (fun _ h9 => List.mem_cons_of_mem _ (inU_wsX120 _ h9)) dX12_term_39 ?_
  refine lv_iconst (v := 1) hx hb dX12_term_42 (by decide) ?_
  refine lv_iadd hx hb dX12_term_43 ?_
  refine pt12_37 C hK hW (rfl : shM 0 = 12) (List.mem_cons_of_mem _ mw613) (fun _ h9 => List.mem_cons_of_mem _ (inU_wsX120 _ h9)) dX12_term_44 (fun h5 H locs eh5 hW => ?_)
  have hq := hq h5 eh5
  exact k_vret rfl C hW dX12_term_47 hq
theorem k_X12_term_0 {Q : hp → Prop} {h : hp} (C : kC p s m args meth c cX12_term 1 none RX12 wUX12_term) (hK : kK G s) {H : Heap} {locs : List Loc} {ls : Array Slot} (hW : kW SM G h (aS SM G) s H locs) (hl : lv_has ls 1 [(0, .ref (G.2.2 0))]) (hq : w_X12_term_0 Q h) : W p l e rmX12_term s m args below meth c H locs 0 0 (MQ below (va_Qv Q (kB SM G) (aS SM G)) args s 0 0 (aS SM G)) (F0 m 0 ls []) := by
  have hx := C.1
  have hb := C.2.1
  unfold w_X12_term_0 at hq
  refine lv_aload_n hx hb dX12_term_0 rfl (lv_at hl 0 rfl) ?_
  refine gt12_41 C hK hW (rfl : shM 0 = 12) (List.mem_cons_of_mem _ mw291) (fun _ h9 => List.mem_cons_of_mem _ (inU_wsX120 _ h9)) dX12_term_1 ?_
  refine lv_aload_n hx hb dX12_term_4 rfl (lv_at hl 0 rfl) ?_
  refine gt12_37 C hK hW (rfl : shM 0 = 12) (List.mem_cons_of_mem _ mw613) (fun _ h9 => List.mem_cons_of_mem _ (inU_wsX120 _ h9)) dX12_term_5 ?_
  refine lv_aload_n hx hb dX12_term_8 rfl (lv_at hl 0 rfl) ?_
  refine gt12_43 C hK hW (rfl : shM 0 = 12) (List.mem_cons_of_mem _ mw614) (fun _ h9 => List.mem_cons_of_mem _ (inU_wsX120 _ h9)) dX12_term_9 ?_
  refine k_iast okM C hK hW (shM_lt (rfl : shM 27 = 14) (by decide)) (fun g9 => ceM_14 (rfl : shM 27 = 14) (rfl : lnM 27 = 260)) hq.1 dX12_term_12 (fun H locs hW => ?_)
  have hq := hq.2
  obtain ⟨h1, eh1⟩ : ∃ z : hp, z = sI h 27 (ix (gI h 0 37)) (gI h 0 43) := ⟨_, rfl⟩
  rw [← eh1] at hW
  have hq := hq h1 eh1
  refine lv_aload_n hx hb dX12_term_13 rfl (lv_at hl 0 rfl) ?_
  refine gt12_13 C hK hW (rfl : shM 0 = 12) (List.mem_cons_of_mem _ mw608) (fun _ h9 => List.mem_cons_of_mem _ (inU_wsX120 _ h9)) dX12_term_14 ?_
  refine lv_if_ne (tgt := 24) hx hb dX12_term_17 (by decide) (fun c2 => ?_) (fun c2 => ?_)
  · have hq := hq.1 c2
    exact k_X12_term_24 C hK hW (lv_sub hl [0] rfl) hq
  · have hq := hq.2 c2
    refine lv_aload_n hx hb dX12_term_20 rfl (lv_at hl 0 rfl) ?_
    refine k_cv hW (va_runV (As := []) (rest := []) (k_fix C) (c_X12_expression l G h1 _ hq) (cwV 0 C.2.2.2.2.2.1 (gU_V mw686 mw687 mw688 mw5 mw689) rfl rfl rfl (by decide +kernel) ⟨Nat.le_of_ble_eq_true rfl, Nat.le_of_ble_eq_true rfl⟩) (k_preV hK hW (shM_lt (rfl : shM 0 = 12) (by decide)) (ceM_12 (rfl : shM 0 = 12)) (q := (RX12, TX12, 73)) rfl) rfl rfl hl.1 rfl (lv_room (Nat.le_of_ble_eq_true rfl)) dX12_term_21 ⟨Nat.le_refl 0, Nat.le_refl 0⟩) (fun h3 H locs hq hW => ?_)
    exact k_X12_term_24 C hK hW (lv_sub hl [0] rfl) hq
theorem c_X12_term (l : Launch) (G : wG) (h : hp) (Q : hp → Prop) (hq : w_X12_term h Q) : ctV l SM G yX12_term wUX12_term rmX12_term h [.ref (G.2.2 0)] Q := by
  refine k_start (cc := cX12_term) (maxL := 1) (rt := none) (own := RX12) (by decide +kernel) rfl rfl (Nat.le_of_ble_eq_true rfl) ?_
  intro p e s m below meth c ls C hK hW hl
  exact k_X12_term_0 C hK hW hl hq
theorem k_X12_tellLaw_110 {Q : hp → Prop} {X12 : Int32 × hp → Prop} {x1 : Int32} {x2 : Int32} {x3 : Int32} {h : hp} (C : kC p s m args meth c cX12_tellLaw 4 none RX12 wUX12_tellLaw) (hK : kK G s) (hX12 : ∀ (x3 : Int32) (h : hp) (H : Heap) (locs : List Loc) (ls : Array Slot), kW SM G h (aS SM G) s H locs → lv_has ls 4 [(0, .ref (G.2.2 0)), (1, .int x1), (2, .int x2), (3, .int x3)] → X12 (x3, h) → W p l e rmX12_tellLaw s m args below meth c H locs 0 0 (MQ below (va_Qv Q (kB SM G) (aS SM G)) args s 0 0 (aS SM G)) (F0 m 12 ls [])) {H : Heap} {locs : List Loc} {ls : Array Slot} (hW : kW SM G h (aS SM G) s H locs) (hl : lv_has ls 4 [(0, .ref (G.2.2 0)), (1, .int x1), (2, .int x2), (3, .int x3)]) (hq : w_X12_tellLaw_110 Q X12 x1 x2 x3 h) : W p l e rmX12_tellLaw s m args below meth c H locs 0 0 (MQ below (va_Qv Q (kB SM G) (aS SM G)) args s 0 0 (aS SM G)) (F0 m 110 ls []) := by
  have hx := C.1
  have hb := C.2.1
  unfold w_X12_tellLaw_110 at hq
  refine lv_aload_n hx hb dX12_tellLaw_110 rfl (lv_at hl 0 rfl) ?_
  refine lv_bipush (v := 29) hx hb dX12_tellLaw_111 (by decide) ?_
  refine k_cv hW (va_runV (As := [.int 29]) (rest := []) (k_fix C) (c_X12_must l G h 29 _ hq) (cwV 1 C.2.2.2.2.2.1 (gU_V mw670 mw671 mw672 mw5 mw673) rfl rfl rfl (by decide +kernel) ⟨Nat.le_of_ble_eq_true rfl, Nat.le_of_ble_eq_true rfl⟩) (k_preV hK hW (shM_lt (rfl : shM 0 = 12) (by decide)) (ceM_12 (rfl : shM 0 = 12)) (q := (RX12, TX12, 73)) rfl) rfl rfl hl.1 rfl (lv_room (Nat.le_of_ble_eq_true rfl)) dX12_tellLaw_113 ⟨Nat.le_refl 0, Nat.le_refl 0⟩) (fun h19 H locs hq hW => ?_)
  refine lv_aload_n hx hb dX12_tellLaw_116 rfl (lv_at hl 0 rfl) ?_
  refine k_cv hW (va_runV (As := []) (rest := []) (k_fix C) (c_X12_term l G h19 _ hq) (cwV 0 C.2.2.2.2.2.1 (gU_V mw703 mw704 mw705 mw5 mw706) rfl rfl rfl (by decide +kernel) ⟨Nat.le_of_ble_eq_true rfl, Nat.le_of_ble_eq_true rfl⟩) (k_preV hK hW (shM_lt (rfl : shM 0 = 12) (by decide)) (ceM_12 (rfl : shM 0 = 12)) (q := (RX12, TX12, 73)) rfl) rfl rfl hl.1 rfl (lv_room (Nat.le_of_ble_eq_true rfl)) dX12_tellLaw_117 ⟨Nat.le_refl 0, Nat.le_refl 0⟩) (fun h20 H locs hq hW => ?_)
  refine lv_aload_n hx hb dX12_tellLaw_120 rfl (lv_at hl 0 rfl) ?_
  refine lv_bipush (v := 30) hx hb dX12_tellLaw_121 (by decide) ?_
  refine k_cv hW (va_runV (As := [.int 30]) (rest := []) (k_fix C) (c_X12_must l G h20 30 _ hq) (cwV 1 C.2.2.2.2.2.1 (gU_V mw670 mw671 mw672 mw5 mw673) rfl rfl rfl (by decide +kernel) ⟨Nat.le_of_ble_eq_true rfl, Nat.le_of_ble_eq_true rfl⟩) (k_preV hK hW (shM_lt (rfl : shM 0 = 12) (by decide)) (ceM_12 (rfl : shM 0 = 12)) (q := (RX12, TX12, 73)) rfl) rfl rfl hl.1 rfl (lv_room (Nat.le_of_ble_eq_true rfl)) dX12_tellLaw_123 ⟨Nat.le_refl 0, Nat.le_refl 0⟩) (fun h21 H locs hq hW => ?_)
  refine lv_goto (tgt := 12) hx hb dX12_tellLaw_126 (by decide) ?_
  exact hX12 _ _ _ _ _ hW (lv_sub hl [0, 1, 2, 3] rfl) hq
theorem k_X12_tellLaw_38 {Q : hp → Prop} {X12 : Int32 × hp → Prop} {x1 : Int32} {x2 : Int32} {x3 : Int32} {h : hp} (C : kC p s m args meth c cX12_tellLaw 4 none RX12 wUX12_tellLaw) (hK : kK G s) (hX12 : ∀ (x3 : Int32) (h : hp) (H : Heap) (locs : List Loc) (ls : Array Slot), kW SM G h (aS SM G) s H locs → lv_has ls 4 [(0, .ref (G.2.2 0)), (1, .int x1), (2, .int x2), (3, .int x3)] → X12 (x3, h) → W p l e rmX12_tellLaw s m args below meth c H locs 0 0 (MQ below (va_Qv Q (kB SM G) (aS SM G)) args s 0 0 (aS SM G)) (F0 m 12 ls [])) {H : Heap} {locs : List Loc} {ls : Array Slot} (hW : kW SM G h (aS SM G) s H locs) (hl : lv_has ls 4 [(0, .ref (G.2.2 0)), (1, .int x1), (2, .int x2), (3, .int x3)]) (hq : w_X12_tellLaw_38 Q X12 x1 x2 x3 h) : W p l e rmX12_tellLaw s m args below meth c H locs 0 0 (MQ below (va_Qv Q (kB SM G) (aS SM G)) args s 0 0 (aS SM G)) (F0 m 38 ls []) := by
  have hx := C.1
  have hb := C.2.1
  unfold w_X12_tellLaw_38 at hq
  refine lv_aload_n hx hb dX12_tellLaw_38 rfl (lv_at hl 0 rfl) ?_
  refine gt12_13 C hK hW (rfl : shM 0 = 12) (List.mem_cons_of_mem _ mw608) (fun _ h9 => List.mem_cons_of_mem _ (inU_wsX120 _ h9)) dX12_tellLaw_39 ?_
  refine lv_if_le (tgt := 46) hx hb dX12_tellLaw_42 (by decide) (fun c9 => ?_) (fun c9 => ?_)
  · have hq := hq.1 c9
    obtain ⟨x3_10, ex3_10⟩ : ∃ y : Int32, y = x3 + 1 := ⟨_, rfl⟩
    have hq := hq x3_10 ex3_10
    refine lv_iinc (v := x3_10) (lv' := [(3, .int x3_10), (0, .ref (G.2.2 0)), (1, .int x1), (2, .int x2)]) hx hb dX12_tellLaw_46 hl (k := 3) rfl (by rw [ex3_10]; rfl) (by decide) rfl (fun ls hl => ?_)
    refine lv_aload_n hx hb dX12_tellLaw_49 rfl (lv_at hl 1 rfl) ?_
    refine k_cv hW (va_runV (As := []) (rest := []) (k_fix C) (c_X12_goesOn l G h _ hq) (cwV 0 C.2.2.2.2.2.1 (gU_V mw658 mw659 mw660 mw5 mw661) rfl rfl rfl (by decide +kernel) ⟨Nat.le_of_ble_eq_true rfl, Nat.le_of_ble_eq_true rfl⟩) (k_preV hK hW (shM_lt (rfl : shM 0 = 12) (by decide)) (ceM_12 (rfl : shM 0 = 12)) (q := (RX12, TX12, 73)) rfl) rfl rfl hl.1 rfl (lv_room (Nat.le_of_ble_eq_true rfl)) dX12_tellLaw_50 ⟨Nat.le_refl 0, Nat.le_refl 0⟩) (fun h11 H locs hq hW => ?_)
    refine lv_aload_n hx hb dX12_tellLaw_53 rfl (lv_at hl 1 rfl) ?_
    refine gt12_38 C hK hW (rfl : shM 0 = 12) (List.mem_cons_of_mem _ mw288) (fun _ h9 => List.mem_cons_of_mem _ (inU_wsX120 _ h9)) dX12_tellLaw_54 ?_
    refine lv_aload_n hx hb dX12_tellLaw_57 rfl (lv_at hl 1 rfl) ?_
    refine gt12_37 C hK hW (rfl : shM 0 = 12) (List.mem_cons_of_mem _ mw613) (fun _ h9 => List.mem_cons_of_mem _ (inU_wsX120 _ h9)) dX12_tellLaw_58 ?_
    refine lv_iconst (v := 1) hx hb dX12_tellLaw_61 (by decide) ?_
    refine k_zast okM C hK hW (shM_lt (rfl : shM 24 = 16) (by decide)) (fun g9 => ceM_16 (rfl : shM 24 = 16) (rfl : lnM 24 = 260)) hq.1 dX12_tellLaw_62 (fun H locs hW => ?_)
    have hq := hq.2
    obtain ⟨h12, eh12⟩ : ∃ z : hp, z = sI h11 24 (ix (gI h11 0 37)) (jz 1) := ⟨_, rfl⟩
    rw [← eh12] at hW
    have hq := hq h12 eh12
    refine lv_aload_n hx hb dX12_tellLaw_63 rfl (lv_at hl 1 rfl) ?_
    refine gt12_39 C hK hW (rfl : shM 0 = 12) (List.mem_cons_of_mem _ mw289) (fun _ h9 => List.mem_cons_of_mem _ (inU_wsX120 _ h9)) dX12_tellLaw_64 ?_
    refine lv_aload_n hx hb dX12_tellLaw_67 rfl (lv_at hl 1 rfl) ?_
    refine gt12_37 C hK hW (rfl : shM 0 = 12) (List.mem_cons_of_mem _ mw613) (fun _ h9 => List.mem_cons_of_mem _ (inU_wsX120 _ h9)) dX12_tellLaw_68 ?_
    refine lv_aload_n hx hb dX12_tellLaw_71 rfl (lv_at hl 1 rfl) ?_
    refine gt12_43 C hK hW (rfl : shM 0 = 12) (List.mem_cons_of_mem _ mw614) (fun _ h9 => List.mem_cons_of_mem _ (inU_wsX120 _ h9)) dX12_tellLaw_72 ?_
    refine k_iast okM C hK hW (shM_lt (rfl : shM 25 = 14) (by decide)) (fun g9 => ceM_14 (rfl : shM 25 = 14) (rfl : lnM 25 = 260)) hq.1 dX12_tellLaw_75 (fun H locs hW => ?_)
    have hq := hq.2
    obtain ⟨h13, eh13⟩ : ∃ z : hp, z = sI h12 25 (ix (gI h12 0 37)) (gI h12 0 43) := ⟨_, rfl⟩
    rw [← eh13] at hW
    have hq := hq h13 eh13
    refine lv_aload_n hx hb dX12_tellLaw_76 rfl (lv_at hl 1 rfl) ?_
    refine k_cv hW (va_runV (As := []) (rest := []) (k_fix C) (c_X12_expression l G h13 _ hq) (cwV 0 C.2.2.2.2.2.1 (gU_V mw686 mw687 mw688 mw5 mw689) rfl rfl rfl (by decide +kernel) ⟨Nat.le_of_ble_eq_true rfl, Nat.le_of_ble_eq_true rfl⟩) (k_preV hK hW (shM_lt (rfl : shM 0 = 12) (by decide)) (ceM_12 (rfl : shM 0 = 12)) (q := (RX12, TX12, 73)) rfl) rfl rfl hl.1 rfl (lv_room (Nat.le_of_ble_eq_true rfl)) dX12_tellLaw_77 ⟨Nat.le_refl 0, Nat.le_refl 0⟩) (fun h14 H locs hq hW => ?_)
    refine lv_aload_n hx hb dX12_tellLaw_80 rfl (lv_at hl 1 rfl) ?_
    refine lv_bipush (v := 13) hx hb dX12_tellLaw_81 (by decide) ?_
    refine k_cv hW (va_runV (As := [.int 13]) (rest := []) (k_fix C) (c_X12_must l G h14 13 _ hq) (cwV 1 C.2.2.2.2.2.1 (gU_V mw670 mw671 mw672 mw5 mw673) rfl rfl rfl (by decide +kernel) ⟨Nat.le_of_ble_eq_true rfl, Nat.le_of_ble_eq_true rfl⟩) (k_preV hK hW (shM_lt (rfl : shM 0 = 12) (by decide)) (ceM_12 (rfl : shM 0 = 12)) (q := (RX12, TX12, 73)) rfl) rfl rfl hl.1 rfl (lv_room (Nat.le_of_ble_eq_true rfl)) dX12_tellLaw_83 ⟨Nat.le_refl 0, Nat.le_refl 0⟩) (fun h15 H locs hq hW => ?_)
    refine lv_aload_n hx hb dX12_tellLaw_86 rfl (lv_at hl 1 rfl) ?_
    refine gt12_40 C hK hW (rfl : shM 0 = 12) (List.mem_cons_of_mem _ mw290) (fun _ h9 => List.mem_cons_of_mem _ (inU_wsX120 _ h9)) dX12_tellLaw_87 ?_
    refine lv_aload_n hx hb dX12_tellLaw_90 rfl (lv_at hl 1 rfl) ?_
    refine gt12_37 C hK hW (rfl : shM 0 = 12) (List.mem_cons_of_mem _ mw613) (fun _ h9 => List.mem_cons_of_mem _ (inU_wsX120 _ h9)) dX12_tellLaw_91 ?_
    refine lv_aload_n hx hb dX12_tellLaw_94 rfl (lv_at hl 1 rfl) ?_
    refine gt12_43 C hK hW (rfl : shM 0 = 12) (List.mem_cons_of_mem _ mw614) (fun _ h9 => List.mem_cons_of_mem _ (inU_wsX120 _ h9)) dX12_tellLaw_95 ?_
    refine k_iast okM C hK hW (shM_lt (rfl : shM 26 = 14) (by decide)) (fun g9 => ceM_14 (rfl : shM 26 = 14) (rfl : lnM 26 = 260)) hq.1 dX12_tellLaw_98 (fun H locs hW => ?_)
    have hq := hq.2
    obtain ⟨h16, eh16⟩ : ∃ z : hp, z = sI h15 26 (ix (gI h15 0 37)) (gI h15 0 43) := ⟨_, rfl⟩
    rw [← eh16] at hW
    have hq := hq h16 eh16
    refine lv_aload_n hx hb dX12_tellLaw_99 rfl (lv_at hl 1 rfl) ?_
    refine gt12_13 C hK hW (rfl : shM 0 = 12) (List.mem_cons_of_mem _ mw608) (fun _ h9 => List.mem_cons_of_mem _ (inU_wsX120 _ h9)) dX12_tellLaw_100 ?_
    refine lv_if_ne (tgt := 110) hx hb dX12_tellLaw_103 (by decide) (fun c17 => ?_) (fun c17 => ?_)
    · have hq := hq.1 c17
      exact k_X12_tellLaw_110 C hK hX12 hW (lv_sub hl [1, 2, 3, 0] rfl) hq
    · have hq := hq.2 c17
      refine lv_aload_n hx hb dX12_tellLaw_106 rfl (lv_at hl 1 rfl) ?_
      refine k_cv hW (va_runV (As := []) (rest := []) (k_fix C) (c_X12_expression l G h16 _ hq) (cwV 0 C.2.2.2.2.2.1 (gU_V mw686 mw687 mw688 mw5 mw689) rfl rfl rfl (by decide +kernel) ⟨Nat.le_of_ble_eq_true rfl, Nat.le_of_ble_eq_true rfl⟩) (k_preV hK hW (shM_lt (rfl : shM 0 = 12) (by decide)) (ceM_12 (rfl : shM 0 = 12)) (q := (RX12, TX12, 73)) rfl) rfl rfl hl.1 rfl (lv_room (Nat.le_of_ble_eq_true rfl)) dX12_tellLaw_107 ⟨Nat.le_refl 0, Nat.le_refl 0⟩) (fun h18 H locs hq hW => ?_)
      exact k_X12_tellLaw_110 C hK hX12 hW (lv_sub hl [1, 2, 3, 0] rfl) hq
  · have hq := hq.2 c9
    exact k_vret rfl C hW dX12_tellLaw_45 hq
theorem k_X12_tellLaw_129 {Q : hp → Prop} {x1 : Int32} {x2 : Int32} {h : hp} (C : kC p s m args meth c cX12_tellLaw 4 none RX12 wUX12_tellLaw) (hK : kK G s) {H : Heap} {locs : List Loc} {ls : Array Slot} (hW : kW SM G h (aS SM G) s H locs) (hl : lv_has ls 4 [(0, .ref (G.2.2 0)), (1, .int x1), (2, .int x2)]) (hq : w_X12_tellLaw_129 Q x1 x2 h) : W p l e rmX12_tellLaw s m args below meth c H locs 0 0 (MQ below (va_Qv Q (kB SM G) (aS SM G)) args s 0 0 (aS SM G)) (F0 m 129 ls []) := by
  have hx := C.1
  have hb := C.2.1
  unfold w_X12_tellLaw_129 at hq
  refine lv_aload_n hx hb dX12_tellLaw_129 rfl (lv_at hl 0 rfl) ?_
  refine gt12_38 C hK hW (rfl : shM 0 = 12) (List.mem_cons_of_mem _ mw288) (fun _ h9 => List.mem_cons_of_mem _ (inU_wsX120 _ h9)) dX12_tellLaw_130 ?_
  refine lv_aload_n hx hb dX12_tellLaw_133 rfl (lv_at hl 0 rfl) ?_
  refine gt12_37 C hK hW (rfl : shM 0 = 12) (List.mem_cons_of_mem _ mw613) (fun _ h9 => List.mem_cons_of_mem _ (inU_wsX120 _ h9)) dX12_tellLaw_134 ?_
  refine lv_iconst (v := 0) hx hb dX12_tellLaw_137 (by decide) ?_
  refine k_zast okM C hK hW (shM_lt (rfl : shM 24 = 16) (by decide)) (fun g9 => ceM_16 (rfl : shM 24 = 16) (rfl : lnM 24 = 260)) hq.1 dX12_tellLaw_138 (fun H locs hW => ?_)
  have hq := hq.2
  obtain ⟨h22, eh22⟩ : ∃ z : hp, z = sI h 24 (ix (gI h 0 37)) (jz 0) := ⟨_, rfl⟩
  rw [← eh22] at hW
  have hq := hq h22 eh22
  refine lv_aload_n hx hb dX12_tellLaw_139 rfl (lv_at hl 0 rfl) ?_
  refine k_cv hW (va_runV (As := []) (rest := []) (k_fix C) (c_X12_term l G h22 _ hq) (cwV 0 C.2.2.2.2.2.1 (gU_V mw703 mw704 mw705 mw5 mw706) rfl rfl rfl (by decide +kernel) ⟨Nat.le_of_ble_eq_true rfl, Nat.le_of_ble_eq_true rfl⟩) (k_preV hK hW (shM_lt (rfl : shM 0 = 12) (by decide)) (ceM_12 (rfl : shM 0 = 12)) (q := (RX12, TX12, 73)) rfl) rfl rfl hl.1 rfl (lv_room (Nat.le_of_ble_eq_true rfl)) dX12_tellLaw_140 ⟨Nat.le_refl 0, Nat.le_refl 0⟩) (fun h23 H locs hq hW => ?_)
  refine lv_aload_n hx hb dX12_tellLaw_143 rfl (lv_at hl 0 rfl) ?_
  refine lv_iconst (v := 4) hx hb dX12_tellLaw_144 (by decide) ?_
  refine k_cv hW (va_runV (As := [.int 4]) (rest := []) (k_fix C) (c_X12_must l G h23 4 _ hq) (cwV 1 C.2.2.2.2.2.1 (gU_V mw670 mw671 mw672 mw5 mw673) rfl rfl rfl (by decide +kernel) ⟨Nat.le_of_ble_eq_true rfl, Nat.le_of_ble_eq_true rfl⟩) (k_preV hK hW (shM_lt (rfl : shM 0 = 12) (by decide)) (ceM_12 (rfl : shM 0 = 12)) (q := (RX12, TX12, 73)) rfl) rfl rfl hl.1 rfl (lv_room (Nat.le_of_ble_eq_true rfl)) dX12_tellLaw_145 ⟨Nat.le_refl 0, Nat.le_refl 0⟩) (fun h24 H locs hq hW => ?_)
  refine lv_aload_n hx hb dX12_tellLaw_148 rfl (lv_at hl 0 rfl) ?_
  refine gt12_13 C hK hW (rfl : shM 0 = 12) (List.mem_cons_of_mem _ mw608) (fun _ h9 => List.mem_cons_of_mem _ (inU_wsX120 _ h9)) dX12_tellLaw_149 ?_
  refine lv_if_le (tgt := 156) hx hb dX12_tellLaw_152 (by decide) (fun c25 => ?_) (fun c25 => ?_)
  · have hq := hq.1 c25
    refine lv_aload_n hx hb dX12_tellLaw_156 rfl (lv_at hl 0 rfl) ?_
    refine gt12_35 C hK hW (rfl : shM 0 = 12) (List.mem_cons_of_mem _ mw285) (fun _ h9 => List.mem_cons_of_mem _ (inU_wsX120 _ h9)) dX12_tellLaw_157 ?_
    refine lv_iconst (v := 2) hx hb dX12_tellLaw_160 (by decide) ?_
    refine lv_aload_n hx hb dX12_tellLaw_161 rfl (lv_at hl 0 rfl) ?_
    refine gt12_19 C hK hW (rfl : shM 0 = 12) (List.mem_cons_of_mem _ mw611) (fun _ h9 => List.mem_cons_of_mem _ (inU_wsX120 _ h9)) dX12_tellLaw_162 ?_
    refine lv_imul hx hb dX12_tellLaw_165 ?_
    refine lv_iload_n hx hb dX12_tellLaw_166 rfl (lv_at hl 1 rfl) ?_
    refine lv_iadd hx hb dX12_tellLaw_167 ?_
    refine lv_iload_n hx hb dX12_tellLaw_168 rfl (lv_at hl 2 rfl) ?_
    refine k_iast okM C hK hW (shM_lt (rfl : shM 22 = 14) (by decide)) (fun g9 => ceM_14 (rfl : shM 22 = 14) (rfl : lnM 22 = 4)) hq.1 dX12_tellLaw_169 (fun H locs hW => ?_)
    have hq := hq.2
    obtain ⟨h26, eh26⟩ : ∃ z : hp, z = sI h24 22 (ix ((2 * (gI h24 0 19)) + x1)) x2 := ⟨_, rfl⟩
    rw [← eh26] at hW
    have hq := hq h26 eh26
    refine lv_aload_n hx hb dX12_tellLaw_170 rfl (lv_at hl 0 rfl) ?_
    refine gt12_36 C hK hW (rfl : shM 0 = 12) (List.mem_cons_of_mem _ mw286) (fun _ h9 => List.mem_cons_of_mem _ (inU_wsX120 _ h9)) dX12_tellLaw_171 ?_
    refine lv_iconst (v := 2) hx hb dX12_tellLaw_174 (by decide) ?_
    refine lv_aload_n hx hb dX12_tellLaw_175 rfl (lv_at hl 0 rfl) ?_
    refine gt12_19 C hK hW (rfl : shM 0 = 12) (List.mem_cons_of_mem _ mw611) (fun _ h9 => List.mem_cons_of_mem _ (inU_wsX120 _ h9)) dX12_tellLaw_176 ?_
    refine lv_imul hx hb dX12_tellLaw_179 ?_
    refine lv_iload_n hx hb dX12_tellLaw_180 rfl (lv_at hl 1 rfl) ?_
    refine lv_iadd hx hb dX12_tellLaw_181 ?_
    refine lv_aload_n hx hb dX12_tellLaw_182 rfl (lv_at hl 0 rfl) ?_
    refine gt12_37 C hK hW (rfl : shM 0 = 12) (List.mem_cons_of_mem _ mw613) (fun _ h9 => List.mem_cons_of_mem _ (inU_wsX120 _ h9)) dX12_tellLaw_183 ?_
    refine k_iast okM C hK hW (shM_lt (rfl : shM 23 = 14) (by decide)) (fun g9 => ceM_14 (rfl : shM 23 = 14) (rfl : lnM 23 = 4)) hq.1 dX12_tellLaw_186 (fun H locs hW => ?_)
    have hq := hq.2
    obtain ⟨h27, eh27⟩ : ∃ z : hp, z = sI h26 23 (ix ((2 * (gI h26 0 19)) + x1)) (gI h26 0 37) := ⟨_, rfl⟩
    rw [← eh27] at hW
    have hq := hq h27 eh27
    exact k_vret rfl C hW dX12_tellLaw_187 hq
  · have hq := hq.2 c25
    exact k_vret rfl C hW dX12_tellLaw_155 hq
theorem k_X12_tellLaw_b12 {Q : hp → Prop} {X12 : Int32 × hp → Prop} {x1 : Int32} {x2 : Int32} (C : kC p s m args meth c cX12_tellLaw 4 none RX12 wUX12_tellLaw) (hK : kK G s) (hX12 : ∀ (x3 : Int32) (h : hp) (H : Heap) (locs : List Loc) (ls : Array Slot), kW SM G h (aS SM G) s H locs → lv_has ls 4 [(0, .ref (G.2.2 0)), (1, .int x1), (2, .int x2), (3, .int x3)] → X12 (x3, h) → W p l e rmX12_tellLaw s m args below meth c H locs 0 0 (MQ below (va_Qv Q (kB SM G) (aS SM G)) args s 0 0 (aS SM G)) (F0 m 12 ls [])) {x3 : Int32} {h : hp} {H : Heap} {locs : List Loc} {ls : Array Slot} (hW : kW SM G h (aS SM G) s H locs) (hl : lv_has ls 4 [(0, .ref (G.2.2 0)), (1, .int x1), (2, .int x2), (3, .int x3)]) (hq : w_X12_tellLaw_b12 Q x1 x2 X12 x3 h) : W p l e rmX12_tellLaw s m args below meth c H locs 0 0 (MQ below (va_Qv Q (kB SM G) (aS SM G)) args s 0 0 (aS SM G)) (F0 m 12 ls []) := by
  have hx := C.1
  have hb := C.2.1
  unfold w_X12_tellLaw_b12 at hq
  refine lv_aload_n hx hb dX12_tellLaw_12 rfl (lv_at hl 0 rfl) ?_
  refine gt12_13 C hK hW (rfl : shM 0 = 12) (List.mem_cons_of_mem _ mw608) (fun _ h9 => List.mem_cons_of_mem _ (inU_wsX120 _ h9)) dX12_tellLaw_13 ?_
  refine lv_if_ne (tgt := 129) hx hb dX12_tellLaw_16 (by decide) (fun c3 => ?_) (fun c3 => ?_)
  · have hq := hq.1 c3
    exact k_X12_tellLaw_129 C hK hW (lv_sub hl [0, 1, 2] rfl) hq
  · have hq := hq.2 c3
    refine lv_aload_n hx hb dX12_tellLaw_19 rfl (lv_at hl 0 rfl) ?_
    refine lv_bipush (v := 28) hx hb dX12_tellLaw_20 (by decide) ?_
    refine k_ci hW (va_runV (As := [.int 28]) (rest := []) (k_fix C) (c_X12_is l G h 28 _ hq) (cwV 1 C.2.2.2.2.2.1 (gU_V mw642 mw643 mw644 mw5 mw645) rfl rfl rfl (by decide +kernel) ⟨Nat.le_of_ble_eq_true rfl, Nat.le_of_ble_eq_true rfl⟩) (k_preV hK hW (shM_lt (rfl : shM 0 = 12) (by decide)) (ceM_12 (rfl : shM 0 = 12)) (q := (RX12, TX12, 73)) rfl) rfl rfl hl.1 rfl (lv_room (Nat.le_of_ble_eq_true rfl)) dX12_tellLaw_22 ⟨Nat.le_refl 0, Nat.le_refl 0⟩) (fun r4 h5 H locs hq hW => ?_)
    rw [hq.1] at hW
    have hq := hq.2
    refine lv_if_eq (tgt := 129) hx hb dX12_tellLaw_25 (by decide) (fun c6 => ?_) (fun c6 => ?_)
    · have hq := hq.1 c6
      exact k_X12_tellLaw_129 C hK hW (lv_sub hl [0, 1, 2] rfl) hq
    · have hq := hq.2 c6
      refine lv_iload_n hx hb dX12_tellLaw_28 rfl (lv_at hl 3 rfl) ?_
      refine lv_iconst (v := 4) hx hb dX12_tellLaw_29 (by decide) ?_
      refine lv_icmp_ne (tgt := 38) hx hb dX12_tellLaw_30 (by decide) (fun c7 => ?_) (fun c7 => ?_)
      · have hq := hq.1 c7
        exact k_X12_tellLaw_38 C hK hX12 hW (lv_sub hl [0, 1, 2, 3] rfl) hq
      · have hq := hq.2 c7
        refine lv_aload_n hx hb dX12_tellLaw_33 rfl (lv_at hl 0 rfl) ?_
        refine lv_iconst (v := 2) hx hb dX12_tellLaw_34 (by decide) ?_
        refine k_cv hW (va_runV (As := [.int 2]) (rest := []) (k_fix C) (c_X12_fail l G h 2 _ hq) (cwV 1 C.2.2.2.2.2.1 (gU_V mw654 mw655 mw656 mw5 mw657) rfl rfl rfl (by decide +kernel) ⟨Nat.le_of_ble_eq_true rfl, Nat.le_of_ble_eq_true rfl⟩) (k_preV hK hW (shM_lt (rfl : shM 0 = 12) (by decide)) (ceM_12 (rfl : shM 0 = 12)) (q := (RX12, TX12, 73)) rfl) rfl rfl hl.1 rfl (lv_room (Nat.le_of_ble_eq_true rfl)) dX12_tellLaw_35 ⟨Nat.le_refl 0, Nat.le_refl 0⟩) (fun h8 H locs hq hW => ?_)
        exact k_X12_tellLaw_38 C hK hX12 hW (lv_sub hl [0, 1, 2, 3] rfl) hq
theorem k_X12_tellLaw_12 {Q : hp → Prop} {x1 : Int32} {x2 : Int32} (C : kC p s m args meth c cX12_tellLaw 4 none RX12 wUX12_tellLaw) (hK : kK G s) {x3 : Int32} {h : hp} {H : Heap} {locs : List Loc} {ls : Array Slot} (hW : kW SM G h (aS SM G) s H locs) (hl : lv_has ls 4 [(0, .ref (G.2.2 0)), (1, .int x1), (2, .int x2), (3, .int x3)]) (hq : w_X12_tellLaw_12 Q x1 x2 x3 h) : W p l e rmX12_tellLaw s m args below meth c H locs 0 0 (MQ below (va_Qv Q (kB SM G) (aS SM G)) args s 0 0 (aS SM G)) (F0 m 12 ls []) := by
  have key := hq (fun (q : Int32 × hp) => ∀ (H : Heap) (locs : List Loc) (ls : Array Slot), kW SM G q.2 (aS SM G) s H locs → lv_has ls 4 [(0, .ref (G.2.2 0)), (1, .int x1), (2, .int x2), (3, .int q.1)] → W p l e rmX12_tellLaw s m args below meth c H locs 0 0 (MQ below (va_Qv Q (kB SM G) (aS SM G)) args s 0 0 (aS SM G)) (F0 m 12 ls []))
    (fun q hq H locs ls hW hl => k_X12_tellLaw_b12 C hK (fun x3 h H locs ls hW hl hI => hI H locs ls hW hl) hW hl hq)
  exact key _ _ _ hW hl
theorem k_X12_tellLaw_0 {Q : hp → Prop} {x1 : Int32} {h : hp} (C : kC p s m args meth c cX12_tellLaw 4 none RX12 wUX12_tellLaw) (hK : kK G s) {H : Heap} {locs : List Loc} {ls : Array Slot} (hW : kW SM G h (aS SM G) s H locs) (hl : lv_has ls 4 [(0, .ref (G.2.2 0)), (1, .int x1)]) (hq : w_X12_tellLaw_0 Q x1 h) : W p l e rmX12_tellLaw s m args below meth c H locs 0 0 (MQ below (va_Qv Q (kB SM G) (aS SM G)) args s 0 0 (aS SM G)) (F0 m 0 ls []) := by
  have hx := C.1
  have hb := C.2.1
  unfold w_X12_tellLaw_0 at hq
  refine lv_aload_n hx hb dX12_tellLaw_0 rfl (lv_at hl 0 rfl) ?_
  refine lv_iconst (v := 5) hx hb dX12_tellLaw_1 (by decide) ?_
  refine k_cv hW (va_runV (As := [.int 5]) (rest := []) (k_fix C) (c_X12_must l G h 5 _ hq) (cwV 1 C.2.2.2.2.2.1 (gU_V mw670 mw671 mw672 mw5 mw673) rfl rfl rfl (by decide +kernel) ⟨Nat.le_of_ble_eq_true rfl, Nat.le_of_ble_eq_true rfl⟩) (k_preV hK hW (shM_lt (rfl : shM 0 = 12) (by decide)) (ceM_12 (rfl : shM 0 = 12)) (q := (RX12, TX12, 73)) rfl) rfl rfl hl.1 rfl (lv_room (Nat.le_of_ble_eq_true rfl)) dX12_tellLaw_2 ⟨Nat.le_refl 0, Nat.le_refl 0⟩) (fun h1 H locs hq hW => ?_)
  refine lv_aload_n hx hb dX12_tellLaw_5 rfl (lv_at hl 0 rfl) ?_
  refine gt12_37 C hK hW (rfl : shM 0 = 12) (List.mem_cons_of_mem _ mw613) (fun _ h9 => List.mem_cons_of_mem _ (inU_wsX120 _ h9)) dX12_tellLaw_6 ?_
  refine lv_topi (fun x2_2 ex2_2 => ?_)
  have hq := hq x2_2 ex2_2
  refine lv_istore_n (lv' := [(2, .int x2_2), (0, .ref (G.2.2 0)), (1, .int x1)]) hx hb dX12_tellLaw_9 rfl hl (by decide) rfl (fun ls hl => ?_)
  refine lv_iconst (v := 0) hx hb dX12_tellLaw_10 (by decide) ?_
  refine lv_istore_n (lv' := [(3, .int 0), (2, .int x2_2), (0, .ref (G.2.2 0)), (1, .int x1)]) hx hb dX12_tellLaw_11 rfl hl (by decide) rfl (fun ls hl => ?_)
  exact k_X12_tellLaw_12 C hK hW (lv_sub hl [2, 3, 1, 0] rfl) hq
theorem c_X12_tellLaw (l : Launch) (G : wG) (h : hp) (x1 : Int32) (Q : hp → Prop) (hq : w_X12_tellLaw h x1 Q) : ctV l SM G yX12_tellLaw wUX12_tellLaw rmX12_tellLaw h [.ref (G.2.2 0), .int x1] Q := by
  refine k_start (cc := cX12_tellLaw) (maxL := 4) (rt := none) (own := RX12) (by decide +kernel) rfl rfl (Nat.le_of_ble_eq_true rfl) ?_
  intro p e s m below meth c ls C hK hW hl
  exact k_X12_tellLaw_0 C hK hW hl hq
end LINKS
